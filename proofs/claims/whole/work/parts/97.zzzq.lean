/-! plans: the class loads parts and queues -/
noncomputable def plc (m : Nat → Int32) : Nat → Nat × (Nat → Nat)
  | 0 => (0, fun _ => 0)
  | q + 1 => if dB ((plc m q).1 < 5 ∧ vP m q ∧ m (130 + 645 * q + 2) = nI 0 ∧ wyT m q (m 0) 0 ≠ none) = true then ((plc m q).1 + 1, upN (plc m q).2 (plc m q).1 q) else plc m q
theorem plc_t {m : Nat → Int32} {q : Nat} (h : (plc m q).1 < 5 ∧ vP m q ∧ m (130 + 645 * q + 2) = nI 0 ∧ wyT m q (m 0) 0 ≠ none) : plc m (q + 1) = ((plc m q).1 + 1, upN (plc m q).2 (plc m q).1 q) := by
  show (if dB _ = true then _ else _) = _
  rw [dB_t h, if_pos rfl]
theorem plc_f {m : Nat → Int32} {q : Nat} (h : ¬ ((plc m q).1 < 5 ∧ vP m q ∧ m (130 + 645 * q + 2) = nI 0 ∧ wyT m q (m 0) 0 ≠ none)) : plc m (q + 1) = plc m q := by
  show (if dB _ = true then _ else _) = _
  rw [dB_f h, if_neg (by decide)]
theorem plc_b (m : Nat → Int32) : ∀ q, (plc m q).1 ≤ 5 ∧ ∀ i, i < (plc m q).1 → vP m ((plc m q).2 i)
  | 0 => ⟨Nat.zero_le _, fun i hi => absurd hi (Nat.not_lt_zero i)⟩
  | q + 1 => by
    obtain ⟨h1, h2⟩ := plc_b m q
    by_cases h : (plc m q).1 < 5 ∧ vP m q ∧ m (130 + 645 * q + 2) = nI 0 ∧ wyT m q (m 0) 0 ≠ none
    · rw [plc_t h]
      refine ⟨h.1, fun i hi => ?_⟩
      show vP m (upN (plc m q).2 (plc m q).1 q i)
      unfold upN
      by_cases z : i = (plc m q).1
      · rw [if_pos z]; exact h.2.1
      · rw [if_neg z]
        have hi' : i < (plc m q).1 + 1 := hi
        exact h2 i (by omega)
    · rw [plc_f h]
      exact ⟨h1, h2⟩
theorem plc_up {m : Nat → Int32} {q : Nat} (h : (plc m q).1 = 5 ∨ ∀ r, q ≤ r → ¬ vP m r) : ∀ d, plc m (q + d) = plc m q
  | 0 => rfl
  | d + 1 => by
    have ih := plc_up h d
    have e : plc m (q + d + 1) = plc m (q + d) := plc_f (fun c => by
      rcases h with h | h
      · have := c.1
        rw [ih, h] at this
        omega
      · exact h (q + d) (Nat.le_add_right _ _) c.2.1)
    exact e.trans ih
noncomputable def pnN (m : Nat → Int32) : Nat := (plc m 100).1
noncomputable def pqN (m : Nat → Int32) (i : Nat) : Nat := (plc m 100).2 i
noncomputable def pL (m : Nat → Int32) (i : Nat) : Nat := if i < pnN m then wyN m (pqN m i) else 0
noncomputable def pD (m : Nat → Int32) (i : Nat) : Nat := if i < pnN m then Nn m (90 + pqN m i / 5) else 0
noncomputable def pX (m : Nat → Int32) (k : Nat) : Nat := Nn m 0 + qlN m k (Nn m (320230 + 183 * k + 29))
noncomputable def pB (m : Nat → Int32) (k : Nat) : Bool := dB (m (320230 + 183 * k + 28) ≠ nI 0)
section
variable {tg : Nat → List Nat} {h h' h1 g g1 : Hp} {m kk t : Nat → Int32} {ii nn f : Int32} {c k j q r x n : Nat} {D : Nat → Prop}
theorem p_bd (I : MI m) : pnN m ≤ 5 ∧ (∀ i, pL m i ≤ 40) ∧ (∀ i, pnN m ≤ i → pL m i = 0) ∧ ∀ i, pD m i ≤ 600 := by
  obtain ⟨h1, h2⟩ := plc_b m 100
  refine ⟨h1, fun i => ?_, fun i hi => ?_, fun i => ?_⟩
  · unfold pL
    split
    · exact wy_b I (h2 i (by assumption))
    · omega
  · unfold pL
    rw [if_neg (by omega)]
  · unfold pD
    split
    · have v := h2 i (by assumption)
      have f1 := I.1.f.2.1.2
      exact ((I.1.2.2.2.2.2.2.2.2.2 _ v.2.1).2.1.eq (by omega)).2
    · omega
theorem pX_b (I : MI m) (hk : k < Nn m 3) : pX m k ≤ 1800 := by
  have f0 := I.1.f.1.2
  have l30 := ((I.2.2.2.1 k hk).2.2.2.1.eq (by omega)).2
  have := ql_b I hk _ (Nat.le_refl _)
  unfold pX
  omega
/-- the class's state while it plans -/
def CL (tg : Nat → List Nat) (h : Hp) (m kk t : Nat → Int32) (ii nn f : Int32) (g : Hp) : Prop := CSt tg g m kk ii t nn f ∧ Fr (fun _ => True) h g ∧ Rp h g
theorem cl_sc (R : RSt h m kk ii t nn f) (C : CL tg h m kk t ii nn f g) (a : Sc tg 19 5 g g1) : CL tg h m kk t ii nn f g1 := by
  obtain ⟨c1, c2, c3⟩ := C
  exact ⟨c1.sc a, c2.trans (Fr.mono (show Fr (fun b => b ≠ 0 ∧ scT 5 (tg b)) g g1 from a.1) (fun _ _ => trivial)), c3.tr (a.rp c1.1 (R.rp c3))⟩
theorem cl_ft (R : RSt h m kk ii t nn f) (C : CL tg h m kk t ii nn f g) (F : Fr D g g1) (hD : ∀ b, D b → b ≠ 0 ∧ [8] <:+ tg b) : CL tg h m kk t ii nn f g1 := by
  obtain ⟨c1, c2, c3⟩ := C
  exact ⟨c1.ft F hD (Or.inr rfl), c2.trans (F.mono (fun _ _ => trivial)), c3.tr (F.rp (fun b d => nr c1.1 (R.rp c3).1 (x := 8) (by omega) (by omega) (hD b d).2))⟩
/-- the planner's cells -/
theorem pl_x (C : CSt tg h m kk ii t nn f) : PX h (gP h 68) ∧ PA (gP h 68) ∧ (∀ b, (b = 68 ∨ ∃ k, 1 ≤ k ∧ k ≤ 4 ∧ b = gP h 68 k) → b ≠ 0 ∧ [8] <:+ tg b) := by
  obtain ⟨O, X, X2, -⟩ := id C
  obtain ⟨t1, t2, t3, t4, t5, t13, t19, t48, t59, t68⟩ := tgs O X
  obtain ⟨-, -, -, -, -, -, -, -, a1, a2, a3, a4, -⟩ := X2
  have z : ∀ k, 1 ≤ k → k ≤ 4 → gP h 68 k ≠ 0 := fun k h1 h2 => by
    have : k = 1 ∨ k = 2 ∨ k = 3 ∨ k = 4 := by omega
    rcases this with rfl | rfl | rfl | rfl
    · exact a1.1
    · exact a2.1
    · exact a3.1
    · exact a4.1
  have tk : ∀ k, 1 ≤ k → k ≤ 4 → tg (gP h 68 k) = [k, 8] := fun k h1 h2 => by rw [tgc O (z k h1 h2) (by omega), t68]
  refine ⟨⟨X.f.2.2.2.2.2.2.2.2.2.2.2.2.2.2.2.2.2.1, rfl, a1.2, a2.2, a3.2, a4.2⟩, fun k h1 h2 => ⟨fun e => ?_, fun l h3 h4 hn e => ?_⟩, fun b hb => ?_⟩
  · have := tk k h1 h2
    rw [e, t68] at this
    simp at this
  · have := tk k h1 h2
    rw [e, tk l h3 h4] at this
    simp at this
    exact hn this.symm
  · rcases hb with rfl | ⟨k, h1, h2, rfl⟩
    · exact ⟨by omega, by rw [t68]; exact List.suffix_refl _⟩
    · exact ⟨z k h1 h2, by rw [tk k h1 h2]; exact List.suffix_append [k] [8]⟩
theorem X8 (X : XS h) : gP h 1 8 = 68 := X.f.2.2.2.2.2.2.2.2.2.2.2.2.2.2.2.2.1
/-- they stay under the room's scratch -/
theorem pl_sc (C : CSt tg h m kk ii t nn f) (a : Sc tg 19 5 h h1) : gI h1 68 = gI h 68 ∧ ∀ k, 1 ≤ k → k ≤ 4 → gI h1 (gP h 68 k) = gI h (gP h 68 k) := by
  obtain ⟨-, -, hD⟩ := pl_x C
  have nn : ∀ b, b ≠ 0 ∧ [8] <:+ tg b → gI h1 b = gI h b := fun b hb => (a.1.same (b := b) (fun z => by
    have := suf1 z.sf hb.2
    omega)).2.2.1
  exact ⟨nn 68 (hD 68 (Or.inl rfl)), fun k h1 h2 => nn _ (hD _ (Or.inr ⟨k, h1, h2, rfl⟩))⟩
/-- a part's best way now -/
theorem c_sol (C : CSt tg h m kk ii t nn f) (hq : vP m q) (hc : c = gP h (gP h 19 5) q) (c0 : c ≠ 0) (cS : PtS h c) (cV : PtV h c m q) : ∃ b h1 g, MX7_breakerFor h 19 c (m 0) = some (b, h1) ∧ kd h1 b = 0 ∧ MX0_solve h1 b (nI 0) = some (enL (wyT m q (m 0) 0), g) ∧ Sc tg 19 5 h g := by
  obtain ⟨O, X, X2, S, V, Dk, DV, I, T, Im, Tr⟩ := id C
  have K := C.rt
  have J := I.2.1 q hq
  have P := ps_q (q := q) I.w (m 0)
  obtain ⟨-, j40, j1⟩ := J.n
  obtain ⟨h1, k1, k2, k3, k4⟩ := br_now C hq hc c0 cS cV
  obtain ⟨g, s1, s2, s3⟩ := c_solve P k3 k4 I.1 hq J (fr := 0) (by omega)
  exact ⟨gP h 19 14, h1, g, k1, k3.1.1, s1, sc_dw K S k2 s2⟩
/-- a queue in lines -/
theorem c_queued (R : RSt h m kk ii t nn f) (C : CL tg h m kk t ii nn f g) (hk : k < Nn m 3) : ∃ g1, MX7_queuedLines g 19 (gP g (gP g 19 8) k) = some (nI (qlN m k (Nn m (320230 + 183 * k + 29))), g1) ∧ Sc tg 19 5 g g1 := by
  obtain ⟨C0, -, -⟩ := id C
  obtain ⟨O, X, X2, S, V, Dk, DV, I, T, Im, Tr⟩ := id C0
  have K := C0.rt
  have l30 := ((I.2.2.2.1 k hk).2.2.2.1.eq (by omega))
  obtain ⟨M, hM⟩ : ∃ M, M = gP g (gP g 19 8) k := ⟨_, rfl⟩
  have lp : ∃ z, it (fun y : Int32 × Int32 × Hp => BX7_queuedLines_4 y.2.2 19 M y.1 y.2.1) (nI 0, nI 0, g) = some z ∧ z.1 = nI (qlN m k (Nn m (320230 + 183 * k + 29))) ∧ Sc tg 19 5 g z.2 := by
    refine it_cnt (fun j y => y.1 = nI (qlN m k j) ∧ y.2.1 = nI j ∧ Sc tg 19 5 g y.2.2) (Nn m (320230 + 183 * k + 29)) (fun j y hj pp => ?_) (fun y pp => ?_) ⟨rfl, rfl, Sc.rfl S⟩
    · obtain ⟨a1, a2, e⟩ := y
      obtain ⟨p1, p2, sc⟩ := pp
      replace p1 : a1 = nI (qlN m k j) := p1
      replace p2 : a2 = nI j := p2
      replace sc : Sc tg 19 5 g e := sc
      subst p1 p2
      have Ce := cl_sc R C sc
      obtain ⟨Ce0, -, -⟩ := id Ce
      obtain ⟨-, -, -, Se, Ve, -⟩ := id Ce0
      obtain ⟨Kg, -, -, eg, ek, ei⟩ := rq_sc K S V sc
      obtain ⟨M', m1, m2, m3, m4, m5⟩ := c_findMachine_t Se Ve I.1 hk
      have eM : M' = M := by rw [m1, eg, hM]
      rw [eM] at m3 m4 m5
      obtain ⟨v0, v1, v2, v3, v4, v5, v6, v7⟩ := m5
      obtain ⟨w7, w8, w10, w9⟩ := v7 j hj
      obtain ⟨j1, j2, j3, j4, j5, j6, j7, j8⟩ := (I.2.2.2.1 k hk).2.2.2.2 j hj
      have jb := jl_b I hk hj
      have qb := ql_b I hk j (by omega)
      obtain ⟨q, hq⟩ : ∃ q, q = Nn m (320230 + 183 * k + 33 + 5 * j) := ⟨_, rfl⟩
      rw [← hq] at j2 j7 j8 w9
      have eq0 : m (320230 + 183 * k + 33 + 5 * j) = nI q := by rw [hq]; exact (j1.eq (by omega)).1
      obtain ⟨P, c0, c1, c2, c3, c4⟩ := c_findPart_t Se Ve I.1 j2
      have e11 : gI e P 11 = m (130 + 645 * q + 3) := c4.2.2.2.2.2.1
      have e61 : ∀ x : Nat, jlN m k j = x → gI e (gP e M 9) j - gI e (gP e M 8) j = nI x → MX7_queuedLines_61 e 19 M (nI (qlN m k j)) (nI j) = some (.inl (nI (qlN m k (j + 1)), nI (j + 1), e)) := fun x hx he => by
        unfold MX7_queuedLines_61
        simp only [ZL]
        rw [gg_t m4.1, gg_t m4.2.2.2.2.1.2.1, m4.2.2.2.2.1.2.2, gg_in (by omega) (by omega), gg_t m4.2.2.2.1.2.1, m4.2.2.2.1.2.2, gg_in (by omega) (by omega), nCl (by omega), he, nAdd, lt_eq, nAdd]
        show some (Sum.inl (nI (qlN m k j + x), nI (j + 1), e)) = some (Sum.inl (nI (qlN m k j + jlN m k j), nI (j + 1), e))
        rw [hx]
      have l40 := ((I.2.1 q j2).2.2.2.2.2.1.eq (by omega))
      have n1 := (j3.eq (by omega))
      have n2 := (j4.eq (by omega))
      have head : BX7_queuedLines_4 e 19 M (nI (qlN m k j)) (nI j) = if m (130 + 645 * q + 3) = nI 0 then b2 (MX7_breakerFor e 19 P (m 0)) (fun (t20 : Nat) (h19 : Hp) => gg (kd h19 t20 = 0) <| b2 (MX0_solve h19 t20 (nI 0)) fun (t24 : Int32) (h23 : Hp) => some (.inl (nI (qlN m k j) + jmax (nI 0) t24, nI (j + 1), h23))) else MX7_queuedLines_61 e 19 M (nI (qlN m k j)) (nI j) := by
        unfold BX7_queuedLines_4
        simp only [ZL]
        rw [gg_t m4.1, v3, l30.1, if_neg (nI_ge hj (by omega)), gg_t m4.2.2.1.2.1, m4.2.2.1.2.2, gg_in (by omega) (by omega), nCl (by omega), gg_t Se.1, w7, eq0, c1, ob_some, if_neg c2, gg_t c3.1, e11, Ve.1, nAdd]
      obtain ⟨y3, hy3, e3⟩ := (I.2.1 q j2).2.2.2.2.1
      have y01 : y3 = 0 ∨ y3 = 1 := by omega
      rcases y01 with y0 | y1
      · -- not set: its best way
        rw [y0] at e3
        obtain ⟨b, h2, g2, s1, s2, s3, s4⟩ := c_sol Ce0 j2 c0 c2 c3 c4
        have f4 : m (320230 + 183 * k + 33 + 5 * j + 4) = nI 1 := by
          obtain ⟨x, hx, ex⟩ := j6
          have : x = 0 ∨ x = 1 := by omega
          rcases this with z | z
          · have := (j7 (by rw [ex, z])).1
            rw [e3] at this
            exact absurd this (by decide)
          · rw [ex, z]
        have jl : jlN m k j = wyN m q := by
          unfold jlN
          rw [if_pos f4, ← hq, e3, if_neg (by decide)]
        have wv : jmax (nI 0) (enL (wyT m q (m 0) 0)) = nI (wyN m q) := by
          have wb := wy_b I j2
          unfold wyN at wb ⊢
          cases e : wyT m q (m 0) 0 with
          | none => rfl
          | some v =>
            rw [e] at wb
            show jmax (nI 0) (nI v.2.1) = nI v.2.1
            have : v.2.1 ≤ 40 := wb
            rw [n_jmax (by omega) (by omega), Nat.max_eq_right (Nat.zero_le _)]
        refine ⟨(nI (qlN m k (j + 1)), nI (j + 1), g2), ?_, rfl, rfl, sc.trans s4⟩
        show BX7_queuedLines_4 e 19 M (nI (qlN m k j)) (nI j) = _
        rw [head, if_pos e3, s1, b2_some, gg_t s2, s3, b2_some, wv, nAdd]
        show some (Sum.inl (nI (qlN m k j + wyN m q), nI (j + 1), g2)) = some (Sum.inl (nI (qlN m k j + jlN m k j), nI (j + 1), g2))
        rw [jl]
      · rw [y1] at e3
        refine ⟨(nI (qlN m k (j + 1)), nI (j + 1), e), ?_, rfl, rfl, sc⟩
        show BX7_queuedLines_4 e 19 M (nI (qlN m k j)) (nI j) = _
        rw [head, e3, if_neg (by decide)]
        obtain ⟨x, hx, ex⟩ := j6
        have : x = 0 ∨ x = 1 := by omega
        rcases this with z | z
        · rw [z] at ex
          have j7' := j7 ex
          refine e61 (Nn m (320230 + 183 * k + 33 + 5 * j + 2) - Nn m (320230 + 183 * k + 33 + 5 * j + 1)) ?_ ?_
          · unfold jlN
            rw [ex, if_neg (by decide)]
          · rw [w9, w8, ex, if_neg (by decide), n1.1, n2.1, nSub (by omega)]
        · rw [z] at ex
          have j8' := (j8 ex).2.2.1 e3
          refine e61 (Nn m (130 + 645 * q + 4) - Nn m (320230 + 183 * k + 33 + 5 * j + 1)) ?_ ?_
          · unfold jlN
            rw [if_pos ex, ← hq, if_pos e3]
          · rw [w9, w8, if_pos ex, if_pos e3, n1.1, l40.1, nSub (by omega)]
    · obtain ⟨a1, a2, e⟩ := y
      obtain ⟨p1, p2, sc⟩ := pp
      replace p1 : a1 = nI (qlN m k (Nn m (320230 + 183 * k + 29))) := p1
      replace p2 : a2 = nI (Nn m (320230 + 183 * k + 29)) := p2
      replace sc : Sc tg 19 5 g e := sc
      subst p1 p2
      obtain ⟨Ce0, -, -⟩ := cl_sc R C sc
      obtain ⟨-, -, -, Se, Ve, -⟩ := id Ce0
      obtain ⟨Kg, -, -, eg, ek, ei⟩ := rq_sc K S V sc
      obtain ⟨M', m1, m2, m3, m4, m5⟩ := c_findMachine_t Se Ve I.1 hk
      have eM : M' = M := by rw [m1, eg, hM]
      rw [eM] at m3 m4 m5
      refine ⟨(nI (qlN m k (Nn m (320230 + 183 * k + 29))), e), ?_, rfl, sc⟩
      show BX7_queuedLines_4 e 19 M (nI (qlN m k (Nn m (320230 + 183 * k + 29)))) (nI (Nn m (320230 + 183 * k + 29))) = _
      unfold BX7_queuedLines_4
      rw [gg_t m4.1, m5.2.2.2.1, l30.1, if_pos (nI_le (Nat.le_refl _) (by omega))]
  obtain ⟨⟨v, g1⟩, y1, y2, y3⟩ := lp
  replace y2 : v = nI (qlN m k (Nn m (320230 + 183 * k + 29))) := y2
  refine ⟨g1, ?_, y3⟩
  rw [← hM]
  unfold MX7_queuedLines MX7_queuedLines_4
  simp only [ZL]
  rw [y1, y2]
end
