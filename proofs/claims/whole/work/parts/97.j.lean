/-! is a place right? judge, part -/
/-- a loop that may be left at the first j without B -/
theorem it_ff {σ ρ : Type} {f : σ → Option (σ ⊕ ρ)} {Q : ρ → Prop} (P : Nat → σ → Prop) (B : Nat → Bool) (n : Nat) (go : ∀ j s, j < n → P j s → B j = true → ∃ s', f s = some (.inl s') ∧ P (j + 1) s') (st : ∀ j s, j < n → P j s → B j = false → (∀ i, i < j → B i = true) → ∃ r, f s = some (.inr r) ∧ Q r) (fin : ∀ s, P n s → (∀ i, i < n → B i = true) → ∃ r, f s = some (.inr r) ∧ Q r) {s : σ} (h0 : P 0 s) : ∃ r, it f s = some r ∧ Q r := by
  have K : ∀ d j s, j + d = n → P j s → (∀ i, i < j → B i = true) → ∃ r, it f s = some r ∧ Q r := by
    intro d
    induction d with
    | zero =>
      intro j s e p hb
      have e : j = n := e
      subst e
      obtain ⟨r, e1, q⟩ := fin s p hb
      exact ⟨r, it_done e1, q⟩
    | succ d ih =>
      intro j s e p hb
      cases hB : B j with
      | false =>
        obtain ⟨r, e1, q⟩ := st j s (by omega) p hB hb
        exact ⟨r, it_done e1, q⟩
      | true =>
        obtain ⟨s', e1, p'⟩ := go j s (by omega) p hB
        rw [it_next e1]
        exact ih (j + 1) s' (by omega) p' (fun i hi => by
          by_cases z : i = j
          · rw [z]; exact hB
          · exact hb i (by omega))
  exact K n 0 s (Nat.zero_add n) h0 (fun i hi => absurd hi (by omega))
def wtL (m : Nat → Int32) (q l : Nat) : List Nat := wtX m q (bgN m q l) (Nn m (130 + 645 * q + 5 + l))
/-- the slug at a place -/
def plG (m : Nat → Int32) (q l : Nat) : Nat := 64630 + 852 * (Nn m (130 + 645 * q + 45 + l) - 1)
def rtP (m : Nat → Int32) (q l : Nat) : Prop := m (130 + 645 * q + 45 + l) ≠ nI 0 ∧ Nn m (plG m q l + 9) = (wtL m q l).length ∧ m (70 + Nn m (plG m q l) / 5) = m (70 + q / 5) ∧ ∀ k, k < (wtL m q l).length → m (plG m q l + 432 + k) = nI ((wtL m q l).getD k 0)
noncomputable def rtB (m : Nat → Int32) (q l : Nat) : Bool := @decide (rtP m q l) (Classical.propDecidable _)
theorem rtB_t {m : Nat → Int32} {q l : Nat} (h : rtP m q l) : rtB m q l = true := by unfold rtB; exact @decide_eq_true (rtP m q l) (Classical.propDecidable _) h
theorem rtB_f {m : Nat → Int32} {q l : Nat} (h : ¬ rtP m q l) : rtB m q l = false := by unfold rtB; exact @decide_eq_false (rtP m q l) (Classical.propDecidable _) h
section
variable {tg : Nat → List Nat} {h h1 h2 h' : Hp} {m k t : Nat → Int32} {i n f : Int32} {p q l r x X : Nat}
theorem ln_set (I : MI m) (hq : vP m q) (es : m (130 + 645 * q + 3) = nI 1) (hl : l < Nn m (130 + 645 * q + 4)) : Ln m q l (bgN m q l) (Nn m (130 + 645 * q + 5 + l)) := by
  have J := I.2.1 q hq
  have Q := I.2.2.2.2.2.2.2.1 q hq es l hl
  obtain ⟨-, j40, j1⟩ := J.n
  have l4 := (J.2.2.2.2.2.1.eq (by omega)).2
  obtain ⟨-, -, -, -, -, -, -, -, -, -, -, os⟩ := id J
  obtain ⟨-, o1, o2, o3⟩ := os es
  have en : ∀ l', l' < Nn m (130 + 645 * q + 4) → m (130 + 645 * q + 5 + l') = nI (Nn m (130 + 645 * q + 5 + l')) ∧ Nn m (130 + 645 * q + 5 + l') ≤ 39 := fun l' hl' => (o3 l' hl').1.eq (by omega)
  -- the ends rise to the last piece
  have up : ∀ d, l + d < Nn m (130 + 645 * q + 4) → Nn m (130 + 645 * q + 5 + l) + d ≤ Nn m (130 + 645 * q + 5 + (l + d)) := fun d => by
    induction d with
    | zero => intro _; exact Nat.le_refl _
    | succ d ih =>
      intro hd
      have := ih (by omega)
      have h2 := (o3 (l + d) (by omega)).2.2.1 (by omega)
      show _ ≤ Nn m (130 + 645 * q + 5 + (l + d + 1))
      omega
  have top := up (Nn m (130 + 645 * q + 4) - 1 - l) (by omega)
  rw [show l + (Nn m (130 + 645 * q + 4) - 1 - l) = Nn m (130 + 645 * q + 4) - 1 by omega] at top
  have hb : Nn m (130 + 645 * q + 5 + l) < nP m q := by unfold nP; omega
  have ha : ((l = 0 ∧ bgN m q l = 0) ∨ (1 ≤ l ∧ 1 ≤ bgN m q l ∧ m (130 + 645 * q + 5 + (l - 1)) = nI (bgN m q l - 1))) ∧ bgN m q l ≤ Nn m (130 + 645 * q + 5 + l) := by
    unfold bgN
    by_cases z : l = 0
    · rw [if_pos z]; exact ⟨Or.inl ⟨z, rfl⟩, Nat.zero_le _⟩
    · rw [if_neg z]
      have h2 := (o3 (l - 1) (by omega)).2.2.1 (by omega)
      rw [show l - 1 + 1 = l by omega] at h2
      exact ⟨Or.inr ⟨by omega, by omega, by rw [Nat.add_sub_cancel]; exact (en (l - 1) (by omega)).1⟩, by omega⟩
  have wl := wt_len J ha.2 hb
  have e1 := (we_s J hb).2.2
  have e2 := (we_s J (k := bgN m q l) (by omega)).2.2
  unfold wkN at e1 e2
  exact ⟨by omega, (en l hl).1, ha.1, ha.2, hb, by omega⟩
/-- two texts are the same -/
theorem c_same {A D a d : Nat} (ha : a < 1000) (hd : d < 1000) (kA : kd h A = 21) (kD : kd h D = 21) (lA : a ≤ ln h A) (lD : d ≤ ln h D) (bA : ln h A < 1000) (bD : ln h D < 1000) : (a = d ∧ (∀ j, j < a → gI h A j = gI h D j) → MX8_sameBytes h A (nI a) D (nI d) = some (nI 1)) ∧ (¬ (a = d ∧ (∀ j, j < a → gI h A j = gI h D j)) → MX8_sameBytes h A (nI a) D (nI d) = some (nI 0)) := by
  by_cases z : a = d
  · subst z
    have e0 : MX8_sameBytes h A (nI a) D (nI a) = MX8_sameBytes_22 h A (nI a) D (nI 0) := by
      unfold MX8_sameBytes
      rw [if_pos rfl, gg_t kA, if_neg (nI_nlt lA (by omega)), gg_t kD, if_pos (nI_le lD (by omega))]
      simp only [ZL]
    rw [e0]
    unfold MX8_sameBytes_22
    have st : ∀ j, j < a → BX8_sameBytes_22 h A (nI a) D (nI j) = if gI h A j = gI h D j then some (.inl (nI (j + 1))) else some (.inr (nI 0)) := fun j hj => by
      unfold BX8_sameBytes_22
      simp only [ZL]
      rw [if_neg (nI_ge hj (by omega)), gg_t kA, gg_in (by omega) (by omega), gg_t kD, gg_in (by omega) (by omega), nCl (by omega), nAdd]
    refine ⟨fun H => ?_, fun H => ?_⟩
    · refine it_seq2 (fun j => nI j) a rfl (fun j hj => ?_) ?_
      · show BX8_sameBytes_22 h A (nI a) D (nI j) = _
        rw [st j hj, if_pos (H.2 j hj)]
      · show BX8_sameBytes_22 h A (nI a) D (nI a) = _
        unfold BX8_sameBytes_22
        rw [if_pos (nI_le (Nat.le_refl a) (by omega))]
        rfl
    · obtain ⟨j, hj, hn, hl⟩ : ∃ j, j < a ∧ gI h A j ≠ gI h D j ∧ ∀ y, y < j → gI h A y = gI h D y := by
        obtain ⟨j, h1, h2⟩ := pk_least (fun j => j < a ∧ gI h A j ≠ gI h D j) (Classical.byContradiction fun w => H ⟨rfl, fun j hj => Classical.byContradiction fun y => w ⟨j, hj, y⟩⟩)
        exact ⟨j, h1.1, h1.2, fun y hy => Classical.byContradiction fun w => h2 y hy ⟨by omega, w⟩⟩
      refine it_seq (fun j => nI j) j (fun y hy => ?_) (it_done ?_)
      · show BX8_sameBytes_22 h A (nI a) D (nI y) = _
        rw [st y (by omega), if_pos (hl y hy)]
      · show BX8_sameBytes_22 h A (nI a) D (nI j) = _
        rw [st j hj, if_neg hn]
  · refine ⟨fun H => absurd H.1 z, fun _ => ?_⟩
    unfold MX8_sameBytes
    rw [if_neg (by rw [nEq (by omega) (by omega)]; exact z)]
    rfl
theorem slz_b {n : Nat} (h : slz n) : n ≤ 512 := by unfold slz at h; omega
theorem c_isRight (K : Rt tg h r x) (S : RmS h r) (V : RmV h r m) (I : MI m) (hq : vP m q) (es : m (130 + 645 * q + 3) = nI 1) (hl : l < Nn m (130 + 645 * q + 4)) : ∃ h1, MX7_isRight h r (gP h (gP h r 5) q) (nI l) = some (bI (rtB m q l), h1) ∧ Sc tg r x h h1 := by
  obtain ⟨p, hp, ec, p0, PS, PV⟩ := c_findPart_t S V I.1 hq
  rw [← hp]
  have J := I.2.1 q hq
  have hq0 := hq.1
  have s0 := PS.1
  obtain ⟨e4, l4⟩ := J.2.2.2.2.2.1.eq (by omega)
  have c9 : gI h p 9 = nI (Nn m (130 + 645 * q + 4)) := by rw [PV.2.2.2.2.2.2.2.1, if_pos es, e4]
  obtain ⟨d1, d2⟩ := PV.2.2.2.2.2.2.2.2 es l hl
  obtain ⟨-, k4, l4'⟩ := PS.2.2.2.2.2.1
  obtain ⟨-, -, -, -, -, -, -, -, -, -, -, os⟩ := id J
  obtain ⟨-, -, -, o3⟩ := os es
  obtain ⟨-, ob, -, olk⟩ := o3 l hl
  obtain ⟨ob1, ob2⟩ := ob.eq (by omega)
  have x18 := S.2.2.2.2.2.2.2.2.2.2.2.2.1
  have s300 := (I.1.f).2.2.2.2.1.2
  have pre : MX7_isRight h r p (nI l) = Option.bind (MX7_findSlug h r (m (130 + 645 * q + 45 + l) - nI 1)) fun t21 => MX7_isRight_22 h r p (nI l) t21 := by
    unfold MX7_isRight
    rw [gg_t s0, c_hasLine_t s0 c9 (by omega) hl, ob_some, if_neg (by decide), gg_t k4, l4', gg_in (by omega) (by omega), gg_t S.1, nCl (by omega), d2]
  rw [pre]
  by_cases z : Nn m (130 + 645 * q + 45 + l) = 0
  · have em : m (130 + 645 * q + 45 + l) = nI 0 := by rw [ob1, z]
    rw [em, show nI 0 - nI 1 = -nI 1 from by decide, c_findSlug_f S V I.1 (fun y _ w => by rw [nM5 (by omega)] at w; exact w), ob_some, rtB_f (fun w => w.1 em)]
    exact ⟨h, rfl, Sc.rfl S⟩
  · have nz : m (130 + 645 * q + 45 + l) ≠ nI 0 := by rw [ob1, Ne, nEq (by omega) (by omega)]; exact z
    obtain ⟨lk1, -⟩ := olk nz
    obtain ⟨s, hs⟩ : ∃ s, s = Nn m (130 + 645 * q + 45 + l) - 1 := ⟨_, rfl⟩
    have hs4 : s < Nn m 4 := by omega
    have s300 := (I.1.f).2.2.2.2.1.2
    have ev : m (130 + 645 * q + 45 + l) - nI 1 = nI s := by rw [ob1, pk_sub (by omega), hs]
    obtain ⟨c, hc, ef, c0, cS, cV⟩ := c_findSlug_t S V I.1 hs4
    have eg : plG m q l = 64630 + 852 * s := by unfold plG; rw [hs]
    obtain ⟨g, hg⟩ : ∃ g, g = 64630 + 852 * s := ⟨_, rfl⟩
    rw [← hg] at eg cV
    have hI := I.2.2.1 s hs4
    rw [← hg] at hI
    obtain ⟨e9, b9⟩ := hI.2.2.2.2.2.2.2.2.2.2.2.1.eq (by omega)
    have c2 := cV.2.2.2.2.2.2.2.2.2.1
    have c6 := cV.2.2.2.2.2.2.2.2.2.2.2.1
    have cl := cV.2.2.2.2.2.2.2.2.2.2.2.2.1
    have cb := cV.2.2.2.2.2.2.2.2.2.2.2.2.2.1
    have p7 := PV.2.2.1
    have H := ln_set I hq es hl
    rw [ev, ef, ob_some]
    have pre2 : MX7_isRight_22 h r p (nI l) c = if m (70 + Nn m g / 5) = m (70 + q / 5) then (b2 (MX5_spell h p (nI l) (gP h r 18)) fun t12 h11 => gg (kd h11 c = 7) <| Option.bind (MX8_saysText h11 c (gP h r 18) t12) fun t15 => if t15 = 0 then some (nI 0, h11) else some (nI 1, h11)) else some (nI 0, h) := by
      unfold MX7_isRight_22
      rw [if_neg c0, gg_t cS.1, gg_t s0, c6, p7, gg_t S.1]
      simp only [ZL]
    rw [pre2]
    by_cases y : m (70 + Nn m g / 5) = m (70 + q / 5)
    · rw [if_pos y]
      have t18 := K.a x18.1
      have A := Pa.rm K (by rw [← hp]; exact PS) (by rw [← hp]; exact p0)
      rw [← hp] at A
      have sc18 : scT x (tg (gP h r 18)) := by rw [t18]; simp [scT]
      obtain ⟨h1, k1, k2, k3⟩ := c_spell (X := gP h r 18) PS PV I.1 J ⟨x18.2.1, x18.2.2⟩ (fun w => A.1 (by rw [← w]; exact sc18)) (fun j hj w => A.2 j hj (by rw [← w]; exact sc18)) hq es hl H
      have F1 : Ft tg (scT x) h h1 := k2.mono (fun b w => by
        have w : b = gP h r 18 := w
        rw [w]
        exact ⟨x18.1, sc18⟩)
      have bS := S.2.2.2.2.2.2.2.2.2.2.2.2.2.2.2.1
      have n8 : ∀ j, gP h (gP h r 14) j ≠ 0 → gI h1 (gP h (gP h r 14) j) = gI h (gP h (gP h r 14) j) := fun j hj => k2.2.2.2.2.2.2 _ (fun w => by
        have : tg (gP h (gP h r 14) j) = tg (gP h r 18) := by rw [w]
        rw [K.o hj, t18] at this
        have := congrArg List.length this
        simp at this)
      have sc : Sc tg r x h h1 := ⟨F1, by rw [n8 8 bS.2.2.1.1]; exact bS.2.2.2.2.2.2.2.2.1, by rw [n8 9 bS.2.2.2.1.1]; exact bS.2.2.2.2.2.2.2.2.2⟩
      obtain ⟨W, hW⟩ : ∃ W, W = wtL m q l := ⟨_, rfl⟩
      have hlen : W.length ≤ 401 := by rw [hW]; exact H.2.2.2.2.2
      have k1 : MX5_spell h p (nI l) (gP h r 18) = some (nI W.length, h1) := by rw [hW]; exact k1
      have k3 : PLs h1 (gP h r 18) W := by rw [hW]; exact k3
      obtain ⟨u0, u1⟩ := cS.2.2.1
      have zb := slz_b cS.2.2.2.2.1
      have eln := cS.2.2.2.1
      have tc := K.o (k := 10) (j := s) (by rw [← hc]; exact c0)
      have t1c : tg (gP h c 1) = [1, s, 10, x] := by
        rw [hc] at u0 ⊢
        exact K.q u0
      have nc1 : gI h1 (gP h c 1) = gI h (gP h c 1) := (F1.same (by rw [t1c]; simp [scT])).2.2.1
      have ncc : gI h1 c = gI h c := (F1.same (by rw [hc, tc]; simp [scT])).2.2.1
      have sm := c_same (h := h1) (A := gP h c 1) (D := gP h r 18) (a := Nn m (g + 9)) (d := W.length) (by omega) (by omega) (by rw [F1.ek]; exact u1) (by rw [F1.ek]; exact x18.2.1) (by rw [F1.el]; omega) (by rw [F1.el, x18.2.2]; omega) (by rw [F1.el]; omega) (by rw [F1.el, x18.2.2]; omega)
      rw [k1, b2_some, F1.ek, gg_t cS.1]
      have says : MX8_saysText h1 c (gP h r 18) (nI W.length) = Option.bind (MX8_sameBytes h1 (gP h c 1) (nI (Nn m (g + 9))) (gP h r 18) (nI W.length)) fun t3 => gg (zOk t3 = true) (some t3) := by
        unfold MX8_saysText
        rw [F1.ek, gg_t cS.1, F1.gp, ncc, c2, ← e9]
      rw [says]
      have iff : (Nn m (g + 9) = W.length ∧ ∀ j, j < Nn m (g + 9) → gI h1 (gP h c 1) j = gI h1 (gP h r 18) j) ↔ rtP m q l := by
        unfold rtP
        rw [eg, ← hW]
        constructor
        · rintro ⟨w1, w2⟩
          refine ⟨nz, w1, y, fun j hj => ?_⟩
          have := w2 j (by omega)
          rw [nc1, (cb j (by omega)).2, k3 j hj] at this
          exact this
        · rintro ⟨-, w1, -, w2⟩
          refine ⟨w1, fun j hj => ?_⟩
          rw [nc1, (cb j hj).2, k3 j (by omega)]
          exact w2 j (by omega)
      refine ⟨h1, ?_, sc⟩
      by_cases w : rtP m q l
      · rw [sm.1 (iff.mpr w), ob_some, rtB_t w, gg_t (of_eq_true zk1), ob_some, if_neg (by decide)]
        rfl
      · rw [sm.2 (fun v => w (iff.mp v)), ob_some, rtB_f w, gg_t (of_eq_true zk0), ob_some, if_pos (show nI 0 = 0 from rfl)]
        rfl
    · rw [if_neg y, rtB_f (fun w => y (by have := w.2.2.1; rw [eg] at this; exact this))]
      exact ⟨h, rfl, Sc.rfl S⟩
theorem r_isRight (R : RS h) (em : gI h 74 = m) (I : MI m) (hq : vP m q) (es : m (130 + 645 * q + 3) = nI 1) (hl : l < Nn m (130 + 645 * q + 4)) : ∃ h1, MX12_isRight h 73 (nI q) (nI l) = some (bI (rtB m q l), h1) ∧ Rw h h1 := by
  have J := I.2.1 q hq
  have hq0 := hq.1
  obtain ⟨e4, l4⟩ := J.2.2.2.2.2.1.eq (by omega)
  obtain ⟨-, -, -, -, -, -, -, -, -, -, -, os⟩ := id J
  obtain ⟨-, -, -, o3⟩ := os es
  obtain ⟨-, ob, -, olk⟩ := o3 l hl
  obtain ⟨ob1, ob2⟩ := ob.eq (by omega)
  by_cases z : Nn m (130 + 645 * q + 45 + l) = 0
  · have e0 : m (130 + 645 * q + 45 + l) = nI 0 := by rw [ob1, z]
    rw [rtB_f (fun w => w.1 e0)]
    refine ⟨h, ?_, Rw.rfl⟩
    have d : nI 0 - nI 1 = -nI 1 := by decide
    unfold MX12_isRight
    rw [gg_t (RS.f R).1, r_part0, ob_some]
    simp only [ZL]
    simp (disch := omega) only [RS.f R, em, gg_rf, gg_T, gg_in, nAdd, nCl, e0, d, ↓lt_eq, if_true]
    rfl
  · have nz : m (130 + 645 * q + 45 + l) ≠ nI 0 := by rw [ob1, Ne, nEq (by omega) (by omega)]; exact z
    obtain ⟨lk1, -⟩ := olk nz
    obtain ⟨s, hs⟩ : ∃ s, s = Nn m (130 + 645 * q + 45 + l) - 1 := ⟨_, rfl⟩
    have hs4 : s < Nn m 4 := by omega
    have s300 := (I.1.f).2.2.2.2.1.2
    have ev : m (130 + 645 * q + 45 + l) - nI 1 = nI s := by rw [ob1, pk_sub (by omega), hs]
    have eg : plG m q l = 64630 + 852 * s := by unfold plG; rw [hs]
    obtain ⟨g, hg⟩ : ∃ g, g = 64630 + 852 * s := ⟨_, rfl⟩
    rw [← hg] at eg
    have hI := I.2.2.1 s hs4
    rw [← hg] at hI
    obtain ⟨e9, b9⟩ := hI.2.2.2.2.2.2.2.2.2.2.2.1.eq (by omega)
    obtain ⟨eo, bo⟩ := hI.1.eq (by omega)
    have H := ln_set I hq es hl
    obtain ⟨h1, k1, k2, w1, w2, w3⟩ := r_write R em I.1 hq J H
    obtain ⟨W, hW⟩ : ∃ W, W = wtL m q l := ⟨_, rfl⟩
    have hlen : W.length ≤ 401 := by rw [hW]; exact H.2.2.2.2.2
    have w1 : gI h1 73 35 = nI W.length := by rw [hW]; exact w1
    have w2 : PLs h1 90 W := by rw [hW]; exact w2
    have R1 := k2.rk.rs R
    have m1 := k2.em em
    refine ⟨h1, ?_, k2⟩
    have pre : MX12_isRight h 73 (nI q) (nI l) = if m (g + 9) = nI W.length then (if m (70 + Nn m g / 5) = m (70 + q / 5) then MX12_isRight_91 h1 73 (nI g) (nI 1) else MX12_isRight_90 h1 73 (nI g)) else MX12_isRight_90 h1 73 (nI g) := by
      have d70 : nI 70 + m g / nI 5 = nI (70 + Nn m g / 5) := by rw [eo, nDiv (by omega) (by omega) (by omega), nAdd]
      have d71 : nI 70 + nI q / nI 5 = nI (70 + q / 5) := by rw [nDiv (by omega) (by omega) (by omega), nAdd]
      unfold MX12_isRight
      rw [gg_t (RS.f R).1, r_part0, ob_some]
      simp only [ZL]
      have c0 : gI h 74 (130 + 645 * q + 45 + l) - nI 1 = nI s := by rw [em]; exact ev
      have nm : (nI s = -nI 1) = False := nM6 (by omega)
      simp (disch := omega) only [RS.f R, gg_rf, gg_T, gg_in, nAdd, nCl, ↓lt_eq, c0, nm, if_false, r_slug0, ob_some, k1, ← hg, RS.f R1, m1, w1, Nat.add_zero, d70, d71]
    have l90 : MX12_isRight_90 h1 73 (nI g) = some (nI 0, h1) := by
      unfold MX12_isRight_90 MX12_isRight_91 MX12_isRight_96
      refine it_done ?_
      show BX12_isRight_96 h1 73 (nI g) 0 0 = _
      unfold BX12_isRight_96
      rw [gg_t (RS.f R1).1, w1]
      simp only [ZL, if_true]
      by_cases y : nI W.length ≤ nI 0
      · rw [if_pos y]
        exact gg_t (of_eq_true zk0)
      · rw [if_neg y]
        exact gg_t (of_eq_true zk0)
    have l91 : MX12_isRight_91 h1 73 (nI g) (nI 1) = some ((if ∀ j, j < W.length → m (g + 432 + j) = nI (W.getD j 0) then nI 1 else nI 0), h1) := by
      have st : ∀ j, j < W.length → BX12_isRight_96 h1 73 (nI g) (nI 1) (nI j) = if m (g + 432 + j) = nI (W.getD j 0) then some (.inl (nI 1, nI (j + 1))) else some (.inl (nI 0, nI (j + 1))) := fun j hj => by
        have := w2 j hj
        unfold BX12_isRight_96 MX12_isRight_139
        rw [gg_t (RS.f R1).1, w1, if_neg (nI_ge hj (by omega))]
        simp (disch := omega) only [ZL, n10, if_false, RS.f R1, gg_rf, gg_T, gg_in, nAdd, nCl, m1, this]
      have fin0 : ∀ j, BX12_isRight_96 h1 73 (nI g) (nI 0) (nI j) = some (.inr (nI 0, h1)) := fun j => by
        unfold BX12_isRight_96
        rw [gg_t (RS.f R1).1, w1]
        by_cases y : nI W.length ≤ nI j
        · rw [if_pos y]
          exact gg_t (of_eq_true zk0)
        · rw [if_neg y, if_pos (show nI 0 = 0 from rfl)]
          exact gg_t (of_eq_true zk0)
      unfold MX12_isRight_91 MX12_isRight_96
      simp only [ZL]
      by_cases y : ∀ j, j < W.length → m (g + 432 + j) = nI (W.getD j 0)
      · rw [if_pos y]
        refine it_seq2 (fun j => (nI 1, nI j)) W.length rfl (fun j hj => ?_) ?_
        · show BX12_isRight_96 h1 73 (nI g) (nI 1) (nI j) = _
          rw [st j hj, if_pos (y j hj)]
        · show BX12_isRight_96 h1 73 (nI g) (nI 1) (nI W.length) = _
          unfold BX12_isRight_96
          rw [gg_t (RS.f R1).1, w1, if_pos (nI_le (Nat.le_refl _) (by omega)), gg_t (of_eq_true zk1)]
      · rw [if_neg y]
        obtain ⟨j, hj, hn, hlo⟩ : ∃ j, j < W.length ∧ m (g + 432 + j) ≠ nI (W.getD j 0) ∧ ∀ y, y < j → m (g + 432 + y) = nI (W.getD y 0) := by
          obtain ⟨j, h1, h2⟩ := pk_least (fun j => j < W.length ∧ m (g + 432 + j) ≠ nI (W.getD j 0)) (Classical.byContradiction fun w => y (fun j hj => Classical.byContradiction fun v => w ⟨j, hj, v⟩))
          exact ⟨j, h1.1, h1.2, fun y hy => Classical.byContradiction fun w => h2 y hy ⟨by omega, w⟩⟩
        refine it_seq (fun j => (nI 1, nI j)) j (fun y hy => ?_) ?_
        · show BX12_isRight_96 h1 73 (nI g) (nI 1) (nI y) = _
          rw [st y (by omega), if_pos (hlo y hy)]
        · have e1 := st j hj
          rw [if_neg hn] at e1
          rw [it_next (f := fun z : Int32 × Int32 => BX12_isRight_96 h1 73 (nI g) z.1 z.2) (s := (nI 1, nI j)) e1]
          exact it_done (fin0 (j + 1))
    rw [pre]
    by_cases y1 : m (g + 9) = nI W.length
    · have y1' : Nn m (g + 9) = W.length := by unfold Nn; rw [y1, nCl (by omega)]
      rw [if_pos y1]
      by_cases y2 : m (70 + Nn m g / 5) = m (70 + q / 5)
      · rw [if_pos y2, l91]
        by_cases y3 : ∀ j, j < W.length → m (g + 432 + j) = nI (W.getD j 0)
        · rw [if_pos y3, rtB_t ⟨nz, by rw [eg, ← hW]; exact y1', by rw [eg]; exact y2, by rw [eg, ← hW]; exact y3⟩]
          rfl
        · rw [if_neg y3, rtB_f (fun w => y3 (by have := w.2.2.2; rw [eg, ← hW] at this; exact this))]
          rfl
      · rw [if_neg y2, l90, rtB_f (fun w => y2 (by have := w.2.2.1; rw [eg] at this; exact this))]
        rfl
    · rw [if_neg y1, l90, rtB_f (fun w => y1 (by have := w.2.1; rw [eg, ← hW] at this; rw [e9, this]))]
      rfl
end
