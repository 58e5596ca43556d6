/-! correct: the pair -/
section
variable {tg : Nat → List Nat} {h : Hp} {m k t : Nat → Int32} {i n f0 : Int32}
theorem enT_le {mp mw ba l : Nat} {b : Nat → Nat} {s0 : TX} : enT l (ruT mp mw ba b s0 l) ≤ l + 1 := by
  cases q : ruT mp mw ba b s0 l with
  | inr s =>
    show (if s.2.2.1 = true ∨ tw s = 0 then l + 1 else 0) ≤ l + 1
    split <;> omega
  | inl p =>
    show p + 1 ≤ l + 1
    have K : ∀ n p, ruT mp mw ba b s0 n = .inl p → p < n := fun n => by
      induction n with
      | zero => intro p hp; cases hp
      | succ n ih =>
        intro p hp
        cases q : ruT mp mw ba b s0 n with
        | inl p' =>
          have := ruT_e q 1
          rw [this] at hp
          cases hp
          have := ih p q
          omega
        | inr s' =>
          rw [ruT_s q] at hp
          have : p = n := by
            unfold stT at hp
            repeat' split at hp
            all_goals first | (cases hp; rfl) | (cases hp)
          omega
    have := K l p q
    omega
theorem p_correct (C : CSt tg h m k i t n f0) (R : RSt h m k i t n f0) (v u z : Int32) : Pr (cm [1, 2, 5, 3]) Gm h (MX11_correct h 1 v u z) (fun h' => MX12_correct h' 73 v u z) := by
  obtain ⟨O, X, X2, S, V, Dk, DV, I, T, Im, Tr⟩ := id C
  obtain ⟨l, hl, rfl⟩ := T.2.1
  have T1 := T.1
  obtain ⟨h3, hh3⟩ : ∃ h3, h3 = sI h 1 1 (nI 0) := ⟨_, rfl⟩
  have F3 : Fr (fun b => b = 1 ∨ b = 2) h h3 := by rw [hh3]; exact Fr.sI (S := fun b => b = 1 ∨ b = 2) (Or.inl rfl)
  have T3 : TpV h3 t (nI 0) f0 := by
    refine ⟨by rw [hh3, gI_sI, if_pos rfl, up_at, if_pos rfl], ⟨0, by omega, rfl⟩, by rw [hh3, gI_sI, if_pos rfl, up_at, if_neg (by decide)]; exact T.2.2.1, fun j hj => ?_⟩
    rw [hh3, gI_sI, if_neg (by decide)]
    exact T.2.2.2 j hj
  have C3 : CSt tg h3 m k i t (nI 0) f0 := C.tape F3 T3
  obtain ⟨-, X3, -, S3, V3, -, -, -, -, -, -⟩ := id C3
  have head : MX11_correct h 1 v u z = Option.bind (MX7_findPart h3 19 v) fun (t8 : Nat) => Option.bind (MX7_findMachine h3 19 z) fun (t10 : Nat) => if t8 = 0 then some (.inr 1, bmp h3 1 6) else if t10 = 0 then some (.inr 1, bmp h3 1 6) else if u < nI 0 then some (.inr 1, bmp h3 1 6) else gg (kd h3 t8 = 4) <| if u < (gI h3 t8 6) then Option.bind (MX5_bitsOfWord h3 t8 u) fun (t17 : Int32) => Option.bind (MX1_firstWrong h3 2 (nI l) (nI 1) (nI 1) ((gI h3 t8 5) - t17)) fun (t19 : Int32) => lt (sI h3 1 2 t19) fun (h20 : Hp) => if (gI h20 1 2) = -nI 1 then (if (gI h20 t8 11) = nI 0 then MX11_correct_131 h20 1 v u (nI l) t8 t10 else b2 (MX7_isQueued h20 19 v) fun (t40 : Int32) (h39 : Hp) => if t40 = nI 0 then MX11_correct_131 h39 1 v u (nI l) t8 t10 else some (.inr 5, bmp h39 1 6)) else some (.inr 2, bmp h20 1 6) else some (.inr 1, bmp h3 1 6) := by
    unfold MX11_correct MX11_useTape
    simp only [ZL]
    rw [gg_t X.1, gg_t X.1, T1, lt_eq, b2_some, ← hh3, gg_t X3.1, X5 X3, gg_t S3.1, X3.2.1]
  have thr1 : ∀ (bad : (∀ q, vP m q → v ≠ nI q) ∨ (∃ q, vP m q ∧ v = nI q ∧ ((∀ k, k < Nn m 3 → z ≠ nI k) ∨ ∀ j, j < Nn m (130 + 645 * q) → u ≠ nI j))), MX11_correct h 1 v u z = some (.inr 1, bmp h3 1 6) → Pr (cm [1, 2, 5, 3]) Gm h (MX11_correct h 1 v u z) (fun h' => MX12_correct h' 73 v u z) := fun bad hX => by
    refine Pr.mid C R F3 C3 1 1 rfl (by omega) (by omega) hX fun h' R' _ => ?_
    obtain ⟨h2, a1, a2, a3, a4⟩ := r_cor1 R' I v u z bad
    exact ⟨nI 0, h2, a1, a2, a3, a4⟩
  have fm : ∃ y, MX7_findMachine h3 19 z = some y := by
    rcases ni_d z (Nn m 3) with hz | ⟨b, hb, rfl⟩
    · exact ⟨_, c_findMachine_f S3 V3 I.1 hz⟩
    · obtain ⟨c, -, ec, -⟩ := c_findMachine_t S3 V3 I.1 hb
      exact ⟨_, ec⟩
  rcases vP.d m v with hv | ⟨q, vq, rfl⟩
  · obtain ⟨y, e6⟩ := fm
    exact thr1 (Or.inl hv) (by rw [head, c_findPart_f S3 V3 I.1 hv, ob_some, e6, ob_some, if_pos rfl])
  · obtain ⟨p, hp, ep, p0, pS, pV⟩ := c_findPart_t S3 V3 I.1 vq
    have q1 := vq.1
    have J := I.2.1 q vq
    obtain ⟨n0, b24⟩ := J.1.eq (by omega)
    obtain ⟨n1, b40⟩ := J.2.1.eq (by omega)
    rcases ni_d z (Nn m 3) with hz | ⟨a, ha, rfl⟩
    · exact thr1 (Or.inr ⟨q, vq, rfl, Or.inl hz⟩) (by rw [head, ep, ob_some, c_findMachine_f S3 V3 I.1 hz, ob_some, if_neg p0, if_pos rfl])
    · obtain ⟨c, hc, ec, c0, cS, cV⟩ := c_findMachine_t S3 V3 I.1 ha
      rcases ni_d u (Nn m (130 + 645 * q)) with hu | ⟨w, hw, rfl⟩
      · refine thr1 (Or.inr ⟨q, vq, rfl, Or.inr hu⟩) ?_
        rw [head, ep, ob_some, ec, ob_some, if_neg p0, if_neg c0]
        rcases ni_c (show Nn m (130 + 645 * q) < 2147483648 by omega) hu with y | ⟨y1, y2, y3⟩
        · rw [if_pos y]
        · rw [if_neg y1, gg_t pS.1, pV.2.1, n0, if_neg y3]
      · obtain ⟨f, fb1, F⟩ := c_fBit (w := w) pS pV J (by omega)
        obtain ⟨f2, -, F2⟩ := c_fBit (w := w + 1) pS pV J (by omega)
        obtain ⟨d1, d2⟩ := FW_2 J F F2 hw
        have f2n := F2.1
        obtain ⟨b, hb⟩ : ∃ b : Nat → Nat, b = fun j => Nn t j := ⟨_, rfl⟩
        have hbv : ∀ j, j < 400 → gI h 2 j = bS (b j) ∧ t j = nI (b j) ∧ b j ≤ 255 := fun j hj => by
          obtain ⟨c1, c2⟩ := T.2.2.2 j hj
          obtain ⟨c3, c4⟩ := c2.eq (by omega)
          rw [hb]
          exact ⟨c1, c3, c4⟩
        obtain ⟨s0, hs0⟩ : ∃ s0, s0 = tB0 (gI h 82) (gI h 81) (gI h 78) (gI h 79) (gI h 80) := ⟨_, rfl⟩
        obtain ⟨ba, hba⟩ : ∃ ba, ba = Nn m (130 + 645 * q + 1) - (f2 - f) := ⟨_, rfl⟩
        have T0 : TI 1 1 ba s0 := by rw [hs0]; exact ti_0 (by omega) (by omega)
        obtain ⟨E, hE⟩ : ∃ E, E = enT l (ruT 1 1 ba b s0 l) := ⟨_, rfl⟩
        have El : E ≤ 401 := by have := enT_le (mp := 1) (mw := 1) (ba := ba) (l := l) (b := b) (s0 := s0); omega
        have g2 : ∀ j, gI h3 2 j = gI h 2 j := fun j => by rw [hh3, gI_sI, if_neg (by decide)]
        have fw : MX1_firstWrong h3 2 (nI l) (nI 1) (nI 1) (nI ba) = some (lV E) := by
          rw [hE, hs0]
          exact c_first X3.f.2.2.1 (by rw [X3.f.2.2.2.1]; exact hl) (by rw [X3.f.2.2.2.1]; omega) (fun j hj => ⟨by rw [g2]; exact (hbv j (by omega)).1, (hbv j (by omega)).2.2⟩) (by omega) (by omega) (by omega) (Or.inl rfl) (by omega)
        obtain ⟨h4, hh4⟩ : ∃ h4, h4 = sI h3 1 2 (lV E) := ⟨_, rfl⟩
        have F34 : Fr (fun b => b = 1 ∨ b = 2) h3 h4 := by rw [hh4]; exact Fr.sI (S := fun b => b = 1 ∨ b = 2) (Or.inl rfl)
        have F4 : Fr (fun b => b = 1 ∨ b = 2) h h4 := F3.trans F34
        have T4 : TpV h4 t (nI 0) (lV E) := by
          refine ⟨by rw [hh4, gI_sI, if_pos rfl, up_at, if_neg (by decide)]; exact T3.1, ⟨0, by omega, rfl⟩, by rw [hh4, gI_sI, if_pos rfl, up_at, if_pos rfl], fun j hj => ?_⟩
          rw [hh4, gI_sI, if_neg (by decide)]
          exact T3.2.2.2 j hj
        have C4 : CSt tg h4 m k i t (nI 0) (lV E) := C.tape F4 T4
        obtain ⟨-, X4, -, S4, V4, -, -, -, -, -, -⟩ := id C4
        have e2 : gI h4 1 2 = lV E := T4.2.2.1
        have hp4 : p = gP h4 (gP h4 19 5) q := by rw [F34.2.2.1]; exact hp
        have hc4 : c = gP h4 (gP h4 19 8) a := by rw [F34.2.2.1]; exact hc
        obtain ⟨p4, hp4', -, -, pS4, pV4⟩ := c_findPart_t S4 V4 I.1 vq
        rw [← hp4] at hp4'
        replace hp4' := hp4'.symm
        subst hp4'
        obtain ⟨c4, hc4', -, -, cS4, cV4⟩ := c_findMachine_t S4 V4 I.1 ha
        rw [← hc4] at hc4'
        replace hc4' := hc4'.symm
        subst hc4'
        have head2 : MX11_correct h 1 (nI q) (nI w) (nI a) = if lV E = -nI 1 then (if m (130 + 645 * q + 3) = nI 0 then MX11_correct_131 h4 1 (nI q) (nI w) (nI l) p c else if jQ m q = true then some (.inr 5, bmp h4 1 6) else MX11_correct_131 h4 1 (nI q) (nI w) (nI l) p c) else some (.inr 2, bmp h4 1 6) := by
          rw [head, ep, ob_some, ec, ob_some, if_neg p0, if_neg c0, if_neg (show ¬ nI w < nI 0 from nI_pos (by omega)), gg_t pS.1, pV.2.1, n0, if_pos (nI_lt hw (by omega)), c_bow pS pV J hw F F2, ob_some, pV.1, n1, nSub (by omega), ← hba, fw, ob_some, lt_eq, ← hh4, e2, pV4.2.2.2.2.2.1, c_isQd S4 V4 I]
          by_cases c1 : lV E = -nI 1
          · rw [if_pos c1, if_pos c1]
            by_cases c2 : m (130 + 645 * q + 3) = nI 0
            · rw [if_pos c2, if_pos c2]
            · rw [if_neg c2, if_neg c2]
              by_cases c3 : jQ m q = true
              · rw [if_pos c3, if_pos c3, b2_some, if_neg (by decide)]
              · rw [if_neg c3, if_neg c3, b2_some, if_pos rfl]
          · rw [if_neg c1, if_neg c1]
        obtain ⟨e29, l29⟩ := (I.2.2.2.1 a ha).2.2.2.1.eq (by omega)
        -- the reference, up to the end of the reading
        have rr : ∀ h', RSt h' m k i t (nI l) f0 → (∀ y, 78 ≤ y → y ≤ 82 → gI h' y = gI h y) → ∃ h0 vv g, MX12_correct h' 73 (nI q) (nI w) (nI a) = (if vv = nI 0 then MX12_correct_219 (sI g 73 0 (nI 2)) 73 (nI q) (nI w) (nI a) (nI (130 + 645 * q)) (nI f) (nI (f2 - f)) else if m (130 + 645 * q + 3) = nI 1 then (if jQ m q = true then MX12_correct_219 (sI g 73 0 (nI 3)) 73 (nI q) (nI w) (nI a) (nI (130 + 645 * q)) (nI f) (nI (f2 - f)) else MX12_correct_197 g 73 (nI q) (nI w) (nI a) (nI (130 + 645 * q)) (nI f) (nI (f2 - f))) else MX12_correct_197 g 73 (nI q) (nI w) (nI a) (nI (130 + 645 * q)) (nI f) (nI (f2 - f))) ∧ Fr Rc h' h0 ∧ RSt h0 m k i t (nI 0) (-nI 1) ∧ gI h0 73 0 = nI 0 ∧ RS g ∧ gI g 74 = m ∧ RdO h0 b ba l s0 vv g := fun h' R' e => by
          have := r_corF (b := b) (s0 := s0) R' I vq ha hw F F2 (fun j hj => ⟨(hbv j hj).2.1, (hbv j hj).2.2⟩) hl (by rw [hs0, e 82 (by omega) (by omega), e 81 (by omega) (by omega), e 78 (by omega) (by omega), e 79 (by omega) (by omega), e 80 (by omega) (by omega)])
          rw [← hba] at this
          exact this
        by_cases z0 : E = 0
        · have lz : lV E = -nI 1 := by unfold lV; rw [if_pos z0]
          rw [if_pos lz] at head2
          rw [lz] at C4
          obtain ⟨s, es, ebh, etw⟩ : ∃ s, ruT 1 1 ba b s0 l = .inr s ∧ s.2.2.1 = false ∧ 0 < tw s := by
            cases q : ruT 1 1 ba b s0 l with
            | inl p =>
              rw [q, z0] at hE
              have : 0 = p + 1 := hE
              omega
            | inr s =>
              rw [q, z0] at hE
              have hE : 0 = if s.2.2.1 = true ∨ tw s = 0 then l + 1 else 0 := hE
              by_cases y : s.2.2.1 = true ∨ tw s = 0
              · rw [if_pos y] at hE
                omega
              · refine ⟨s, rfl, ?_, ?_⟩
                · cases q2 : s.2.2.1 with
                  | true => exact absurd (Or.inl q2) y
                  | false => rfl
                · by_cases q3 : tw s = 0
                  · exact absurd (Or.inr q3) y
                  · omega
          have Ts := ti_ru T0 (by omega) (by omega) l s es
          have s1 : s.1 = 0 := by have := Ts.1; omega
          have ok : ∀ h0 vv g, RdO h0 b ba l s0 vv g → vv = nI 1 ∧ RTq h0 g l 0 s.2.2.2.2.1 s.2.2.2.2.2.1 s.2.2.2.2.2.2.1 s.2.2.2.2.2.2.2 (gI h0 82) := fun h0 vv g Q => by
            rcases Q with ⟨-, p, -, q⟩ | ⟨v1, s', es', -, -, q⟩
            · rw [← hE, z0] at q
              omega
            · rw [es] at es'
              cases es'
              exact ⟨v1, q⟩
          -- a state in which the reference has read, as far as numbers are wanted
          have rd : ∀ h', RSt h' m k i t (nI l) f0 → (∀ y, 78 ≤ y → y ≤ 82 → gI h' y = gI h y) → ∃ g, MX12_correct h' 73 (nI q) (nI w) (nI a) = (if m (130 + 645 * q + 3) = nI 1 then (if jQ m q = true then MX12_correct_219 (sI g 73 0 (nI 3)) 73 (nI q) (nI w) (nI a) (nI (130 + 645 * q)) (nI f) (nI (f2 - f)) else MX12_correct_197 g 73 (nI q) (nI w) (nI a) (nI (130 + 645 * q)) (nI f) (nI (f2 - f))) else MX12_correct_197 g 73 (nI q) (nI w) (nI a) (nI (130 + 645 * q)) (nI f) (nI (f2 - f))) ∧ Fr Rc h' g ∧ RSt g m k i t (nI 0) (-nI 1) ∧ gI g 73 0 = nI 0 ∧ gI g 79 = s.2.2.2.2.2.2.1 ∧ gI g 80 = s.2.2.2.2.2.2.2 ∧ gI g 81 0 = nI (tp s) := fun h' R' e => by
            obtain ⟨h0, vv, g, a1, a2, a3, a4, a5, a6, a7⟩ := rr h' R' e
            obtain ⟨vv1, QF, -, -, q81, -, q79, q80, -, q9⟩ := ok h0 vv g a7
            subst vv1
            obtain ⟨b1, b2', b3⟩ := fq_st a3 QF (q9.trans a3.2.2.2.2.2.2)
            refine ⟨g, by rw [a1, if_neg (by decide)], a2.trans b2', b1, by rw [b3]; exact a4, q79, q80, ?_⟩
            have o := (Ts.2.2.1 0 (by omega)).2
            obtain ⟨o1, o2⟩ := o.eq (by omega)
            rw [q81, o1]
            unfold tp
            rw [s1]
          obtain ⟨x3, hx3, e3⟩ := J.2.2.2.2.1
          by_cases cq : m (130 + 645 * q + 3) = nI 1 ∧ jQ m q = true
          · rw [if_neg (by rw [cq.1]; decide), if_pos cq.2] at head2
            refine Pr.mid C R F4 C4 5 3 rfl (by omega) (by omega) head2 fun h' R' e => ?_
            obtain ⟨g, a1, a2, a3, a4, -⟩ := rd h' R' e
            refine ⟨nI 0, sI g 73 0 (nI 3), ?_, a2.trans th_fr, a3.th, th_get⟩
            rw [a1, if_pos cq.1, if_pos cq.2, r_219t a3.1 (by omega) (by omega)]
          · have hX : MX11_correct h 1 (nI q) (nI w) (nI a) = MX11_correct_131 h4 1 (nI q) (nI w) (nI l) p c := by
              rw [head2]
              rcases (show x3 = 0 ∨ x3 = 1 by omega) with rfl | rfl
              · rw [if_pos e3]
              · rw [if_neg (by rw [e3]; decide), if_neg (fun y => cq ⟨e3, y⟩)]
            have h197 : ∀ g, (if m (130 + 645 * q + 3) = nI 1 then (if jQ m q = true then MX12_correct_219 (sI g 73 0 (nI 3)) 73 (nI q) (nI w) (nI a) (nI (130 + 645 * q)) (nI f) (nI (f2 - f)) else MX12_correct_197 g 73 (nI q) (nI w) (nI a) (nI (130 + 645 * q)) (nI f) (nI (f2 - f))) else MX12_correct_197 g 73 (nI q) (nI w) (nI a) (nI (130 + 645 * q)) (nI f) (nI (f2 - f))) = MX12_correct_197 g 73 (nI q) (nI w) (nI a) (nI (130 + 645 * q)) (nI f) (nI (f2 - f)) := fun g => by
              by_cases c1 : m (130 + 645 * q + 3) = nI 1
              · rw [if_pos c1, if_neg (fun y => cq ⟨c1, y⟩)]
              · rw [if_neg c1]
            by_cases z30 : Nn m (320230 + 183 * a + 29) < 30
            · have es' : ruT 1 1 (Nn m (130 + 645 * q + 1) - (f2 - f)) b s0 l = .inr s := by rw [← hba]; exact es
              refine cor_end (s := s) C R F4 C4 vq ha hp4 p0 hc4 hw F F2 (by rw [← hba]; exact T0) (by rw [hs0]; rfl) (by rw [hs0]; rfl) (by rw [hs0]; show Nn (va_up (gI h 81) 0 (nI 0)) 0 = 0; rw [nnU (by omega), if_pos rfl]) (by rw [hs0]; show Nn (va_up (gI h 82) 0 (nI 0)) 0 = 0; rw [nnU (by omega), if_pos rfl]) (by rw [hs0]; rfl) hl (fun j hj => ⟨by rw [hh4, gI_sI, if_neg (by decide), g2]; exact (hbv j (by omega)).1, (hbv j (by omega)).2.2⟩) es' ebh etw z30 (fun y => by
                cases y2 : jQ m q with
                | true => exact absurd ⟨y, y2⟩ cq
                | false => rfl) hX fun h' R' e => ?_
              obtain ⟨g, a1, a2, a3, a4, a5⟩ := rd h' R' e
              exact ⟨g, by rw [a1, h197, r_197 a3.1 a3.2.1 I ha, if_neg (by omega)], a2, a3, a4, a5⟩
            · refine Pr.mid C R F4 C4 3 4 rfl (by omega) (by omega) (by
                rw [hX]
                unfold MX11_correct_131
                simp only [ZL]
                rw [gg_t cS4.1, cV4.2.2.2.1, e29, if_neg (nI_nlt (by omega) (by omega))]) fun h' R' e => ?_
              obtain ⟨g, a1, a2, a3, a4, -⟩ := rd h' R' e
              refine ⟨nI 0, sI g 73 0 (nI 4), ?_, a2.trans th_fr, a3.th, th_get⟩
              rw [a1, h197, r_197 a3.1 a3.2.1 I ha, if_pos (by omega), r_219t a3.1 (by omega) (by omega)]
        · have lz : lV E = nI (E - 1) := by unfold lV; rw [if_neg z0]
          rw [if_neg (show ¬ lV E = -nI 1 by rw [lz, nM6 (by omega)]; exact id)] at head2
          refine Pr.mid C R F4 C4 2 2 rfl (by omega) (by omega) head2 fun h' R' e => ?_
          obtain ⟨h0, vv, g, a1, a2, a3, a4, a5, a6, a7⟩ := rr h' R' e
          rcases a7 with ⟨vv0, p', Q, q⟩ | ⟨-, s, es, ebh, etw, -⟩
          · subst vv0
            have pE : p' = E - 1 := by rw [hE]; omega
            obtain ⟨b1, b2', b3⟩ := fq_st a3 Q.1 Q.2
            rw [pE, ← lz] at b1
            refine ⟨nI 0, sI g 73 0 (nI 2), ?_, (a2.trans b2').trans th_fr, b1.th, th_get⟩
            rw [a1, if_pos rfl, r_219t a5 (by omega) (by omega)]
          · exfalso
            rw [es] at hE
            have hE : E = if s.2.2.1 = true ∨ tw s = 0 then l + 1 else 0 := hE
            rw [if_neg (fun o => o.elim (fun o => by rw [ebh] at o; exact Bool.noConfusion o) (fun o => by omega))] at hE
            exact z0 hE
end
