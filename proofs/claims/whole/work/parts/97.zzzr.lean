/-! plans: the class's answer -/
section
variable {tg : Nat → List Nat} {h h' h1 g g1 : Hp} {m kk t : Nat → Int32} {ii nn f : Int32} {k j q r x n : Nat} {c : Nat → Nat} {L D : Nat → Nat}
/-- n parts are planned -/
def PJ (h : Hp) (c : Nat → Nat) (m : Nat → Int32) (s : Nat × (Nat → Nat)) : Prop := gI h 68 0 = nI s.1 ∧ ∀ i, i < s.1 → gI h (c 1) i = nI (wyN m (s.2 i)) ∧ gI h (c 2) i = nI (Nn m (90 + s.2 i / 5))
theorem c_load (R : RSt h m kk ii t nn f) (C : CL tg h m kk t ii nn f g) (hc : c = gP g 68) : ∃ g1, MX6_loadParts g 68 19 = some g1 ∧ CL tg h m kk t ii nn f g1 ∧ PJ g1 c m (plc m 100) := by
  obtain ⟨C0, -, -⟩ := id C
  obtain ⟨O, X, X2, S, V, Dk, DV, I, T, Im, Tr⟩ := id C0
  obtain ⟨PXg, PAg, hD⟩ := pl_x C0
  rw [← hc] at PXg PAg hD
  have f1 := I.1.f.2.1
  obtain ⟨g0, hg0⟩ : ∃ g0, g0 = sI g 68 0 (nI 0) := ⟨_, rfl⟩
  have F0 : Fr (fun b => b = 68 ∨ ∃ k, 1 ≤ k ∧ k ≤ 4 ∧ b = c k) g g0 := by rw [hg0]; exact Fr.sI (Or.inl rfl)
  have C1 := cl_ft R C F0 hD
  have lp : ∃ z, it (fun y : Int32 × Hp => BX6_loadParts_7 y.2 68 19 y.1) (nI 0, g0) = some z ∧ CL tg h m kk t ii nn f z ∧ PJ z c m (plc m 100) := by
    refine it_up (P := fun p y => ∃ q, q + p = 5 * Nn m 1 ∧ y.1 = nI q ∧ CL tg h m kk t ii nn f y.2 ∧ gP y.2 = gP g ∧ PJ y.2 c m (plc m q)) (Q := fun z => CL tg h m kk t ii nn f z ∧ PJ z c m (plc m 100)) (5 * Nn m 1) (fun p y pp => ?_) (nI 0, g0) ⟨0, by omega, rfl, C1, by show gP g0 = gP g; rw [hg0, gP_sI], by show gI g0 68 0 = nI 0; rw [hg0, gI2, if_pos ⟨rfl, rfl⟩], fun i hi => absurd hi (Nat.not_lt_zero i)⟩
    obtain ⟨a1, e⟩ := y
    obtain ⟨q, p0, p1, p2, p3, p4⟩ := pp
    replace p1 : a1 = nI q := p1
    replace p2 : CL tg h m kk t ii nn f e := p2
    replace p3 : gP e = gP g := p3
    replace p4 : PJ e c m (plc m q) := p4
    subst p1
    obtain ⟨Ce, -, -⟩ := id p2
    obtain ⟨Oe, Ye, -, Se, Ve, -⟩ := id Ce
    obtain ⟨PXe, PAe, hDe⟩ := pl_x Ce
    rw [p3, ← hc] at PXe PAe hDe
    have e7 : gI e 19 7 = nI (Nn m 1) := by rw [Ve.2.1]; exact f1.1
    have pb := plc_b m q
    by_cases z1 : q = 5 * Nn m 1
    · have up := plc_up (m := m) (q := q) (Or.inr (fun r hr v => by have := v.2.1; omega)) (100 - q)
      rw [show q + (100 - q) = 100 by omega] at up
      refine Or.inl ⟨e, ?_, p2, by rw [up]; exact p4⟩
      show BX6_loadParts_7 e 68 19 (nI q) = _
      unfold BX6_loadParts_7
      simp only [ZL]
      rw [gg_t Se.1, e7, nMul, if_pos (nI_le (by omega) (by omega))]
    · have hq : q < 5 * Nn m 1 := by omega
      by_cases z2 : (plc m q).1 = 5
      · have up := plc_up (m := m) (q := q) (Or.inl z2) (100 - q)
        rw [show q + (100 - q) = 100 by omega] at up
        refine Or.inl ⟨e, ?_, p2, by rw [up]; exact p4⟩
        show BX6_loadParts_7 e 68 19 (nI q) = _
        unfold BX6_loadParts_7
        simp only [ZL]
        rw [gg_t Se.1, e7, nMul, if_neg (nI_ge hq (by omega)), gg_t PXe.1, p4.1, z2, if_pos (nI_le (Nat.le_refl _) (by omega))]
      · have s5 : (plc m q).1 < 5 := by omega
        have skip : ∀ g2 : Hp, CL tg h m kk t ii nn f g2 → gP g2 = gP g → PJ g2 c m (plc m q) → plc m (q + 1) = plc m q → BX6_loadParts_7 e 68 19 (nI q) = some (.inl (nI (q + 1), g2)) → (∃ r, (fun y : Int32 × Hp => BX6_loadParts_7 y.2 68 19 y.1) (nI q, e) = some (.inr r) ∧ (CL tg h m kk t ii nn f r ∧ PJ r c m (plc m 100))) ∨ ∃ s' k', k' < p ∧ (∃ q, q + k' = 5 * Nn m 1 ∧ s'.1 = nI q ∧ CL tg h m kk t ii nn f s'.2 ∧ gP s'.2 = gP g ∧ PJ s'.2 c m (plc m q)) ∧ (fun y : Int32 × Hp => BX6_loadParts_7 y.2 68 19 y.1) (nI q, e) = some (.inl s') := fun g2 a1 a2 a3 a4 a5 => Or.inr ⟨(nI (q + 1), g2), p - 1, by omega, ⟨q + 1, by omega, rfl, a1, a2, by rw [a4]; exact a3⟩, a5⟩
        by_cases vq : vP m q
        · obtain ⟨P, c0, c1, c2, c3, c4⟩ := c_findPart_t Se Ve I.1 vq
          have e10 : gI e P 10 = m (130 + 645 * q + 2) := c4.2.2.2.2.1
          have e8 : gI e P 8 = m (90 + q / 5) := c4.2.2.2.1
          have due := (I.1.2.2.2.2.2.2.2.2.2 _ vq.2.1).2.1.eq (by omega)
          have head : BX6_loadParts_7 e 68 19 (nI q) = if m (130 + 645 * q + 2) = nI 0 then b2 (MX7_breakerFor e 19 P (m 0)) (fun (t18 : Nat) (h17 : Hp) => gg (kd h17 t18 = 0) <| b2 (MX0_solve h17 t18 (nI 0)) fun (t22 : Int32) (h21 : Hp) => if t22 = -nI 1 then some (.inl (nI (q + 1), h21)) else gg (kd h21 68 = 5) <| gg (kd h21 (gP h21 68 1) = 20) <| gg (inB (gI h21 68 0) (ln h21 (gP h21 68 1)) = true) <| lt (sI h21 (gP h21 68 1) (gI h21 68 0).toNatClampNeg t22) fun (h27 : Hp) => gg (kd h21 P = 4) <| gg (kd h21 (gP h21 68 2) = 20) <| gg (inB (gI h27 68 0) (ln h21 (gP h21 68 2)) = true) <| lt (sI h27 (gP h21 68 2) (gI h27 68 0).toNatClampNeg (gI h27 P 8)) fun (h35 : Hp) => lt (sI h35 68 0 ((gI h35 68 0) + nI 1)) fun (h40 : Hp) => some (.inl (nI (q + 1), h40))) else some (.inl (nI (q + 1), e)) := by
            unfold BX6_loadParts_7
            simp only [ZL]
            rw [gg_t Se.1, e7, nMul, if_neg (nI_ge hq (by omega)), gg_t PXe.1, p4.1, if_neg (nI_ge s5 (by omega)), c1, ob_some, if_neg c2, gg_t c3.1, e10, Ve.1, nAdd]
          by_cases gv : m (130 + 645 * q + 2) = nI 0
          · obtain ⟨b, h2, g2, s1, s2, s3, s4⟩ := c_sol Ce vq c0 c2 c3 c4
            have C2 := cl_sc R p2 s4
            obtain ⟨C20, -, -⟩ := id C2
            obtain ⟨O2, Y2, -, S2, V2, -⟩ := id C20
            obtain ⟨k68, kc⟩ := pl_sc Ce s4
            rw [p3, ← hc] at kc
            have gp2 : gP g2 = gP g := by rw [s4.1.gp]; exact p3
            have PX2 := PXe.fr (show Fr (fun b => b ≠ 0 ∧ scT 5 (tg b)) e g2 from s4.1)
            have PJ2 : PJ g2 c m (plc m q) := by
              refine ⟨by rw [k68]; exact p4.1, fun i hi => ?_⟩
              rw [kc 1 (by omega) (by omega), kc 2 (by omega) (by omega)]
              exact p4.2 i hi
            by_cases w : wyT m q (m 0) 0 = none
            · refine skip g2 C2 gp2 PJ2 (plc_f (fun e => e.2.2.2 w)) ?_
              rw [head, if_pos gv, s1, b2_some, gg_t s2, s3, b2_some, w, if_pos (show enL none = -nI 1 from rfl)]
            · have wN : enL (wyT m q (m 0) 0) = nI (wyN m q) := by
                unfold wyN
                cases e : wyT m q (m 0) 0 with
                | none => exact absurd e w
                | some v => rfl
              have wb := wy_b I vq
              have eS := plc_t (m := m) (q := q) ⟨s5, vq, gv, w⟩
              -- the part as it is behind the search
              obtain ⟨P2, d0, d1, d2, d3, d4⟩ := c_findPart_t S2 V2 I.1 vq
              have eP : P2 = P := by rw [d0, c0, gp2, p3]
              rw [eP] at d2 d3 d4
              have h8 : gI g2 P 8 = nI (Nn m (90 + q / 5)) := by rw [d4.2.2.2.1]; exact due.1
              have nP : ∀ k, 1 ≤ k → k ≤ 4 → ¬ P = c k := fun k h1 h4 e => by
                have t8 := (hDe (c k) (Or.inr ⟨k, h1, h4, rfl⟩)).2
                rw [← e] at t8
                have t5 := C20.rt.o (k := 5) (j := q) (by rw [← d0, eP]; exact d2)
                rw [← d0, eP] at t5
                rw [t5] at t8
                have := suf1 t8 (List.suffix_append [q, 5] [5])
                omega
              obtain ⟨g3, hg3⟩ : ∃ g3, g3 = sI g2 (c 1) (plc m q).1 (nI (wyN m q)) := ⟨_, rfl⟩
              obtain ⟨g4, hg4⟩ : ∃ g4, g4 = sI g3 (c 2) (plc m q).1 (nI (Nn m (90 + q / 5))) := ⟨_, rfl⟩
              obtain ⟨g5, hg5⟩ : ∃ g5, g5 = sI g4 68 0 (nI ((plc m q).1 + 1)) := ⟨_, rfl⟩
              have F3 : Fr (fun b => b = 68 ∨ ∃ k, 1 ≤ k ∧ k ≤ 4 ∧ b = c k) g2 g3 := by rw [hg3]; exact Fr.sI (Or.inr ⟨1, by omega, by omega, rfl⟩)
              have F4 : Fr (fun b => b = 68 ∨ ∃ k, 1 ≤ k ∧ k ≤ 4 ∧ b = c k) g3 g4 := by rw [hg4]; exact Fr.sI (Or.inr ⟨2, by omega, by omega, rfl⟩)
              have F5 : Fr (fun b => b = 68 ∨ ∃ k, 1 ≤ k ∧ k ≤ 4 ∧ b = c k) g4 g5 := by rw [hg5]; exact Fr.sI (Or.inl rfl)
              have FF := (F3.trans F4).trans F5
              have z3 : gI g3 68 0 = nI (plc m q).1 := by rw [hg3, gI_sI, if_neg (pa_8 PAe 1 (by omega))]; exact PJ2.1
              have z4 : gI g4 68 0 = nI (plc m q).1 := by rw [hg4, gI_sI, if_neg (pa_8 PAe 2 (by omega))]; exact z3
              have P8 : gI g3 P 8 = nI (Nn m (90 + q / 5)) := by rw [hg3, gI_sI, if_neg (nP 1 (by omega) (by omega))]; exact h8
              refine Or.inr ⟨(nI (q + 1), g5), p - 1, by omega, ⟨q + 1, by omega, rfl, cl_ft R C2 FF hDe, by show gP g5 = gP g; rw [FF.2.2.1]; exact gp2, ?_⟩, ?_⟩
              · show PJ g5 c m (plc m (q + 1))
                rw [eS]
                refine ⟨by rw [hg5, gI2, if_pos ⟨rfl, rfl⟩], fun i hi => ?_⟩
                have o1 : gI g5 (c 1) i = if i = (plc m q).1 then nI (wyN m q) else gI g2 (c 1) i := by
                  rw [hg5, gI_sI, if_neg (fun e => pa_8 PAe 1 (by omega) e.symm), hg4, gI_sI, if_neg (pa_n PAe 1 2 (by omega)), hg3, gI_sI, if_pos rfl, up_at]
                have o2 : gI g5 (c 2) i = if i = (plc m q).1 then nI (Nn m (90 + q / 5)) else gI g2 (c 2) i := by
                  rw [hg5, gI_sI, if_neg (fun e => pa_8 PAe 2 (by omega) e.symm), hg4, gI_sI, if_pos rfl, up_at, hg3, gI_sI, if_neg (pa_n PAe 2 1 (by omega))]
                rw [o1, o2]
                show _ = nI (wyN m (upN (plc m q).2 (plc m q).1 q i)) ∧ _ = nI (Nn m (90 + upN (plc m q).2 (plc m q).1 q i / 5))
                have hi' : i < (plc m q).1 + 1 := hi
                unfold upN
                by_cases z : i = (plc m q).1
                · rw [if_pos z, if_pos z, if_pos z]
                  exact ⟨rfl, rfl⟩
                · rw [if_neg z, if_neg z, if_neg z]
                  exact PJ2.2 i (by omega)
              · show BX6_loadParts_7 e 68 19 (nI q) = _
                rw [head, if_pos gv, s1, b2_some, gg_t s2, s3, b2_some, wN, if_neg (by rw [nM6 (by omega)]; exact id), gg_t PX2.1, PX2.p, PX2.p, gg_t PX2.2.2.1.1, PJ2.1, PX2.2.2.1.2, gg_in (by omega) (by omega), nCl (by omega), lt_eq, ← hg3, gg_t d3.1, gg_t PX2.2.2.2.1.1, z3, PX2.2.2.2.1.2, gg_in (by omega) (by omega), nCl (by omega), P8, lt_eq, ← hg4, z4, nAdd, lt_eq, ← hg5]
          · refine skip e p2 p3 p4 (plc_f (fun e => gv e.2.2.1)) ?_
            rw [head, if_neg gv]
        · refine skip e p2 p3 p4 (plc_f (fun e => vq e.2.1)) ?_
          unfold BX6_loadParts_7
          simp only [ZL]
          rw [gg_t Se.1, e7, nMul, if_neg (nI_ge hq (by omega)), gg_t PXe.1, p4.1, if_neg (nI_ge s5 (by omega)), c_findPart_f Se Ve I.1 (fun r hr e => by
            rw [nEq (by omega) (by have := hr.1; omega)] at e
            exact vq (by rw [e]; exact hr)), ob_some, if_pos rfl, nAdd]
  obtain ⟨z, y1, y2⟩ := lp
  refine ⟨z, ?_, y2⟩
  unfold MX6_loadParts MX6_loadParts_7
  simp only [ZL]
  rw [gg_t PXg.1, lt_eq, ← hg0]
  exact y1
/-- the class's least lateness -/
theorem c_least (C : CSt tg h m kk ii t nn f) (R : RSt h m kk ii t nn f) : ∃ g v, MX11_least h 1 = some ((if v < 1000000000 then nI v else -nI 1), g) ∧ CL tg h m kk t ii nn f g ∧ AlP (pL m) (pD m) (pB m) (pX m) (Nn m 3) (2 ^ pnN m - 1) v := by
  have C0 : CL tg h m kk t ii nn f h := ⟨C, Fr.rfl, Rp.rfl⟩
  obtain ⟨O, X, X2, S, V, Dk, DV, I, T, Im, Tr⟩ := id C
  obtain ⟨PXh, PAh, hD⟩ := pl_x C
  obtain ⟨pn5, pL4, pL0, pD6⟩ := p_bd I
  have h5 : 2 ^ pnN m ≤ 2 ^ 5 := Nat.pow_le_pow_right (by omega) pn5
  have h1' : 1 ≤ 2 ^ pnN m := Nat.one_le_two_pow
  have f3 := I.1.f.2.2.2.1
  have f0 := I.1.f.1
  obtain ⟨c, hc⟩ : ∃ c, c = gP h 68 := ⟨_, rfl⟩
  rw [← hc] at PXh PAh hD
  obtain ⟨g1, y1, C1, PJ1⟩ := c_load R C0 hc
  have eg : ∀ e, CL tg h m kk t ii nn f e → gP e = gP h := fun e Ce => Ce.2.1.2.2.1
  have PXc : ∀ e, CL tg h m kk t ii nn f e → PX e c ∧ PA c ∧ (∀ b, (b = 68 ∨ ∃ k, 1 ≤ k ∧ k ≤ 4 ∧ b = c k) → b ≠ 0 ∧ [8] <:+ tg b) := fun e Ce => by
    have := pl_x Ce.1
    rw [eg e Ce, ← hc] at this
    exact this
  -- the parts as the tables ask for them
  have pln : ∀ e, PJ e c m (plc m 100) → PLn e c (pnN m) (pL m) (pD m) := fun e Pe => ⟨Pe.1, fun i hi => by
    unfold pL pD
    rw [if_pos hi, if_pos hi]
    exact Pe.2 i hi⟩
  -- all sets at the start
  have l14 : ∃ z, it (fun y : Int32 × Hp => BX6_leastLate_14 y.2 68 19 (nI (2 ^ pnN m)) y.1) (nI 0, g1) = some z ∧ ∃ v, z.1 = (if v < 1000000000 then nI v else -nI 1) ∧ CL tg h m kk t ii nn f z.2 ∧ AlP (pL m) (pD m) (pB m) (pX m) (Nn m 3) (2 ^ pnN m - 1) v := by
    refine it_cnt (fun j y => y.1 = nI j ∧ CL tg h m kk t ii nn f y.2 ∧ PJ y.2 c m (plc m 100) ∧ ∀ r, r < j → gI y.2 (c 4) r = nI (if r = 0 then 0 else 1000000000)) (2 ^ pnN m) (fun j y hj pp => ?_) (fun y pp => ?_) ⟨rfl, C1, PJ1, fun r hr => absurd hr (Nat.not_lt_zero r)⟩
    · obtain ⟨a1, e⟩ := y
      obtain ⟨p1, p2, p3, p4⟩ := pp
      replace p1 : a1 = nI j := p1
      replace p2 : CL tg h m kk t ii nn f e := p2
      replace p3 : PJ e c m (plc m 100) := p3
      replace p4 : ∀ r, r < j → gI e (c 4) r = nI (if r = 0 then 0 else 1000000000) := p4
      subst p1
      obtain ⟨Xe, Ae, De⟩ := PXc e p2
      obtain ⟨e1, he1⟩ : ∃ e1, e1 = sI e (c 4) j (nI (if j = 0 then 0 else 1000000000)) := ⟨_, rfl⟩
      have F1 : Fr (fun b => b = 68 ∨ ∃ k, 1 ≤ k ∧ k ≤ 4 ∧ b = c k) e e1 := by rw [he1]; exact Fr.sI (Or.inr ⟨4, by omega, by omega, rfl⟩)
      refine ⟨(nI (j + 1), e1), ?_, rfl, cl_ft R p2 F1 De, ⟨by show gI e1 68 0 = _; rw [he1, gI_sI, if_neg (pa_8 Ae 4 (by omega))]; exact p3.1, fun i hi => by show gI e1 (c 1) i = _ ∧ gI e1 (c 2) i = _; rw [he1, gI_sI, if_neg (pa_n Ae 1 4 (by omega)), gI_sI, if_neg (pa_n Ae 2 4 (by omega))]; exact p3.2 i hi⟩, fun r hr => ?_⟩
      · show BX6_leastLate_14 e 68 19 (nI (2 ^ pnN m)) (nI j) = _
        unfold BX6_leastLate_14 MX6_leastLate_34
        simp only [ZL]
        rw [if_neg (nI_ge hj (by omega)), gg_t Xe.1, Xe.p, gg_t Xe.2.2.2.2.2.1, Xe.2.2.2.2.2.2, gg_in (by omega) (by omega), nCl (by omega), nAdd]
        by_cases z : j = 0
        · rw [if_pos (by rw [z]), lt_eq]
          rw [he1, if_pos z]
        · rw [if_neg (by rw [nEq (by omega) (by omega)]; exact z), gg_t Xe.2.2.2.2.2.1, gg_in (by omega) (by omega), lt_eq]
          rw [he1, if_neg z]
      · show gI e1 (c 4) r = _
        rw [he1, gI_sI, if_pos rfl, up_at]
        by_cases z : r = j
        · rw [if_pos z, z]
        · rw [if_neg z]; exact p4 r (by omega)
    · obtain ⟨a1, e⟩ := y
      obtain ⟨p1, p2, p3, p4⟩ := pp
      replace p1 : a1 = nI (2 ^ pnN m) := p1
      replace p2 : CL tg h m kk t ii nn f e := p2
      replace p3 : PJ e c m (plc m 100) := p3
      replace p4 : ∀ r, r < 2 ^ pnN m → gI e (c 4) r = nI (if r = 0 then 0 else 1000000000) := p4
      subst p1
      -- the machines
      have l43 : ∃ z, it (fun y : Int32 × Hp => BX6_leastLate_43 y.2 68 19 (nI (2 ^ pnN m)) y.1) (nI 0, e) = some z ∧ ∃ v, z.1 = (if v < 1000000000 then nI v else -nI 1) ∧ CL tg h m kk t ii nn f z.2 ∧ AlP (pL m) (pD m) (pB m) (pX m) (Nn m 3) (2 ^ pnN m - 1) v := by
        refine it_cnt (fun k y => y.1 = nI k ∧ CL tg h m kk t ii nn f y.2 ∧ PJ y.2 c m (plc m 100) ∧ AT y.2 c (pL m) (pD m) (pB m) (pX m) k (2 ^ pnN m)) (Nn m 3) (fun k y hk pp => ?_) (fun y pp => ?_) ⟨rfl, p2, p3, fun r hr => ⟨_, p4 r hr, alP_0 (by omega)⟩⟩
        · obtain ⟨a1, e⟩ := y
          obtain ⟨p1, p2, p3, p4⟩ := pp
          replace p1 : a1 = nI k := p1
          replace p2 : CL tg h m kk t ii nn f e := p2
          replace p3 : PJ e c m (plc m 100) := p3
          replace p4 : AT e c (pL m) (pD m) (pB m) (pX m) k (2 ^ pnN m) := p4
          subst p1
          obtain ⟨Xe, Ae, De⟩ := PXc e p2
          obtain ⟨Ce0, -, -⟩ := id p2
          obtain ⟨Oe, Ye, -, Se, Ve, -⟩ := id Ce0
          obtain ⟨M, m1, m2, m3, m4, m5⟩ := c_findMachine_t Se Ve I.1 hk
          have hx := pX_b I hk
          have head : BX6_leastLate_43 e 68 19 (nI (2 ^ pnN m)) (nI k) = if m (320230 + 183 * k + 28) = nI 0 then b2 (MX7_queuedLines e 19 M) (fun (t19 : Int32) (h18 : Hp) => gg (kd h18 68 = 5) <| Option.bind (MX6_findOwn h18 68 ((gI e 19 0) + t19) (nI (2 ^ pnN m))) fun (h22 : Hp) => gg (kd h22 68 = 5) <| Option.bind (MX6_shareWithOwn h22 68 (nI (2 ^ pnN m))) fun (h25 : Hp) => some (.inl (nI (k + 1), h25))) else some (.inl (nI (k + 1), e)) := by
            unfold BX6_leastLate_43
            simp only [ZL]
            rw [gg_t Se.1, Ve.2.2.2.1, f3.1, if_neg (nI_ge hk (by omega)), m2, ob_some, if_neg m3, gg_t m4.1, m5.2.2.1, nAdd]
          by_cases bz : m (320230 + 183 * k + 28) = nI 0
          · have pb : pB m k = false := dB_f (fun e => e bz)
            obtain ⟨g2, q1, q2⟩ := c_queued R p2 hk
            rw [← m1] at q1
            have C2 := cl_sc R p2 q2
            obtain ⟨k68, kc⟩ := pl_sc Ce0 q2
            rw [eg e p2, ← hc] at kc
            obtain ⟨X2', A2, D2⟩ := PXc g2 C2
            have PJ2 : PJ g2 c m (plc m 100) := ⟨by rw [k68]; exact p3.1, fun i hi => by rw [kc 1 (by omega) (by omega), kc 2 (by omega) (by omega)]; exact p3.2 i hi⟩
            have AT2 : AT g2 c (pL m) (pD m) (pB m) (pX m) k (2 ^ pnN m) := fun r hr => by rw [kc 4 (by omega) (by omega)]; exact p4 r hr
            obtain ⟨g3, u1, u2, u3⟩ := c_findOwn X2' A2 (pln g2 PJ2) pn5 pL4 pL0 pD6 hx
            have C3 := cl_ft R C2 (u2.mono (fun b hb => (Or.inr ⟨3, by omega, by omega, hb⟩ : b = 68 ∨ ∃ k, 1 ≤ k ∧ k ≤ 4 ∧ b = c k))) D2
            obtain ⟨X3, A3, D3⟩ := PXc g3 C3
            have AT3 : AT g3 c (pL m) (pD m) (pB m) (pX m) k (2 ^ pnN m) := fun r hr => by rw [u2.2.2.2.2.2.2 _ (pa_n A3 4 3 (by omega))]; exact AT2 r hr
            obtain ⟨g4, v1, v2, v3⟩ := c_share (xs := pX m) (k := k) (bk := pB m) X3 A3 pn5 pL4 hx pb u3 AT3
            have C4 := cl_ft R C3 (v2.mono (fun b hb => (Or.inr ⟨4, by omega, by omega, hb⟩ : b = 68 ∨ ∃ k, 1 ≤ k ∧ k ≤ 4 ∧ b = c k))) D3
            refine ⟨(nI (k + 1), g4), ?_, rfl, C4, ⟨by show gI g4 68 0 = _; rw [v2.2.2.2.2.2.2 _ (pa_8 A3 4 (by omega)), u2.2.2.2.2.2.2 _ (pa_8 A3 3 (by omega))]; exact PJ2.1, fun i hi => by show gI g4 (c 1) i = _ ∧ gI g4 (c 2) i = _; rw [v2.2.2.2.2.2.2 _ (pa_n A3 1 4 (by omega)), u2.2.2.2.2.2.2 _ (pa_n A3 1 3 (by omega)), v2.2.2.2.2.2.2 _ (pa_n A3 2 4 (by omega)), u2.2.2.2.2.2.2 _ (pa_n A3 2 3 (by omega))]; exact PJ2.2 i hi⟩, v3⟩
            show BX6_leastLate_43 e 68 19 (nI (2 ^ pnN m)) (nI k) = _
            rw [head, if_pos bz, q1, b2_some, gg_t X2'.1, Ve.1, f0.1, nAdd]
            show Option.bind (MX6_findOwn g2 68 (nI (pX m k)) (nI (2 ^ pnN m))) _ = _
            rw [u1, ob_some, gg_t X3.1, v1, ob_some]
          · have pb : pB m k = true := dB_t bz
            refine ⟨(nI (k + 1), e), ?_, rfl, p2, p3, p4.b pb⟩
            show BX6_leastLate_43 e 68 19 (nI (2 ^ pnN m)) (nI k) = _
            rw [head, if_neg bz]
        · obtain ⟨a1, e⟩ := y
          obtain ⟨p1, p2, p3, p4⟩ := pp
          replace p1 : a1 = nI (Nn m 3) := p1
          replace p2 : CL tg h m kk t ii nn f e := p2
          replace p4 : AT e c (pL m) (pD m) (pB m) (pX m) (Nn m 3) (2 ^ pnN m) := p4
          subst p1
          obtain ⟨Xe, Ae, De⟩ := PXc e p2
          obtain ⟨-, -, -, Se, Ve, -⟩ := id p2.1
          obtain ⟨v, w1, w2⟩ := p4 (2 ^ pnN m - 1) (by omega)
          have vb := w2.1
          refine ⟨((if v < 1000000000 then nI v else -nI 1), e), ?_, v, rfl, p2, w2⟩
          show BX6_leastLate_43 e 68 19 (nI (2 ^ pnN m)) (nI (Nn m 3)) = _
          unfold BX6_leastLate_43 MX6_leastLate_98
          simp only [ZL]
          rw [gg_t Se.1, Ve.2.2.2.1, f3.1, if_pos (nI_le (Nat.le_refl _) (by omega)), gg_t Xe.1, Xe.p, gg_t Xe.2.2.2.2.2.1, Xe.2.2.2.2.2.2, nSub h1', gg_in (by omega) (by omega), nCl (by omega), w1]
          by_cases z : v < 1000000000
          · rw [if_pos (nI_lt z (by omega)), if_pos z, up1_some]
          · rw [if_neg (nI_nlt (by omega) (by omega)), if_neg z, up1_some]
      obtain ⟨z, z1, z2⟩ := l43
      refine ⟨z, ?_, z2⟩
      show BX6_leastLate_14 e 68 19 (nI (2 ^ pnN m)) (nI (2 ^ pnN m)) = _
      unfold BX6_leastLate_14 MX6_leastLate_41 MX6_leastLate_43
      simp only [ZL]
      rw [if_pos (nI_le (Nat.le_refl _) (by omega)), z1, up1_some]
  obtain ⟨⟨w, z⟩, z1, v, z2, z3, z4⟩ := l14
  replace z2 : w = (if v < 1000000000 then nI v else -nI 1) := z2
  refine ⟨z, v, ?_, z3, z4⟩
  have g68 : gI g1 68 0 = nI (pnN m) := PJ1.1
  have sh : nI 1 <<< (nI (pnN m) &&& nI 31) = nI (2 ^ pnN m) := by
    rw [pk_shlN _ (pnN m) (sh_k _ (by omega)) (by omega), Nat.one_mul]
  unfold MX11_least MX6_leastLate MX6_leastLate_14
  simp only [ZL]
  rw [gg_t X.1, X8 X, gg_t PXh.1, X5 X, y1, ob_some, gg_t (PXc g1 C1).1.1, g68, sh, z1, gg_t PXh.1, b2_some, z2]
end
