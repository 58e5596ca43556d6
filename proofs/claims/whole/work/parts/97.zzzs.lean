/-! plans: the reference loads -/
section
variable {h h' h1 g g1 : Hp} {m kk t : Nat → Int32} {ii nn f : Int32} {k j q r x n : Nat}
/-- a part's best way now, its lines -/
theorem r_wk (R : RS h) (em : gI h 74 = m) (I : MI m) (Z : StM m) (hq : vP m q) : ∃ h1, MX12_work h 73 (nI q) (m 0) = some h1 ∧ Rj h h1 ∧ (gI h1 87 0 = -nI 1 ↔ wyT m q (m 0) 0 = none) ∧ (wyT m q (m 0) 0 ≠ none → gI h1 88 0 = nI (wyN m q)) := by
  have J := I.2.1 q hq
  obtain ⟨-, j40, j1⟩ := J.n
  obtain ⟨h1, a1, a2, a3, a4⟩ := r_work2 R em I.w Z hq J (m 0)
  obtain ⟨b1, b2⟩ := a4 0 (Nat.zero_le _) (Nat.zero_le _)
  refine ⟨h1, a1, a2, ?_, fun w => ?_⟩
  · rw [b1]
    cases e : wyT m q (m 0) 0 with
    | none => exact ⟨fun _ => rfl, fun _ => rfl⟩
    | some v =>
      have := (wyD_b (ps_q (q := q) I.w (m 0)) J (i := 0) (Nat.zero_le _) e).1
      constructor
      · intro z
        have z : nI v.1 = -nI 1 := z
        rw [nM6 (by omega)] at z
        exact z.elim
      · intro z
        cases z
  · cases e : wyT m q (m 0) 0 with
    | none => exact absurd e w
    | some v =>
      rw [(b2 v e).1]
      unfold wyN
      rw [e]
/-- what is planned, in the reference -/
def RP (h : Hp) (m : Nat → Int32) (s : Nat × (Nat → Nat)) : Prop := gI h 73 56 = nI s.1 ∧ ∀ i, i < s.1 → gI h 106 i = nI (s.2 i) ∧ gI h 107 i = nI (wyN m (s.2 i))
theorem rp_k {s : Nat × (Nat → Nat)} (P : RP h m s) (a : Rj h g) : RP g m s := ⟨by rw [a.2.2 56 (by omega)]; exact P.1, fun i hi => by rw [a.2.1 106 (by omega) (by omega), a.2.1 107 (by omega) (by omega)]; exact P.2 i hi⟩
theorem r_load (R : RS h) (em : gI h 74 = m) (I : MI m) (Z : StM m) (z56 : gI h 73 56 = nI 0) : ∃ g, MX12_least_12 h 73 (nI 0) = MX12_least_117 g 73 ∧ Rk h g ∧ RP g m (plc m 100) := by
  have K : ∀ d q g, q + d = 100 → Rk h g → RP g m (plc m q) → ∃ g1, it (fun y : Int32 × Hp => BX12_least_12 y.2 73 y.1) (nI q, g) = MX12_least_117 g1 73 ∧ Rk h g1 ∧ RP g1 m (plc m 100) := fun d => by
    induction d with
    | zero =>
      intro q g e F P
      have e : q = 100 := e
      subst e
      refine ⟨g, it_u1 ?_, F, P⟩
      show BX12_least_12 g 73 (nI 100) = _
      unfold BX12_least_12
      simp only [ZL]
      rw [if_pos (nI_le (Nat.le_refl _) (by omega))]
    | succ d ih =>
      intro q g e F P
      have Rg := F.rs R
      have eg : gI g 74 = m := by rw [F.g (by omega) (by omega)]; exact em
      have pb := (plc_b m q).1
      by_cases z2 : (plc m q).1 = 5
      · have up := plc_up (m := m) (q := q) (Or.inl z2) (100 - q)
        rw [show q + (100 - q) = 100 by omega] at up
        refine ⟨g, it_u1 ?_, F, by rw [up]; exact P⟩
        show BX12_least_12 g 73 (nI q) = _
        unfold BX12_least_12
        simp only [ZL]
        rw [if_neg (nI_ge (by omega) (by omega)), gg_t (RS.f Rg).1, P.1, z2, if_pos (nI_le (Nat.le_refl _) (by omega))]
      · have s5 : (plc m q).1 < 5 := by omega
        have skip : ∀ g2 : Hp, Rk h g2 → RP g2 m (plc m q) → plc m (q + 1) = plc m q → BX12_least_12 g 73 (nI q) = some (.inl (nI (q + 1), g2)) → ∃ g1, it (fun y : Int32 × Hp => BX12_least_12 y.2 73 y.1) (nI q, g) = MX12_least_117 g1 73 ∧ Rk h g1 ∧ RP g1 m (plc m 100) := fun g2 a1 a2 a3 a4 => by
          obtain ⟨g1, b1, b2⟩ := ih (q + 1) g2 (by omega) a1 (by rw [a3]; exact a2)
          exact ⟨g1, by rw [← b1]; exact it_next a4, b2⟩
        by_cases vq : vP m q
        · have J := I.2.1 q vq
          have i01 := J.2.2.2.1
          have head : BX12_least_12 g 73 (nI q) = if m (130 + 645 * q + 2) = nI 1 then some (.inl (nI (q + 1), g)) else Option.bind (MX12_work g 73 (nI q) (m 0)) fun (h49 : Hp) => gg (kd h49 73 = 11) <| gg (kd h49 (gP h49 73 31) = 20) <| gg (inB (nI 0) (ln h49 (gP h49 73 31)) = true) <| if (gI h49 (gP h49 73 31) 0) = -nI 1 then some (.inl (nI (q + 1), h49)) else gg (kd h49 (gP h49 73 53) = 20) <| gg (inB (gI h49 73 56) (ln h49 (gP h49 73 53)) = true) <| lt (sI h49 (gP h49 73 53) (gI h49 73 56).toNatClampNeg (nI q)) fun (h56 : Hp) => gg (kd h49 (gP h49 73 32) = 20) <| gg (inB (nI 0) (ln h49 (gP h49 73 32)) = true) <| gg (kd h49 (gP h49 73 54) = 20) <| gg (inB (gI h56 73 56) (ln h49 (gP h49 73 54)) = true) <| lt (sI h56 (gP h49 73 54) (gI h56 73 56).toNatClampNeg (gI h56 (gP h49 73 32) 0)) fun (h65 : Hp) => lt (sI h65 73 56 ((gI h65 73 56) + nI 1)) fun (h70 : Hp) => some (.inl (nI (q + 1), h70)) := by
            unfold BX12_least_12
            simp only [ZL]
            rw [if_neg (nI_ge (by omega) (by omega)), gg_t (RS.f Rg).1, P.1, if_neg (nI_ge s5 (by omega)), r_isPart_t Rg eg I.1 vq, ob_some, if_neg (by decide), r_part0, ob_some]
            simp only [RS.f Rg]
            rw [gg_T, nAdd, gg_in (by omega) (by omega), nCl (by omega), eg, gg_in (by omega) (by omega), nCl (by omega), nAdd]
          by_cases gv : m (130 + 645 * q + 2) = nI 1
          · refine skip g F P (plc_f (fun e => by rw [gv] at e; exact absurd e.2.2.1 (by decide))) ?_
            rw [head, if_pos gv]
          · have g0 : m (130 + 645 * q + 2) = nI 0 := by
              obtain ⟨x, hx, ex⟩ := i01
              have : x = 0 ∨ x = 1 := by omega
              rcases this with y | y
              · rw [ex, y]
              · exact absurd (by rw [ex, y]) gv
            obtain ⟨g2, a1, a2, a3, a4⟩ := r_wk Rg eg I Z vq
            have R2 := a2.1.rs Rg
            have P2 := rp_k P a2
            by_cases w : wyT m q (m 0) 0 = none
            · refine skip g2 (F.trans a2.1) P2 (plc_f (fun e => e.2.2.2 w)) ?_
              rw [head, if_neg gv, a1, ob_some, gg_t (RS.f R2).1]
              simp only [RS.f R2]
              rw [gg_T, gg_in (by omega) (by omega), if_pos (a3.mpr w)]
            · have eS := plc_t (m := m) (q := q) ⟨s5, vq, g0, w⟩
              obtain ⟨g3, hg3⟩ : ∃ g3, g3 = sI g2 106 (plc m q).1 (nI q) := ⟨_, rfl⟩
              obtain ⟨g4, hg4⟩ : ∃ g4, g4 = sI g3 107 (plc m q).1 (nI (wyN m q)) := ⟨_, rfl⟩
              obtain ⟨g5, hg5⟩ : ∃ g5, g5 = sI g4 73 56 (nI ((plc m q).1 + 1)) := ⟨_, rfl⟩
              have F3 : Rk g2 g3 := by rw [hg3]; exact Rk.s (by omega) (by omega)
              have F4 : Rk g3 g4 := by rw [hg4]; exact Rk.s (by omega) (by omega)
              have F5 : Rk g4 g5 := by rw [hg5]; exact Rk.f (by omega)
              have z3 : gI g3 73 56 = nI (plc m q).1 := by rw [hg3, gI_sI, if_neg (by omega)]; exact P2.1
              have z4 : gI g4 73 56 = nI (plc m q).1 := by rw [hg4, gI_sI, if_neg (by omega)]; exact z3
              have w88 : gI g3 88 0 = nI (wyN m q) := by rw [hg3, gI_sI, if_neg (by omega)]; exact a4 w
              have P5 : RP g5 m (plc m (q + 1)) := by
                rw [eS]
                refine ⟨by rw [hg5, gI2, if_pos ⟨rfl, rfl⟩], fun i hi => ?_⟩
                have hi' : i < (plc m q).1 + 1 := hi
                have o1 : gI g5 106 i = if i = (plc m q).1 then nI q else gI g2 106 i := by rw [hg5, gI_sI, if_neg (by omega), hg4, gI_sI, if_neg (by omega), hg3, gI_sI, if_pos rfl, up_at]
                have o2 : gI g5 107 i = if i = (plc m q).1 then nI (wyN m q) else gI g2 107 i := by
                  rw [hg5, gI_sI, if_neg (by omega), hg4, gI_sI, if_pos rfl, up_at, show gI g3 107 = gI g2 107 by rw [hg3, gI_sI, if_neg (by omega)]]
                rw [o1, o2]
                show _ = nI (upN (plc m q).2 (plc m q).1 q i) ∧ _ = nI (wyN m (upN (plc m q).2 (plc m q).1 q i))
                unfold upN
                by_cases z : i = (plc m q).1
                · rw [if_pos z, if_pos z, if_pos z]
                  exact ⟨rfl, rfl⟩
                · rw [if_neg z, if_neg z, if_neg z]
                  exact P2.2 i (by omega)
              obtain ⟨g1, b1, b2⟩ := ih (q + 1) g5 (by omega) ((((F.trans a2.1).trans F3).trans F4).trans F5) P5
              refine ⟨g1, ?_, b2⟩
              rw [← b1]
              refine it_next ?_
              show BX12_least_12 g 73 (nI q) = _
              rw [head, if_neg gv, a1, ob_some, gg_t (RS.f R2).1]
              simp only [RS.f R2]
              rw [gg_T, gg_in (by omega) (by omega), if_neg (fun e => w (a3.mp e)), gg_T, P2.1, gg_in (by omega) (by omega), nCl (by omega), lt_eq, ← hg3, gg_T, gg_in (by omega) (by omega), gg_T, z3, gg_in (by omega) (by omega), nCl (by omega), w88, lt_eq, ← hg4, z4, nAdd, lt_eq, ← hg5]
        · refine skip g F P (plc_f (fun e => vq e.2.1)) ?_
          unfold BX12_least_12
          simp only [ZL]
          rw [if_neg (nI_ge (by omega) (by omega)), gg_t (RS.f Rg).1, P.1, if_neg (nI_ge s5 (by omega)), r_isPart_f Rg eg I.1 (fun r hr e => by
            rw [nEq (by omega) (by have := hr.1; omega)] at e
            exact vq (by rw [e]; exact hr)), ob_some, if_pos rfl, nAdd]
  obtain ⟨g1, y1, y2⟩ := K 100 0 h (by omega) Rk.rfl ⟨z56, fun i hi => absurd hi (Nat.not_lt_zero i)⟩
  refine ⟨g1, ?_, y2⟩
  unfold MX12_least_12
  exact y1
/-- a queue in lines: the reference -/
theorem r_queue (R : RS h) (em : gI h 74 = m) (I : MI m) (Z : StM m) (hk : k < Nn m 3) : ∃ g, MX12_queueLines h 73 (nI k) = some (nI (qlN m k (Nn m (320230 + 183 * k + 29))), g) ∧ Rj h g := by
  have f3 := I.1.f.2.2.2.1.2
  have l30 := ((I.2.2.2.1 k hk).2.2.2.1.eq (by omega))
  have lp : ∃ z, it (fun y : Int32 × Int32 × Hp => BX12_queueLines_10 y.2.2 73 (nI (320230 + 183 * k)) y.1 y.2.1) (nI 0, nI 0, h) = some z ∧ z.1 = nI (qlN m k (Nn m (320230 + 183 * k + 29))) ∧ Rj h z.2 := by
    refine it_cnt (fun j y => y.1 = nI (qlN m k j) ∧ y.2.1 = nI j ∧ Rj h y.2.2) (Nn m (320230 + 183 * k + 29)) (fun j y hj pp => ?_) (fun y pp => ?_) ⟨rfl, rfl, Rk.rfl, fun _ _ _ => rfl, fun _ _ => rfl⟩
    · obtain ⟨a1, a2, e⟩ := y
      obtain ⟨p1, p2, F⟩ := pp
      replace p1 : a1 = nI (qlN m k j) := p1
      replace p2 : a2 = nI j := p2
      replace F : Rj h e := F
      subst p1 p2
      have Re := F.1.rs R
      have ee : gI e 74 = m := by rw [F.1.g (by omega) (by omega)]; exact em
      obtain ⟨j1, j2, j3, j4, j5, j6, j7, j8⟩ := (I.2.2.2.1 k hk).2.2.2.2 j hj
      have qb := ql_b I hk j (by omega)
      obtain ⟨q, hq⟩ : ∃ q, q = Nn m (320230 + 183 * k + 33 + 5 * j) := ⟨_, rfl⟩
      rw [← hq] at j2 j7 j8
      have eq0 : m (320230 + 183 * k + 33 + 5 * j) = nI q := by rw [hq]; exact (j1.eq (by omega)).1
      have hq0 := j2.1
      have l40 := ((I.2.1 q j2).2.2.2.2.2.1.eq (by omega))
      have n1 := (j3.eq (by omega))
      have n2 := (j4.eq (by omega))
      have head : BX12_queueLines_10 e 73 (nI (320230 + 183 * k)) (nI (qlN m k j)) (nI j) = if m (320230 + 183 * k + 33 + 5 * j + 4) = nI 0 then some (.inl (nI (qlN m k j) + (m (320230 + 183 * k + 33 + 5 * j + 2) - m (320230 + 183 * k + 33 + 5 * j + 1)), nI (j + 1), e)) else if m (130 + 645 * q + 3) = nI 1 then some (.inl (nI (qlN m k j) + (m (130 + 645 * q + 4) - m (320230 + 183 * k + 33 + 5 * j + 1)), nI (j + 1), e)) else Option.bind (MX12_work e 73 (nI q) (m 0)) fun (h16 : Hp) => gg (kd h16 73 = 11) <| gg (kd h16 (gP h16 73 31) = 20) <| gg (inB (nI 0) (ln h16 (gP h16 73 31)) = true) <| if (gI h16 (gP h16 73 31) 0) = -nI 1 then some (.inl (nI (qlN m k j) + nI 0, nI (j + 1), h16)) else gg (kd h16 (gP h16 73 32) = 20) <| gg (inB (nI 0) (ln h16 (gP h16 73 32)) = true) <| some (.inl (nI (qlN m k j) + gI h16 (gP h16 73 32) 0, nI (j + 1), h16)) := by
        unfold BX12_queueLines_10 MX12_queueLines_160
        simp only [ZL]
        rw [gg_t (RS.f Re).1]
        simp only [RS.f Re]
        rw [gg_T, nAdd, gg_in (by omega) (by omega), nCl (by omega), ee, l30.1, if_neg (nI_ge hj (by omega))]
        simp (disch := omega) only [nAdd, nMul, gg_in, nCl, lt_eq, ee, gg_T, eq0, r_part0, ob_some]
      obtain ⟨y3, hy3, e3⟩ := (I.2.1 q j2).2.2.2.2.1
      obtain ⟨x, hx, ex⟩ := j6
      have x01 : x = 0 ∨ x = 1 := by omega
      have es : qlN m k (j + 1) = qlN m k j + jlN m k j := rfl
      rcases x01 with z | z
      · rw [z] at ex
        have j7' := j7 ex
        refine ⟨(nI (qlN m k (j + 1)), nI (j + 1), e), ?_, rfl, rfl, F⟩
        show BX12_queueLines_10 e 73 (nI (320230 + 183 * k)) (nI (qlN m k j)) (nI j) = _
        have jl : jlN m k j = Nn m (320230 + 183 * k + 33 + 5 * j + 2) - Nn m (320230 + 183 * k + 33 + 5 * j + 1) := by
          unfold jlN
          rw [ex, if_neg (by decide)]
        rw [head, if_pos ex, n1.1, n2.1, nSub (by omega), nAdd, es, jl]
      · rw [z] at ex
        have y01 : y3 = 0 ∨ y3 = 1 := by omega
        rcases y01 with y0 | y1
        · rw [y0] at e3
          obtain ⟨g2, a1, a2, a3, a4⟩ := r_wk Re ee I Z j2
          have R2 := a2.1.rs Re
          have jl : jlN m k j = wyN m q := by
            unfold jlN
            rw [if_pos ex, ← hq, e3, if_neg (by decide)]
          refine ⟨(nI (qlN m k (j + 1)), nI (j + 1), g2), ?_, rfl, rfl, rj_tr F a2⟩
          show BX12_queueLines_10 e 73 (nI (320230 + 183 * k)) (nI (qlN m k j)) (nI j) = _
          rw [head, if_neg (by rw [ex]; decide), if_neg (by rw [e3]; decide), a1, ob_some, gg_t (RS.f R2).1]
          simp only [RS.f R2]
          rw [gg_T, gg_in (by omega) (by omega)]
          by_cases w : wyT m q (m 0) 0 = none
          · have w0 : wyN m q = 0 := by unfold wyN; rw [w]
            rw [if_pos (a3.mpr w), nAdd, es, jl, w0]
          · rw [if_neg (fun e => w (a3.mp e)), gg_T, gg_in (by omega) (by omega), a4 w, nAdd, es, jl]
        · rw [y1] at e3
          have j8' := (j8 ex).2.2.1 e3
          refine ⟨(nI (qlN m k (j + 1)), nI (j + 1), e), ?_, rfl, rfl, F⟩
          show BX12_queueLines_10 e 73 (nI (320230 + 183 * k)) (nI (qlN m k j)) (nI j) = _
          have jl : jlN m k j = Nn m (130 + 645 * q + 4) - Nn m (320230 + 183 * k + 33 + 5 * j + 1) := by
            unfold jlN
            rw [if_pos ex, ← hq, if_pos e3]
          rw [head, if_neg (by rw [ex]; decide), if_pos e3, n1.1, l40.1, nSub (by omega), nAdd, es, jl]
    · obtain ⟨a1, a2, e⟩ := y
      obtain ⟨p1, p2, F⟩ := pp
      replace p1 : a1 = nI (qlN m k (Nn m (320230 + 183 * k + 29))) := p1
      replace p2 : a2 = nI (Nn m (320230 + 183 * k + 29)) := p2
      replace F : Rj h e := F
      subst p1 p2
      have Re := F.1.rs R
      have ee : gI e 74 = m := by rw [F.1.g (by omega) (by omega)]; exact em
      refine ⟨(nI (qlN m k (Nn m (320230 + 183 * k + 29))), e), ?_, rfl, F⟩
      show BX12_queueLines_10 e 73 (nI (320230 + 183 * k)) (nI (qlN m k (Nn m (320230 + 183 * k + 29)))) (nI (Nn m (320230 + 183 * k + 29))) = _
      unfold BX12_queueLines_10
      simp only [ZL]
      rw [gg_t (RS.f Re).1]
      simp only [RS.f Re]
      rw [gg_T, nAdd, gg_in (by omega) (by omega), nCl (by omega), ee, l30.1, if_pos (nI_le (Nat.le_refl _) (by omega))]
  obtain ⟨⟨v, g⟩, y1, y2, y3⟩ := lp
  replace y2 : v = nI (qlN m k (Nn m (320230 + 183 * k + 29))) := y2
  refine ⟨g, ?_, y3⟩
  unfold MX12_queueLines MX12_queueLines_10
  simp only [ZL]
  rw [r_machine0, ob_some, y1, y2]
end
