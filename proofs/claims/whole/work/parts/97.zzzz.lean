/-! copy is read: the reference, a story -/
section
variable {h0 g g1 : Hp} {b : Nat → Nat} {e i k p l W0 run P : Nat} {s s0 s1 : TX} {pc W Ln Lt wd pc0 wd0 wd1 : Nat → Int32} {v1 v2 v3 : Int32}
/-- the outcome -/
def RdE (h0 : Hp) (b : Nat → Nat) (mp mw ba e : Nat) (s0 : TX) (v : Int32) (g : Hp) : Prop := (v = nI 0 ∧ ∃ p, ERq h0 g p ∧ enT e (ruT mp mw ba b s0 e) = p + 1) ∨ (v = nI 1 ∧ ∃ s, ruT mp mw ba b s0 e = .inr s ∧ s.2.2.1 = false ∧ 0 < tw s ∧ RTq h0 g e s.1 s.2.2.2.2.1 s.2.2.2.2.2.1 s.2.2.2.2.2.2.1 s.2.2.2.2.2.2.2 s.2.2.2.1)
theorem ru_fl {mp mw ba : Nat} (ie : i < e) (s2 : ruT mp mw ba b s0 (i + 1) = .inl p) : enT e (ruT mp mw ba b s0 e) = p + 1 := by
  obtain ⟨d', hd⟩ : ∃ d', e = i + 1 + d' := ⟨e - (i + 1), by omega⟩
  have := ruT_e s2 d'
  rw [← hd] at this
  rw [this]
  rfl
/-- behind blanks -/
theorem ru_bs {mp mw ba i' : Nat} (h1 : i ≤ i') (h2 : ∀ j, i ≤ j → j < i' → b j = 32) (hb : s.2.2.1 = false) (hr : ruT mp mw ba b s0 i = .inr s) : ∃ s', ruT mp mw ba b s0 i' = .inr s' ∧ s'.2.2.1 = false ∧ s'.1 = s.1 ∧ s'.2.2.2 = s.2.2.2 ∧ (i' = i → s' = s) ∧ (i < i' → s'.2.1 = 0) := by
  obtain ⟨s', a1, a2, a3, a4, a5, a6⟩ := ru_bl hb hr (i' - i) (fun j x1 x2 => h2 j x1 (by omega))
  rw [show i + (i' - i) = i' by omega] at a1
  exact ⟨s', a1, a2, a3, a4, fun x => a5 (by omega), fun x => a6 (by omega)⟩
theorem r_rs (T : RTt h0 b e) (T0 : TI 5 24 0 s0) (hn : gI h0 73 9 = -nI 1) : ∀ n i s g, e - i ≤ n → i ≤ e → ruT 5 24 0 b s0 i = .inr s → s.2.2.1 = false → (i < e → b i ≠ 32 ∧ (s.2.1 = 0 ∨ b i = 47)) → RTq h0 g i s.1 s.2.2.2.2.1 s.2.2.2.2.2.1 s.2.2.2.2.2.2.1 s.2.2.2.2.2.2.2 s.2.2.2.1 → ∃ v g', it (fun q : Hp => BX12_readStory_23 q 73) g = some (v, g') ∧ RdE h0 b 5 24 0 e s0 v g' := by
  have e400 := T.2.2.1
  intro n
  induction n with
  | zero =>
    intro i s g hn' ie hr hb h3 R
    have ie : i = e := by omega
    subst ie
    obtain ⟨R1, R2, R3⟩ := rt_rs T R.1
    have TS := ti_ru T0 (by omega) (by omega) i s hr
    obtain ⟨wb, -⟩ := ti_wb TS (by omega)
    have k5 : s.1 ≤ 4 := by have := TS.1; omega
    obtain ⟨F, q8, q17, q81, q78, q79, q80, q82, q9⟩ := id R
    have eW : gI g 82 s.1 = nI (tw s) := by rw [q82]; exact ((TS.2.2.1 s.1 (Nat.le_refl _)).1.eq (by omega)).1
    have head : BX12_readStory_23 g 73 = up1 (MX12_readStory_256 g 73) := by
      unfold BX12_readStory_23
      rw [gg_t (RS.f R1).1, R2, q8, if_pos (nI_le (by omega) (by omega))]
    by_cases z : tw s = 0
    · refine ⟨nI 0, sI g 73 9 (nI i), it_done ?_, Or.inl ⟨rfl, i, ⟨F.tr (fq_f (by omega)), by rw [gI_sI, if_pos rfl, up_at, if_pos rfl]⟩, ?_⟩⟩
      · rw [head]
        unfold MX12_readStory_256 MX12_readStory_276
        simp only [ZL, RS.f R1]
        rw [gg_T, gg_T, q17, gg_in (by omega) (by omega), nCl (by omega), eW, z, if_pos rfl, lt_eq, R2, gg_t (show kd (sI g 73 9 (nI i)) 73 = 11 from (RS.f R1).1), gI_sI, if_pos rfl, up_at, if_pos rfl, if_neg (by rw [nM6 (by omega)]; exact id)]
        rfl
      · rw [hr]
        show (if s.2.2.1 = true ∨ tw s = 0 then i + 1 else 0) = i + 1
        rw [if_pos (Or.inr z)]
    · refine ⟨nI 1, g, it_done ?_, Or.inr ⟨rfl, s, hr, hb, by omega, R⟩⟩
      rw [head]
      unfold MX12_readStory_256 MX12_readStory_276
      simp only [ZL, RS.f R1]
      rw [gg_T, gg_T, q17, gg_in (by omega) (by omega), nCl (by omega), eW, if_neg (by rw [nEq (by omega) (by omega)]; exact z), gg_T, q9, hn, if_pos rfl]
      rfl
  | succ n ih =>
    intro i s g hn' ie hr hb h3 R
    by_cases ie' : i < e
    · obtain ⟨b32, h4⟩ := h3 ie'
      obtain ⟨R1, R2, R3⟩ := rt_rs T R.1
      have bi := (T.2.2.2 i ie').2
      have TS := ti_ru T0 (by omega) (by omega) i s hr
      obtain ⟨wb, -⟩ := ti_wb TS (by omega)
      have k5 : s.1 ≤ 4 := by have := TS.1; omega
      obtain ⟨F, q8, q17, q81, q78, q79, q80, q82, q9⟩ := id R
      have eW0 := (TS.2.2.1 s.1 (Nat.le_refl _)).1.eq (by omega)
      have eW : gI g 82 s.1 = nI (tw s) := by rw [q82]; exact eW0.1
      have w24 : tw s ≤ 24 := eW0.2
      cases lc : lB (b i) with
      | true =>
        have r0 : s.2.1 = 0 := h4.elim id (fun x => by rw [x] at lc; exact absurd lc (by decide))
        by_cases z : tw s = 24
        · obtain ⟨f1, f2⟩ := rt_flt T R
          refine ⟨nI 0, sI g 73 9 (nI i), it_done ?_, Or.inl ⟨rfl, i, f1, ru_fl ie' ?_⟩⟩
          · have g1 : MX12_readStory_65 g 73 = some (nI 0, sI g 73 9 (nI i)) := by
              unfold MX12_readStory_65
              simp only [ZL]
              rw [gg_t (RS.f R1).1]
              exact f2
            unfold BX12_readStory_23
            simp only [ZL, RS.f R1]
            rw [gg_T, R2, q8, if_neg (nI_ge ie' (by omega)), gg_T, gg_in (by omega) (by omega), nCl (by omega), R3 i ie', r_isL bi, lc, ob_some, if_neg (show ¬ bI true = nI 0 by decide), gg_T, q17, gg_in (by omega) (by omega), nCl (by omega), eW, if_pos (by rw [z]), g1]
            rfl
          · rw [ruT_s hr]
            unfold stT
            rw [lc, if_pos rfl, if_pos r0, if_pos (Or.inl (by unfold tw1; rw [hb, z, if_neg (by decide)]; omega))]
        · have w1 : tw1 s = tw s + 1 := by unfold tw1; rw [hb, if_neg (by decide)]
          have PC := r_pcs T T0 (by omega) (by omega) (by omega) (show tw s + 1 ≤ 24 by omega) (e - i) i s g (Nat.le_refl _) ie' lc hr r0 rfl w1 rfl R
          have head : BX12_readStory_23 g 73 = b2 (MX12_readWord g 73 (nI (40 * s.1)) (nI (tw s)) (nI 0)) fun (t82 : Int32) (h81 : Hp) => if t82 = nI 0 then some (.inr (nI 0, h81)) else gg (kd h81 73 = 11) <| gg (kd h81 (gP h81 73 16) = 20) <| gg (inB (gI h81 73 17) (ln h81 (gP h81 73 16)) = true) <| lt (sI h81 (gP h81 73 16) (gI h81 73 17).toNatClampNeg ((gI h81 (gP h81 73 16) (gI h81 73 17).toNatClampNeg) + nI 1)) fun (h87 : Hp) => if (gI h87 73 7) ≤ (gI h87 73 8) then MX12_readStory_163 h87 73 else gg (kd h81 (gP h81 73 5) = 20) <| gg (inB (gI h87 73 8) (ln h81 (gP h81 73 5)) = true) <| if (gI h87 (gP h81 73 5) (gI h87 73 8).toNatClampNeg) = nI 32 then MX12_readStory_163 h87 73 else if (gI h87 (gP h81 73 5) (gI h87 73 8).toNatClampNeg) = nI 47 then MX12_readStory_163 h87 73 else up1 (MX12_readStory_153 h87 73) := by
            unfold BX12_readStory_23
            simp only [ZL, RS.f R1]
            rw [gg_T, R2, q8, if_neg (nI_ge ie' (by omega)), gg_T, gg_in (by omega) (by omega), nCl (by omega), R3 i ie', r_isL bi, lc, ob_some, if_neg (show ¬ bI true = nI 0 by decide), gg_T, q17, gg_in (by omega) (by omega), nCl (by omega), eW, if_neg (show ¬ nI (tw s) = nI 24 by rw [nEq (by omega) (by omega)]; exact z), nMul]
          have wE : MX12_readWord g 73 (nI (40 * s.1)) (nI (tw s)) (nI 0) = it (fun q : Int32 × Hp => BX12_readWord_3 q.2 73 (nI (40 * s.1)) (nI (tw s)) (nI 0) q.1) (nI 1, g) := by
            unfold MX12_readWord MX12_readWord_3
            simp only [ZL]
          rw [← wE] at PC
          rcases PC with ⟨g', p', a1, a2, a3⟩ | ⟨g', i', s', a1, a2, a3, a4, a5, a6, a7, a8, a9, a10⟩
          · refine ⟨nI 0, g', it_done ?_, Or.inl ⟨rfl, p', a2, a3⟩⟩
            rw [head, a1, b2_some, if_pos rfl]
          · obtain ⟨S1, S2, S3⟩ := rt_rs T a10.1
            obtain ⟨F', q8', q17', q81', q78', q79', q80', q82', q9'⟩ := id a10
            have d82 : gI g' 82 s.1 = nI (tw s) := by rw [q82']; exact eW0.1
            obtain ⟨G, hG⟩ : ∃ G, G = sI g' 82 s.1 (nI (tw s + 1)) := ⟨_, rfl⟩
            have RG : RTq h0 G i' s'.1 s'.2.2.2.2.1 s'.2.2.2.2.2.1 s'.2.2.2.2.2.2.1 s'.2.2.2.2.2.2.2 s'.2.2.2.1 := by
              rw [hG, a5]
              refine ⟨F'.tr (fq_a (by omega) (by omega)), ?_, ?_, ?_, ?_, ?_, ?_, ?_, ?_⟩
              · rw [gI_sI, if_neg (by decide)]; exact q8'
              · rw [gI_sI, if_neg (by decide)]; exact q17'
              · rw [gI_sI, if_neg (by decide)]; exact q81'
              · rw [gI_sI, if_neg (by decide)]; exact q78'
              · rw [gI_sI, if_neg (by decide)]; exact q79'
              · rw [gI_sI, if_neg (by decide)]; exact q80'
              · rw [gI_sI, if_pos rfl, q82', a6]
              · rw [gI_sI, if_neg (by decide)]; exact q9'
            have G1 : gI G 73 = gI g' 73 := by rw [hG, gI_sI, if_neg (by decide)]
            have G2 : gI G 77 = gI g' 77 := by rw [hG, gI_sI, if_neg (by decide)]
            have head2 : BX12_readStory_23 g 73 = if i' < e ∧ b i' ≠ 32 ∧ b i' ≠ 47 then up1 (MX12_readStory_153 G 73) else MX12_readStory_163 G 73 := by
              rw [head, a1, b2_some, if_neg (show ¬ nI 1 = nI 0 by decide)]
              simp only [RS.f S1]
              rw [gg_T, gg_T, q17', gg_in (by omega) (by omega), nCl (by omega), d82, nAdd, lt_eq, ← hG, G1, S2, q8', gg_T, G2]
              by_cases x : i' < e
              · have b255 := (T.2.2.2 i' x).2
                rw [if_neg (nI_ge x (by omega)), gg_in (by omega) (by omega), nCl (by omega), S3 i' x]
                by_cases y : b i' = 32
                · rw [if_pos (by rw [y]), if_neg (show ¬ (i' < e ∧ b i' ≠ 32 ∧ b i' ≠ 47) by omega)]
                · rw [if_neg (show ¬ nI (b i') = nI 32 by rw [nEq (by omega) (by omega)]; exact y)]
                  by_cases u : b i' = 47
                  · rw [if_pos (by rw [u]), if_neg (show ¬ (i' < e ∧ b i' ≠ 32 ∧ b i' ≠ 47) by omega)]
                  · rw [if_neg (show ¬ nI (b i') = nI 47 by rw [nEq (by omega) (by omega)]; exact u), if_pos ⟨x, y, u⟩]
              · rw [if_pos (nI_le (by omega) (by omega)), if_neg (fun y => x y.1)]
            by_cases x : i' < e ∧ b i' ≠ 32 ∧ b i' ≠ 47
            · rw [if_pos x] at head2
              obtain ⟨f1, f2⟩ := rt_flt T RG
              refine ⟨nI 0, sI G 73 9 (nI i'), it_done ?_, Or.inl ⟨rfl, i', f1, ru_fl x.1 ?_⟩⟩
              · rw [head2]
                have g1 : MX12_readStory_153 G 73 = some (nI 0, sI G 73 9 (nI i')) := by
                  unfold MX12_readStory_153
                  simp only [ZL]
                  rw [gg_t (RS.f (rt_rs T RG.1).1).1]
                  exact f2
                rw [g1]
                rfl
              · obtain ⟨l1, l2⟩ := a9 x.1
                rw [ruT_s a4]
                unfold stT
                rw [l1, a8, if_neg (by decide), if_neg (by decide), if_neg (show ¬ (b i' = 45 ∧ 0 < s'.2.1) from fun y => l2 y.1), if_neg (show ¬ (b i' = 47 ∧ 0 < tw s' ∧ s'.1 + 1 < 5) from fun y => x.2.2 y.1), if_neg x.2.1]
            · rw [if_neg x] at head2
              obtain ⟨i2, g2, y1, y2, y3, y4, y5, y6⟩ := r_bls T (e - i') i' G (Nat.le_refl _) a3 RG
              obtain ⟨s2, u1, u2, u3, u4, u5, u6⟩ := ru_bs y2 y4 a8 a4
              have nx : it (fun q : Hp => BX12_readStory_23 q 73) g = it (fun q : Hp => BX12_readStory_23 q 73) g2 := it_next (by
                show BX12_readStory_23 g 73 = _
                rw [head2]
                unfold MX12_readStory_163
                rw [gg_t (RS.f (rt_rs T RG.1).1).1, y1, ob_some])
              rw [nx]
              refine ih i2 s2 g2 (by omega) y3 u1 u2 (fun w => ⟨y5 w, ?_⟩) (by rw [u3, u4]; exact y6)
              by_cases c : i2 = i'
              · refine Or.inr ?_
                have := y5 w
                rw [c] at this w ⊢
                omega
              · exact Or.inl (u6 (by omega))
      | false =>
        have flt : (¬ (b i = 47 ∧ 0 < tw s ∧ s.1 + 1 < 5)) → ∃ v g', it (fun q : Hp => BX12_readStory_23 q 73) g = some (v, g') ∧ RdE h0 b 5 24 0 e s0 v g' := fun z => by
          obtain ⟨f1, f2⟩ := rt_flt T R
          refine ⟨nI 0, sI g 73 9 (nI i), it_done ?_, Or.inl ⟨rfl, i, f1, ru_fl ie' ?_⟩⟩
          · have g1 : MX12_readStory_243 g 73 = some (nI 0, sI g 73 9 (nI i)) := by
              unfold MX12_readStory_243
              simp only [ZL]
              rw [gg_t (RS.f R1).1]
              exact f2
            unfold BX12_readStory_23
            simp only [ZL, RS.f R1]
            rw [gg_T, R2, q8, if_neg (nI_ge ie' (by omega)), gg_T, gg_in (by omega) (by omega), nCl (by omega), R3 i ie', r_isL bi, lc, ob_some, if_pos (show bI false = nI 0 from rfl), g1]
            by_cases y : b i = 47
            · rw [if_pos (by rw [y]), gg_T, q17, gg_in (by omega) (by omega), nCl (by omega), eW]
              by_cases u : tw s = 0
              · rw [if_pos (nI_le (by omega) (by omega))]
                rfl
              · rw [if_neg (nI_ge (by omega) (by omega)), if_pos (nI_le (by omega) (by omega))]
                rfl
            · rw [if_neg (show ¬ nI (b i) = nI 47 by rw [nEq (by omega) (by omega)]; exact y)]
              rfl
          · rw [ruT_s hr]
            unfold stT
            rw [lc, hb, if_neg (by decide), if_neg (by decide), if_neg (show ¬ (b i = 45 ∧ 0 < s.2.1) by omega), if_neg z, if_neg b32]
        by_cases z : b i = 47 ∧ 0 < tw s ∧ s.1 + 1 < 5
        · obtain ⟨z1, z2, z3⟩ := z
          obtain ⟨G, hG⟩ : ∃ G, G = sI (sI (sI (sI g 73 17 (nI (s.1 + 1))) 81 (s.1 + 1) (nI 0)) 82 (s.1 + 1) (nI 0)) 73 8 (nI (i + 1)) := ⟨_, rfl⟩
          have RG : RTq h0 G (i + 1) (tPt s).1 (tPt s).2.2.2.2.1 (tPt s).2.2.2.2.2.1 (tPt s).2.2.2.2.2.2.1 (tPt s).2.2.2.2.2.2.2 (tPt s).2.2.2.1 := by
            rw [hG]
            refine ⟨(((F.tr (fq_f (by omega))).tr (fq_a (by omega) (by omega))).tr (fq_a (by omega) (by omega))).tr (fq_f (by omega)), ?_, ?_, ?_, ?_, ?_, ?_, ?_, ?_⟩
            · rw [gI_sI, if_pos rfl, up_at, if_pos rfl]
            · rw [gI_sI, if_pos rfl, up_at, if_neg (by decide), gI_sI, if_neg (by decide), gI_sI, if_neg (by decide), gI_sI, if_pos rfl, up_at, if_pos rfl]
              rfl
            · rw [gI_sI, if_neg (by decide), gI_sI, if_neg (by decide), gI_sI, if_pos rfl, gI_sI, if_neg (by decide), q81]
              rfl
            · rw [gI_sI, if_neg (by decide), gI_sI, if_neg (by decide), gI_sI, if_neg (by decide), gI_sI, if_neg (by decide)]; exact q78
            · rw [gI_sI, if_neg (by decide), gI_sI, if_neg (by decide), gI_sI, if_neg (by decide), gI_sI, if_neg (by decide)]; exact q79
            · rw [gI_sI, if_neg (by decide), gI_sI, if_neg (by decide), gI_sI, if_neg (by decide), gI_sI, if_neg (by decide)]; exact q80
            · rw [gI_sI, if_neg (by decide), gI_sI, if_pos rfl, gI_sI, if_neg (by decide), gI_sI, if_neg (by decide), q82]
              rfl
            · rw [gI_sI, if_pos rfl, up_at, if_neg (by decide), gI_sI, if_neg (by decide), gI_sI, if_neg (by decide), gI_sI, if_pos rfl, up_at, if_neg (by decide)]; exact q9
          have st : ruT 5 24 0 b s0 (i + 1) = .inr (tPt s) := by
            rw [ruT_s hr]
            unfold stT
            rw [lc, hb, if_neg (by decide), if_neg (by decide), if_neg (show ¬ (b i = 45 ∧ 0 < s.2.1) by omega), if_pos ⟨z1, z2, z3⟩]
          obtain ⟨i2, g2, y1, y2, y3, y4, y5, y6⟩ := r_bls T (e - (i + 1)) (i + 1) G (Nat.le_refl _) (by omega) RG
          obtain ⟨s2, u1, u2, u3, u4, u5, u6⟩ := ru_bs y2 y4 (show (tPt s).2.2.1 = false from rfl) st
          have nx : it (fun q : Hp => BX12_readStory_23 q 73) g = it (fun q : Hp => BX12_readStory_23 q 73) g2 := it_next (by
            show BX12_readStory_23 g 73 = _
            have n1 : gI (sI g 73 17 (nI (s.1 + 1))) 73 17 = nI (s.1 + 1) := by rw [gI_sI, if_pos rfl, up_at, if_pos rfl]
            have n2 : gI (sI (sI g 73 17 (nI (s.1 + 1))) 81 (s.1 + 1) (nI 0)) 73 17 = nI (s.1 + 1) := by rw [gI_sI, if_neg (by decide)]; exact n1
            have n3 : gI (sI (sI (sI g 73 17 (nI (s.1 + 1))) 81 (s.1 + 1) (nI 0)) 82 (s.1 + 1) (nI 0)) 73 8 = nI i := by rw [gI_sI, if_neg (by decide), gI_sI, if_neg (by decide), gI_sI, if_pos rfl, up_at, if_neg (by decide)]; exact q8
            unfold BX12_readStory_23
            simp only [ZL, RS.f R1]
            rw [gg_T, R2, q8, if_neg (nI_ge ie' (by omega)), gg_T, gg_in (by omega) (by omega), nCl (by omega), R3 i ie', r_isL bi, lc, ob_some, if_pos (show bI false = nI 0 from rfl), if_pos (by rw [z1]), gg_T, q17, gg_in (by omega) (by omega), nCl (by omega), eW, if_neg (nI_ge z2 (by omega)), if_neg (nI_ge (by omega) (by omega)), nAdd, lt_eq, gg_T, n1, gg_in (by omega) (by omega), nCl (by omega), lt_eq, n2, gg_in (by omega) (by omega), nCl (by omega), lt_eq, n3, nAdd, lt_eq, ← hG, y1, ob_some])
          rw [nx]
          refine ih i2 s2 g2 (by omega) y3 u1 u2 (fun w => ⟨y5 w, Or.inl ?_⟩) (by rw [u3, u4]; exact y6)
          by_cases c : i2 = i + 1
          · rw [u5 c]
            rfl
          · exact u6 (by omega)
        · exact flt z
    · exact ih i s g (by omega) ie hr hb h3 R
/-- a story's copy is read -/
theorem r_story0 (T : RTt h0 b e) (h8 : gI h0 73 8 = nI 0) (h9 : gI h0 73 9 = -nI 1) : ∃ v g', MX12_readStory h0 73 = some (v, g') ∧ RdE h0 b 5 24 0 e (tB0 (gI h0 82) (gI h0 81) (gI h0 78) (gI h0 79) (gI h0 80)) v g' := by
  have R1 := T.1
  obtain ⟨s0, hs0⟩ : ∃ s0, s0 = tB0 (gI h0 82) (gI h0 81) (gI h0 78) (gI h0 79) (gI h0 80) := ⟨_, rfl⟩
  have T0 : TI 5 24 0 s0 := by rw [hs0]; exact ti_0 (by omega) (by omega)
  obtain ⟨G, hG⟩ : ∃ G, G = sI (sI (sI h0 73 17 (nI 0)) 81 0 (nI 0)) 82 0 (nI 0) := ⟨_, rfl⟩
  have RG : RTq h0 G 0 s0.1 s0.2.2.2.2.1 s0.2.2.2.2.2.1 s0.2.2.2.2.2.2.1 s0.2.2.2.2.2.2.2 s0.2.2.2.1 := by
    rw [hG, hs0]
    refine ⟨((FQ.tr (fq_f (by omega)) (fq_a (by omega) (by omega))).tr (fq_a (by omega) (by omega))), ?_, ?_, ?_, ?_, ?_, ?_, ?_, ?_⟩
    · rw [gI_sI, if_neg (by decide), gI_sI, if_neg (by decide), gI_sI, if_pos rfl, up_at, if_neg (by decide)]; exact h8
    · rw [gI_sI, if_neg (by decide), gI_sI, if_neg (by decide), gI_sI, if_pos rfl, up_at, if_pos rfl]
      rfl
    · rw [gI_sI, if_neg (by decide), gI_sI, if_pos rfl, gI_sI, if_neg (by decide)]
      rfl
    · rw [gI_sI, if_neg (by decide), gI_sI, if_neg (by decide), gI_sI, if_neg (by decide)]
      rfl
    · rw [gI_sI, if_neg (by decide), gI_sI, if_neg (by decide), gI_sI, if_neg (by decide)]
      rfl
    · rw [gI_sI, if_neg (by decide), gI_sI, if_neg (by decide), gI_sI, if_neg (by decide)]
      rfl
    · rw [gI_sI, if_pos rfl, gI_sI, if_neg (by decide), gI_sI, if_neg (by decide)]
      rfl
    · rw [gI_sI, if_neg (by decide), gI_sI, if_neg (by decide), gI_sI, if_pos rfl, up_at, if_neg (by decide)]
  have hr0 : ruT 5 24 0 b s0 0 = .inr s0 := rfl
  have b0 : s0.2.2.1 = false := by rw [hs0]; rfl
  obtain ⟨i2, g2, y1, y2, y3, y4, y5, y6⟩ := r_bls T (e - 0) 0 G (Nat.le_refl _) (by omega) RG
  obtain ⟨s2, u1, u2, u3, u4, u5, u6⟩ := ru_bs y2 y4 b0 hr0
  obtain ⟨v, g', a1, a2⟩ := r_rs T T0 h9 (e - i2) i2 s2 g2 (Nat.le_refl _) y3 u1 u2 (fun w => ⟨y5 w, Or.inl (by
    by_cases c : i2 = 0
    · rw [u5 c, hs0]
      rfl
    · exact u6 (by omega))⟩) (by rw [u3, u4]; exact y6)
  refine ⟨v, g', ?_, by rw [← hs0]; exact a2⟩
  unfold MX12_readStory MX12_readStory_23
  simp only [ZL, RS.f R1]
  rw [gg_T, lt_eq, gg_T, gg_in (by omega) (by omega), nCl (by omega), lt_eq, gg_T, gg_in (by omega) (by omega), lt_eq, ← hG, y1, ob_some]
  exact a1
end
