section
variable {tg : Nat → List Nat} {h : Hp} {m k t : Nat → Int32} {i n f : Int32}
theorem p_story (C : CSt tg h m k i t n f) (R : RSt h m k i t n f) (h9 : 109 ≤ sz h) (v w : Int32) : Pr (cm [1, 2, 3]) Gm h (MX11_story h 1 v w) (fun h' => MX12_story h' 73 v w) := by
  obtain ⟨O, X, X2, S, V, Dk, DV, I, T, Im, Tr⟩ := id C
  obtain ⟨l, hl, rfl⟩ := T.2.1
  have T1 := T.1
  obtain ⟨S1, S20⟩ := I.1.f.2.1
  obtain ⟨h3, hh3⟩ : ∃ h3, h3 = sI h 1 1 (nI 0) := ⟨_, rfl⟩
  have F3 : Fr (fun b => b = 1 ∨ b = 2) h h3 := by rw [hh3]; exact Fr.sI (S := fun b => b = 1 ∨ b = 2) (Or.inl rfl)
  have T3 : TpV h3 t (nI 0) f := by
    refine ⟨by rw [hh3, gI_sI, if_pos rfl, up_at, if_pos rfl], ⟨0, by omega, rfl⟩, by rw [hh3, gI_sI, if_pos rfl, up_at, if_neg (by decide)]; exact T.2.2.1, fun j hj => ?_⟩
    rw [hh3, gI_sI, if_neg (by decide)]
    exact T.2.2.2 j hj
  have C3 : CSt tg h3 m k i t (nI 0) f := C.tape F3 T3
  have X3 : XS h3 := X.fr F3
  have head : MX11_story h 1 v w = Option.bind (MX11_isFace h3 v) fun (t6 : Int32) => if t6 = nI 0 then some (.inr 1, bmp h3 1 6) else Option.bind (MX11_isMinute h3 w) fun (t9 : Int32) => if t9 = nI 0 then some (.inr 2, bmp h3 1 6) else gg (kd h3 1 = 10) <| Option.bind (MX1_firstWrong h3 (gP h3 1 0) (nI l) (nI 5) (nI 24) (nI 0)) fun (t13 : Int32) => lt (sI h3 1 2 t13) fun (h14 : Hp) => if (gI h14 1 2) = -nI 1 then gg (kd h3 (gP h3 1 5) = 6) <| if (gI h14 (gP h3 1 5) 7) < nI 20 then b2 (MX7_addStory h14 (gP h3 1 5) (gP h3 1 0) (nI l) v w) fun (t24 : Int32) (h23 : Hp) => some (.inl t24, h23) else some (.inr 3, bmp h14 1 6) else some (.inr 2, bmp h14 1 6) := by
    unfold MX11_story MX11_useTape
    simp only [ZL]
    rw [gg_t X.1, gg_t X.1, T1, lt_eq, b2_some, ← hh3]
  have rhead : ∀ h' hu, MX12_use h' 73 = some hu → RS h' → MX12_story h' 73 v w = Option.bind (MX12_isIn hu v (nI 0) (nI 1)) fun (t5 : Int32) => if t5 = nI 0 then MX12_story_34 hu 73 v w 73 (nI 1) else Option.bind (MX12_isIn hu w (nI 0) (nI 600)) fun (t8 : Int32) => if t8 = nI 0 then MX12_story_34 hu 73 v w 73 (nI 2) else MX12_story_34 hu 73 v w 73 (nI 0) := fun h' hu e Rs => by
    unfold MX12_story
    simp only [ZL]
    rw [gg_t (RS.f Rs).1, e, ob_some]
  have thr : ∀ hu (c : Nat), 1 ≤ c → c ≤ 2 → RSt hu m k i t (nI 0) f → MX12_story_34 hu 73 v w 73 (nI c) = some (nI 0, sI hu 73 0 (nI c)) := fun hu c c1 c2 Ru => by
    unfold MX12_story_34
    simp only [ZL]
    rw [gg_t (RS.f Ru.1).1, lt_eq, gg_t (RS.f Ru.1).1, th_get, if_neg (nI_ge c1 (by omega))]
  rcases ni_d v 2 with hv | ⟨fc, hfc, rfl⟩
  · refine Pr.mid C R F3 C3 1 1 rfl (by omega) (by omega) ?_ fun h' R' _ => ?_
    · rw [head, c_isFace_f hv, ob_some, if_pos rfl]
    · obtain ⟨hu, u1, u2, u3, -, -, -⟩ := r_use R'
      refine ⟨nI 0, sI hu 73 0 (nI 1), ?_, u2.trans th_fr, u3.th, th_get⟩
      rw [rhead h' hu u1 R'.1, r_isIn_f (b := 1) (by omega) hv, ob_some, if_pos rfl]
      exact thr hu 1 (by omega) (by omega) u3
  · rcases ni_d w 601 with hw | ⟨du, hdu, rfl⟩
    · refine Pr.mid C R F3 C3 2 2 rfl (by omega) (by omega) ?_ fun h' R' _ => ?_
      · rw [head, c_isFace_t hfc, ob_some, if_neg (by decide), c_isMinute_f hw, ob_some, if_pos rfl]
      · obtain ⟨hu, u1, u2, u3, -, -, -⟩ := r_use R'
        refine ⟨nI 0, sI hu 73 0 (nI 2), ?_, u2.trans th_fr, u3.th, th_get⟩
        rw [rhead h' hu u1 R'.1, r_isIn_t (by omega) (by omega) (by omega), ob_some, if_neg (by decide), r_isIn_f (b := 600) (by omega) hw, ob_some, if_pos rfl]
        exact thr hu 2 (by omega) (by omega) u3
    · obtain ⟨b, hb⟩ : ∃ b : Nat → Nat, b = fun j => Nn t j := ⟨_, rfl⟩
      have hbv : ∀ j, j < 400 → gI h 2 j = bS (b j) ∧ t j = nI (b j) ∧ b j ≤ 255 := fun j hj => by
        obtain ⟨c1, c2⟩ := T.2.2.2 j hj
        obtain ⟨c3, c4⟩ := c2.eq (by omega)
        rw [hb]
        exact ⟨c1, c3, c4⟩
      obtain ⟨s0, hs0⟩ : ∃ s0, s0 = tB0 (gI h 82) (gI h 81) (gI h 78) (gI h 79) (gI h 80) := ⟨_, rfl⟩
      have T0 : TI 5 24 0 s0 := by rw [hs0]; exact ti_0 (by omega) (by omega)
      obtain ⟨E, hE⟩ : ∃ E, E = enT l (ruT 5 24 0 b s0 l) := ⟨_, rfl⟩
      have g2 : ∀ j, gI h3 2 j = gI h 2 j := fun j => by rw [hh3, gI_sI, if_neg (by decide)]
      have fw : MX1_firstWrong h3 2 (nI l) (nI 5) (nI 24) (nI 0) = some (lV E) := by
        rw [hE, hs0]
        exact c_first X3.f.2.2.1 (by rw [X3.f.2.2.2.1]; exact hl) (by rw [X3.f.2.2.2.1]; omega) (fun j hj => ⟨by rw [g2]; exact (hbv j (by omega)).1, (hbv j (by omega)).2.2⟩) (by omega) (by omega) (by omega) (Or.inr rfl) (by omega)
      obtain ⟨h4, hh4⟩ : ∃ h4, h4 = sI h3 1 2 (lV E) := ⟨_, rfl⟩
      have F4 : Fr (fun b => b = 1 ∨ b = 2) h h4 := by rw [hh4]; exact F3.trans (Fr.sI (S := fun b => b = 1 ∨ b = 2) (Or.inl rfl))
      have T4 : TpV h4 t (nI 0) (lV E) := by
        refine ⟨by rw [hh4, gI_sI, if_pos rfl, up_at, if_neg (by decide)]; exact T3.1, ⟨0, by omega, rfl⟩, by rw [hh4, gI_sI, if_pos rfl, up_at, if_pos rfl], fun j hj => ?_⟩
        rw [hh4, gI_sI, if_neg (by decide)]
        exact T3.2.2.2 j hj
      have C4 : CSt tg h4 m k i t (nI 0) (lV E) := C.tape F4 T4
      have X4 : XS h4 := X.fr F4
      have e2 : gI h4 1 2 = lV E := T4.2.2.1
      have head2 : MX11_story h 1 (nI fc) (nI du) = if lV E = -nI 1 then (if nI (Nn m 1) < nI 20 then b2 (MX7_addStory h4 19 2 (nI l) (nI fc) (nI du)) fun (t24 : Int32) (h23 : Hp) => some (.inl t24, h23) else some (.inr 3, bmp h4 1 6)) else some (.inr 2, bmp h4 1 6) := by
        have e7 : gI h4 19 7 = nI (Nn m 1) := by rw [C4.2.2.2.2.1.2.1]; exact S1
        have k19 : kd h3 19 = 6 := C3.2.2.2.1.1
        rw [head, c_isFace_t hfc, ob_some, if_neg (by decide), c_isMinute_t hdu, ob_some, if_neg (by decide), gg_t X3.1, X3.2.1, fw, ob_some, lt_eq, ← hh4, e2, X5 X3, gg_t k19, e7]
      -- the reference up to the end of the reading
      have rr : ∀ h', RSt h' m k i t (nI l) f → (∀ y, 78 ≤ y → y ≤ 82 → gI h' y = gI h y) → ∃ h0 vv g, MX12_story h' 73 (nI fc) (nI du) = (if vv = nI 0 then MX12_story_82 (sI g 73 0 (nI 2)) 73 (nI fc) (nI du) else if nI (Nn m 1) = nI 20 then MX12_story_82 (sI g 73 0 (nI 3)) 73 (nI fc) (nI du) else MX12_story_82 g 73 (nI fc) (nI du)) ∧ Fr Rc h' h0 ∧ RSt h0 m k i t (nI 0) (-nI 1) ∧ gI h0 73 0 = nI 0 ∧ RS g ∧ gI g 74 = m ∧ RdE h0 b 5 24 0 l s0 vv g := fun h' R' e => by
        obtain ⟨hu, u1, u2, u3, u4, u5, u6⟩ := r_use R'
        have R0 : RSt (sI (sI hu 73 0 (nI 0)) 73 9 (-nI 1)) m k i t (nI 0) (-nI 1) := by
          obtain ⟨r0, r1, r2, r3, r4, r5, r6⟩ := u3.th (v := nI 0)
          refine ⟨r0.sI, by rw [gI_sI, if_neg (by decide)]; exact r1, by rw [gI_sI, if_neg (by decide)]; exact r2, by rw [gI_sI, if_pos rfl, up_at, if_neg (by decide)]; exact r3, by rw [gI_sI, if_neg (by decide)]; exact r4, by rw [gI_sI, if_pos rfl, up_at, if_neg (by decide)]; exact r5, by rw [gI_sI, if_pos rfl, up_at, if_pos rfl]⟩
        obtain ⟨h0, hh0⟩ : ∃ h0, h0 = sI (sI hu 73 0 (nI 0)) 73 9 (-nI 1) := ⟨_, rfl⟩
        rw [← hh0] at R0
        have z73 : ∀ j, gI h0 73 j = if j = 9 then -nI 1 else if j = 0 then nI 0 else gI hu 73 j := fun j => by rw [hh0, gI_sI, if_pos rfl, up_at, gI_sI, if_pos rfl, up_at]
        have zo : ∀ y, y ≠ 73 → gI h0 y = gI h' y := fun y hy => by rw [hh0, gI_sI, if_neg hy, gI_sI, if_neg hy]; exact u6 y hy
        have TT0 : RTt h0 b l := ⟨R0.1, by rw [z73, if_neg (by decide), if_neg (by decide)]; exact u4, hl, fun j hj => ⟨by rw [R0.2.2.2.2.1]; exact (hbv j (by omega)).2.1, (hbv j (by omega)).2.2⟩⟩
        obtain ⟨vv, g, a1, a2⟩ := r_story0 TT0 (by rw [z73, if_neg (by decide), if_neg (by decide)]; exact u5) (by rw [z73, if_pos rfl])
        rw [zo 82 (by omega), zo 81 (by omega), zo 78 (by omega), zo 79 (by omega), zo 80 (by omega), e 82 (by omega) (by omega), e 81 (by omega) (by omega), e 78 (by omega) (by omega), e 79 (by omega) (by omega), e 80 (by omega) (by omega), ← hs0] at a2
        have Fg : FQ h0 g := by
          rcases a2 with ⟨-, p, q, -⟩ | ⟨-, s, -, -, -, q⟩
          · exact q.1
          · exact q.1
        have Rg : RS g := R0.1.fr Fg.1
        have mg : gI g 74 = m := by rw [Fg.1.2.2.2.2.2.2 74 (by omega)]; exact R0.2.1
        refine ⟨h0, vv, g, ?_, ?_, R0, by rw [z73, if_neg (by decide), if_pos rfl], Rg, mg, a2⟩
        · rw [rhead h' hu u1 R'.1, r_isIn_t (by omega) (by omega) (by omega), ob_some, if_neg (by decide), r_isIn_t (by omega) (by omega) (by omega), ob_some, if_neg (by decide)]
          unfold MX12_story_34
          simp only [ZL]
          rw [gg_t (RS.f u3.1).1, lt_eq, gg_t (RS.f u3.1).1, th_get, if_pos (nI_le (Nat.le_refl _) (by omega)), lt_eq, ← hh0, a1, b2_some]
          simp only [RS.f Rg]
          rw [gg_T, gg_T, gg_T, gg_in (by omega) (by omega), nCl (by omega), mg, S1]
          rfl
        · rw [hh0]
          exact (u2.trans th_fr).trans (Fr.sI (S := Rc) ⟨by omega, by omega⟩)
      have t82 : ∀ g (c : Nat), RS g → 1 ≤ c → c ≤ 3 → MX12_story_82 (sI g 73 0 (nI c)) 73 (nI fc) (nI du) = some (nI 0, sI g 73 0 (nI c)) := fun g c Rg c1 c3 => by
        unfold MX12_story_82
        simp only [ZL]
        rw [gg_t (show kd (sI g 73 0 (nI c)) 73 = 11 from (RS.f Rg).1), th_get, if_neg (nI_ge c1 (by omega))]
      by_cases z : E = 0
      · have lz : lV E = -nI 1 := by unfold lV; rw [if_pos z]
        rw [lz] at C4 e2
        rw [if_pos lz] at head2
        -- the copy is right
        have ok : ∀ h0 vv g, RdE h0 b 5 24 0 l s0 vv g → vv = nI 1 ∧ ∃ s, ruT 5 24 0 b s0 l = .inr s ∧ s.2.2.1 = false ∧ 0 < tw s ∧ RTq h0 g l s.1 s.2.2.2.2.1 s.2.2.2.2.2.1 s.2.2.2.2.2.2.1 s.2.2.2.2.2.2.2 s.2.2.2.1 := fun h0 vv g Q => by
          rcases Q with ⟨-, p, -, q⟩ | q
          · rw [← hE, z] at q
            omega
          · exact q
        by_cases S2 : Nn m 1 < 20
        · rw [if_pos (nI_lt S2 (by omega))] at head2
          obtain ⟨s, es, ebh, etw⟩ : ∃ s, ruT 5 24 0 b s0 l = .inr s ∧ s.2.2.1 = false ∧ 0 < tw s := by
            cases q : ruT 5 24 0 b s0 l with
            | inl p =>
              rw [q, z] at hE
              have : 0 = p + 1 := hE
              omega
            | inr s =>
              rw [q, z] at hE
              have hE : 0 = if s.2.2.1 = true ∨ tw s = 0 then l + 1 else 0 := hE
              by_cases y : s.2.2.1 = true ∨ tw s = 0
              · rw [if_pos y] at hE
                omega
              · refine ⟨s, rfl, ?_, ?_⟩
                · cases q2 : s.2.2.1 with
                  | true => exact absurd (Or.inl q2) y
                  | false => rfl
                · by_cases q3 : tw s = 0
                  · exact absurd (Or.inr q3) y
                  · omega
          have Ts := ti_ru T0 (by omega) (by omega) l s es
          have N := ti_sy Ts
          obtain ⟨O4, -, -, S4, V4, D4, DV4, -, -, Im4, Tr4⟩ := id C4
          have h94 : 109 ≤ sz h4 := by rw [F4.2.2.2.1]; exact h9
          have t2 : tg 2 = [0] := (tgs O X).2.1
          have K2 : X4.f.2.2.1 = X4.f.2.2.1 := rfl
          obtain ⟨tg', h5, k1, X1, e1, S5, V5⟩ := c_addSy (u := nI fc) (v := nI du) (b := b) (e := l) C4.rt (by omega : 19 ≤ sz h4) h94 S4 V4 I rfl S2 T0 (by rw [hs0]; rfl) (by rw [hs0]; rfl) (by rw [hs0]; rfl) (by rw [hs0]; show Nn (va_up (gI h 81) 0 (nI 0)) 0 = 0; rw [nnU (by omega), if_pos rfl]) (by rw [hs0]; show Nn (va_up (gI h 82) 0 (nI 0)) 0 = 0; rw [nnU (by omega), if_pos rfl]) (by omega : 2 ≤ sz h4) (by rw [t2]; decide) (by decide) X4.f.2.2.1 (by rw [X4.f.2.2.2.1]; exact hl) (by rw [X4.f.2.2.2.1]; omega) (fun j hj => ⟨by rw [hh4, gI_sI, if_neg (by decide), g2]; exact (hbv j (by omega)).1, (hbv j (by omega)).2.2⟩) es ebh
          obtain ⟨q1, q70, q90, q110⟩ := syF_h (m := m) (fc := nI fc) (du := nI du) N S2
          have L : ∀ y, y ≠ 1 → y ≠ 70 + Nn m 1 → y ≠ 90 + Nn m 1 → y ≠ 110 + Nn m 1 → (y < 130 + 645 * (5 * Nn m 1) ∨ 3355 + 3225 * Nn m 1 ≤ y) → syF m (Nn m 1) s (nI fc) (nI du) y = m y := fun y a1 a2 a3 a4 a5 => syF_o N a1 a2 a3 a4 a5
          have I1 : MI (syF m (Nn m 1) s (nI fc) (nI du)) := sy_mi0 I rfl S2 N.1 (by omega) (by omega) L q1 q70 q90 q110 (fun j hj => sy_mip I rfl S2 Ts etw hj)
          have w5 : ∀ y, y = 5 → y = 5 ∨ y = 6 ∨ y = 9 ∨ y = 10 ∨ y = 11 := fun y hy => Or.inl hy
          obtain ⟨-, -, t3, -, -, -, -, t48, -⟩ := tgs O4 X4
          have s48 := rx_sm3 X1 (⟨O4, t3, t48, by omega, by omega⟩ : Rt tg h4 48 6) (by omega) (by omega : ¬ 6 = 5)
          have HD : ∀ y, rgDk y → syF m (Nn m 1) s (nI fc) (nI du) y = m y := fun y hy => L y (by unfold rgDk at hy; omega) (by unfold rgDk at hy; omega) (by unfold rgDk at hy; omega) (by unfold rgDk at hy; omega) (by unfold rgDk at hy; omega)
          have C5 : CSt tg' h5 (syF m (Nn m 1) s (nI fc) (nI du)) k i t (nI 0) (-nI 1) := C4.rx h94 X1 w5 S5 V5 (D4.congr s48) ((DV4.congr s48).mc HD I.1 I.2.2.2.2.1) I1 (rx_img X1 O4 X4 h94 (by omega) (by omega) Im4) (rx_tr X1 O4 X4 h94 (by omega) Tr4)
          have rp1 : Rp h h4 := F4.rp (fun y hy => by omega)
          have rp2 : Rp h4 h5 := X1.rp O4 (R.rp rp1).1 h94 w5
          have rp : Rp h h5 := fun y y1 y2 => ⟨(rp2 y y1 y2).1.trans (rp1 y y1 y2).1, (rp2 y y1 y2).2.1.trans (rp1 y y1 y2).2.1, (rp2 y y1 y2).2.2.1.trans (rp1 y y1 y2).2.2.1, (rp2 y y1 y2).2.2.2.trans (rp1 y y1 y2).2.2.2⟩
          refine ⟨.inl (nI (Nn m 1)), h5, tg', _, k, i, t, nI 0, -nI 1, by rw [head2, k1, b2_some], C5, rp, ⟨?_, ?_⟩, fun h' o => ?_⟩
          · have := mu_rm X1 O4 X4 h94 (fun y hy => hy) e1
            rw [mu_fr F4] at this
            omega
          · have := X1.2.1
            rw [F4.2.2.2.1] at this
            exact this
          · have e : ∀ y, 78 ≤ y → y ≤ 82 → gI h' y = gI h y := fun y y1 y2 => by
              have e3 : gI h5 y = gI h y := (rp y (by omega) (by omega)).2.2.1
              rcases o with rfl | ⟨x, rfl⟩
              · exact e3
              · rw [gI_sI, if_neg (by omega)]; exact e3
            obtain ⟨h0, vv, g, a1, a2, a3, a4, a5, a6, a7⟩ := rr h' ((R.rp rp).ou o) e
            obtain ⟨vv1, s', es', -, -, Q⟩ := ok h0 vv g a7
            rw [es] at es'
            cases es'
            subst vv1
            obtain ⟨QF, q8, q17, q81, q78, q79, q80, q82, q9⟩ := Q
            obtain ⟨b1, b2', b3⟩ := fq_st a3 QF (q9.trans a3.2.2.2.2.2.2)
            obtain ⟨g', d1, d2, d3⟩ := r_st82 (fc := nI fc) (du := nI du) a5 a6 (by rw [b3]; exact a4) S1 q78 q79 q80 q81 q82 N S2 q17
            have f := fun y hy => d2.2.2.2.2.2.2 y hy
            refine ⟨nI (Nn m 1), g', ?_, (a2.trans b2').trans (d2.mono (fun y hy => by unfold Rc; omega)), ⟨b1.1.fr d2, d3, by rw [f 75 (by decide)]; exact b1.2.2.1, by rw [f 73 (by decide)]; exact b1.2.2.2.1, by rw [f 77 (by decide)]; exact b1.2.2.2.2.1, by rw [f 73 (by decide)]; exact b1.2.2.2.2.2.1, by rw [f 73 (by decide)]; exact b1.2.2.2.2.2.2⟩, by rw [f 73 (by decide), b3]; exact a4, rfl⟩
            show MX12_story h' 73 (nI fc) (nI du) = _
            rw [a1, if_neg (by decide), if_neg (by rw [nEq (by omega) (by omega)]; omega)]
            exact d1
        · have S21 : Nn m 1 = 20 := by omega
          rw [if_neg (nI_nlt (by omega) (by omega))] at head2
          refine Pr.mid C R F4 C4 3 3 rfl (by omega) (by omega) head2 fun h' R' e => ?_
          obtain ⟨h0, vv, g, a1, a2, a3, a4, a5, a6, a7⟩ := rr h' R' e
          obtain ⟨vv1, s, -, -, -, Q⟩ := ok h0 vv g a7
          subst vv1
          obtain ⟨b1, b2', b3⟩ := fq_st a3 Q.1 (Q.2.2.2.2.2.2.2.2.trans a3.2.2.2.2.2.2)
          refine ⟨nI 0, sI g 73 0 (nI 3), ?_, (a2.trans b2').trans th_fr, b1.th, th_get⟩
          rw [a1, if_neg (by decide), if_pos (by rw [S21]), t82 g 3 a5 (by omega) (by omega)]
      · have lz : lV E = nI (E - 1) := by unfold lV; rw [if_neg z]
        have El : E ≤ 401 := by
          rw [hE]
          cases q : ruT 5 24 0 b s0 l with
          | inr s =>
            show (if s.2.2.1 = true ∨ tw s = 0 then l + 1 else 0) ≤ 401
            split <;> omega
          | inl p =>
            show p + 1 ≤ 401
            have K : ∀ n p, ruT 5 24 0 b s0 n = .inl p → p < n := fun n => by
              induction n with
              | zero => intro p hp; cases hp
              | succ n ih =>
                intro p hp
                cases q : ruT 5 24 0 b s0 n with
                | inl p' =>
                  have := ruT_e q 1
                  rw [this] at hp
                  cases hp
                  have := ih p q
                  omega
                | inr s' =>
                  rw [ruT_s q] at hp
                  have : p = n := by
                    unfold stT at hp
                    repeat' split at hp
                    all_goals first | (cases hp; rfl) | (cases hp)
                  omega
            have := K l p q
            omega
        rw [if_neg (show ¬ lV E = -nI 1 by rw [lz, nM6 (by omega)]; exact id)] at head2
        refine Pr.mid C R F4 C4 2 2 rfl (by omega) (by omega) head2 fun h' R' e => ?_
        obtain ⟨h0, vv, g, a1, a2, a3, a4, a5, a6, a7⟩ := rr h' R' e
        rcases a7 with ⟨vv0, p, Q, q⟩ | ⟨-, s, es, ebh, etw, -⟩
        · subst vv0
          have pE : p = E - 1 := by rw [hE]; omega
          obtain ⟨b1, b2', b3⟩ := fq_st a3 Q.1 Q.2
          rw [pE, ← lz] at b1
          refine ⟨nI 0, sI g 73 0 (nI 2), ?_, (a2.trans b2').trans th_fr, b1.th, th_get⟩
          rw [a1, if_pos rfl, t82 g 2 a5 (by omega) (by omega)]
        · exfalso
          rw [es] at hE
          have hE : E = if s.2.2.1 = true ∨ tw s = 0 then l + 1 else 0 := hE
          rw [if_neg (fun o => o.elim (fun o => by rw [ebh] at o; exact Bool.noConfusion o) (fun o => by omega))] at hE
          exact z hE
end
