/-! style: the pair -/
section
variable {tg tg' : Nat → List Nat} {h h' h3 : Hp} {m k t : Nat → Int32} {i n f : Int32}
/-- thrown in the middle, more is changed -/
theorem Pr.md {cm : Nat → Nat} {X : Option ((Int32 ⊕ Nat) × Hp)} {Y : Hp → Option (Int32 × Hp)} {t3 : Nat → Int32} {n3 f3 : Int32} (R : RSt h m k i t n f) (rp0 : Rp h h3) (mu0 : mu h3 = mu h) (sz0 : sz h3 = sz h) (C3 : CSt tg h3 m k i t3 n3 f3) (E c : Nat) (hc : cm E = c) (h1 : 1 ≤ c) (h4 : c ≤ 4) (hX : X = some (.inr E, bmp h3 1 6)) (hY : ∀ h', RSt h' m k i t n f → ∃ v h2, Y h' = some (v, h2) ∧ Fr Rc h' h2 ∧ RSt h2 m k i t3 n3 f3 ∧ gI h2 73 0 = nI c) : Pr cm Gm h X Y := by
  subst hc
  have rp : Rp h (bmp h3 1 6) := rp0
  have g0 : Gm h3 (bmp h3 1 6) := Gq.bmp.gm
  refine ⟨.inr E, bmp h3 1 6, tg, m, k, i, t3, n3, f3, hX, C3.bmp, rp, ⟨?_, ?_⟩, fun h' o => ?_⟩
  · rw [← mu0]
    exact g0.1
  · rw [← sz0]
    exact g0.2
  · obtain ⟨x, h2, a1, a2, a3, a4⟩ := hY h' ((R.rp rp).ou o)
    exact ⟨x, h2, a1, a2, a3, a4, h1, h4⟩
theorem p_style (C : CSt tg h m k i t n f) (R : RSt h m k i t n f) (h9 : 109 ≤ sz h) (v : Int32) : Pr (cm [2, 3]) Gm h (MX11_style h 1 v) (fun h' => MX12_style h' 73 v) := by
  obtain ⟨O, X, X2, S, V, Dk, DV, I, T, Im, Tr⟩ := id C
  obtain ⟨l, hl, rfl⟩ := T.2.1
  have T1 := T.1
  obtain ⟨⟨S0, S60⟩, -, ⟨S2, S10⟩, -⟩ := I.1.f
  obtain ⟨h3, hh3⟩ : ∃ h3, h3 = sI h 1 1 (nI 0) := ⟨_, rfl⟩
  have F3 : Fr (fun b => b = 1 ∨ b = 2) h h3 := by rw [hh3]; exact Fr.sI (S := fun b => b = 1 ∨ b = 2) (Or.inl rfl)
  have T3 : TpV h3 t (nI 0) f := by
    refine ⟨by rw [hh3, gI_sI, if_pos rfl, up_at, if_pos rfl], ⟨0, by omega, rfl⟩, by rw [hh3, gI_sI, if_pos rfl, up_at, if_neg (by decide)]; exact T.2.2.1, fun j hj => ?_⟩
    rw [hh3, gI_sI, if_neg (by decide)]
    exact T.2.2.2 j hj
  have C3 : CSt tg h3 m k i t (nI 0) f := C.tape F3 T3
  have X3 : XS h3 := X.fr F3
  have rp3 : Rp h h3 := F3.rp (fun y hy => by omega)
  have e0 : gI h3 19 0 = nI (Nn m 0) := by rw [C3.2.2.2.2.1.1]; exact S0
  have k19 : kd h3 19 = 6 := C3.2.2.2.1.1
  have head : MX11_style h 1 v = if v < nI (Nn m 0) then some (.inr 2, bmp h3 1 6) else if v ≤ nI 600 then b2 (MX10_firstWrong h3 3 (nI l)) fun (t12 : Int32) (h11 : Hp) => gg (kd h11 1 = 10) <| lt (sI h11 1 2 t12) fun (h14 : Hp) => if (gI h14 1 2) = -nI 1 then gg (kd h11 (gP h11 1 5) = 6) <| if (gI h14 (gP h11 1 5) 3) < nI 10 then gg (kd h11 (gP h11 1 3) = 9) <| Option.bind (MX7_addStyle h14 (gP h11 1 5) (gP h11 (gP h11 1 3) 5) v) fun (h24 : Hp) => gg (kd h24 1 = 10) <| gg (kd h24 (gP h24 1 3) = 9) <| gg (kd h24 (gP h24 (gP h24 1 3) 5) = 8) <| some (.inl (gI h24 (gP h24 (gP h24 1 3) 5) 1), h24) else some (.inr 3, bmp h14 1 6) else some (.inr 2, bmp h14 1 6) else some (.inr 2, bmp h3 1 6) := by
    unfold MX11_style MX11_useTape
    simp only [ZL]
    rw [gg_t X.1, gg_t X.1, T1, lt_eq, b2_some, ← hh3, gg_t X3.1, X5 X3, gg_t k19, e0, X3.f.2.2.2.2.1, gg_t X3.f.2.2.2.2.2.1]
  have rhead : ∀ h' hu, MX12_use h' 73 = some hu → RSt hu m k i t (nI 0) f → RS h' → MX12_style h' 73 v = Option.bind (MX12_isIn hu v (nI (Nn m 0)) (nI 600)) fun (t8 : Int32) => if t8 = nI 0 then MX12_style_26 hu 73 v 73 (nI 1) else MX12_style_26 hu 73 v 73 (nI 0) := fun h' hu e Ru Rs => by
    unfold MX12_style
    simp only [ZL, RS.f Rs]
    rw [gg_T, e, ob_some]
    simp only [RS.f Ru.1]
    rw [gg_T, gg_T, gg_in (by omega) (by omega), nCl (by omega), Ru.2.1, S0]
  -- the minute is not one of those
  have bad : (∀ j, Nn m 0 ≤ j → j < 601 → v ≠ nI j) → Pr (cm [2, 3]) Gm h (MX11_style h 1 v) (fun h' => MX12_style h' 73 v) := fun hv => by
    refine Pr.md R rp3 (mu_fr F3) F3.2.2.2.1 C3 2 1 rfl (by omega) (by omega) ?_ fun h' R' => ?_
    · rw [head]
      rcases rn_c (v := v) (a := Nn m 0) (b := 600) (by omega) S60 hv with z | ⟨z1, z2, -⟩
      · rw [if_pos z]
      · rw [if_neg z1, if_neg z2]
    · obtain ⟨hu, u1, u2, u3, -, -, -⟩ := r_use R'
      refine ⟨nI 0, sI hu 73 0 (nI 1), ?_, u2.trans th_fr, u3.th, th_get⟩
      show MX12_style h' 73 v = _
      rw [rhead h' hu u1 u3 R'.1, r_isIn_f1 (a := Nn m 0) (b := 600) (by omega) (by omega) hv, ob_some, if_pos rfl]
      unfold MX12_style_26
      simp only [ZL]
      rw [gg_t (RS.f u3.1).1, lt_eq, gg_t (RS.f u3.1).1, th_get, if_neg (by decide)]
  rcases ni_d v 601 with hv | ⟨du, hdu, rfl⟩
  · exact bad (fun j _ h2 => hv j h2)
  by_cases hm : du < Nn m 0
  · exact bad (fun j h1 h2 e => by
      rw [nEq (by omega) (by omega)] at e
      omega)
  obtain ⟨b, hb⟩ : ∃ b : Nat → Nat, b = fun j => Nn t j := ⟨_, rfl⟩
  have hbv : ∀ j, j < 400 → gI h 2 j = bS (b j) ∧ t j = nI (b j) ∧ b j ≤ 255 := fun j hj => by
    obtain ⟨c1, c2⟩ := T.2.2.2 j hj
    obtain ⟨c3, c4⟩ := c2.eq (by omega)
    rw [hb]
    exact ⟨c1, c3, c4⟩
  have S5 : StyS h3 5 := C3.2.2.1.2.2.2.2.2.2.2.2.2.2.2.2.1
  obtain ⟨A3, hD3⟩ := aps_of C3.1 X3 S5
  obtain ⟨cA, cB⟩ := c_fstS (b := b) (e := l) X3 S5 A3 hl (fun j hj => ⟨by rw [hh3, gI_sI, if_neg (by decide)]; exact (hbv j (by omega)).1, (hbv j (by omega)).2.2⟩)
  rw [if_neg (nI_nlt (by omega) (by omega)), if_pos (nI_le (by omega) (by omega))] at head
  -- the class behind the reading
  have mid : ∀ h11 (f4 : Int32), Fr (D3s h3) h3 h11 → ∃ h4, h4 = sI h11 1 2 f4 ∧ CSt tg h4 m k i t (nI 0) f4 ∧ Rp h h4 ∧ mu h4 = mu h ∧ sz h4 = sz h ∧ XS h4 ∧ kd h11 1 = 10 ∧ gP h11 1 5 = 19 ∧ gP h11 1 3 = 3 ∧ gP h11 3 5 = 5 ∧ kd h11 19 = 6 ∧ kd h11 3 = 9 ∧ gI h4 1 2 = f4 ∧ Fr (fun y => y = 1 ∨ y = 2) h11 h4 := fun h11 f4 F11 => by
    have C11 : CSt tg h11 m k i t (nI 0) f := C3.f3 F11 hD3
    obtain ⟨h4, hh4⟩ : ∃ h4, h4 = sI h11 1 2 f4 := ⟨_, rfl⟩
    have F4 : Fr (fun y => y = 1 ∨ y = 2) h11 h4 := by rw [hh4]; exact Fr.sI (S := fun b => b = 1 ∨ b = 2) (Or.inl rfl)
    have T11 := C11.2.2.2.2.2.2.2.2.1
    have T4 : TpV h4 t (nI 0) f4 := by
      refine ⟨by rw [hh4, gI_sI, if_pos rfl, up_at, if_neg (by decide)]; exact T11.1, ⟨0, by omega, rfl⟩, by rw [hh4, gI_sI, if_pos rfl, up_at, if_pos rfl], fun j hj => ?_⟩
      rw [hh4, gI_sI, if_neg (by decide)]
      exact T11.2.2.2 j hj
    have C4 : CSt tg h4 m k i t (nI 0) f4 := C11.tape F4 T4
    have X11 := C11.2.1
    have rp11 : Rp h3 h11 := F11.rp (fun b d => nr C3.1 (R.rp rp3).1 (x := 3) (by omega) (by omega) (hD3 b d).2)
    have rp4 : Rp h11 h4 := F4.rp (fun y hy => by omega)
    refine ⟨h4, hh4, C4, fun y y1 y2 => ?_, (mu_fr F4).trans ((mu_fr F11).trans (mu_fr F3)), F4.2.2.2.1.trans (F11.2.2.2.1.trans F3.2.2.2.1), C4.2.1, X11.1, X5 X11, X11.f.2.2.2.2.1, X11.f.2.2.2.2.2.2.2.2.2.2.1, C11.2.2.2.1.1, X11.f.2.2.2.2.2.1, T4.2.2.1, F4⟩
    exact ⟨(rp4 y y1 y2).1.trans ((rp11 y y1 y2).1.trans (rp3 y y1 y2).1), (rp4 y y1 y2).2.1.trans ((rp11 y y1 y2).2.1.trans (rp3 y y1 y2).2.1), (rp4 y y1 y2).2.2.1.trans ((rp11 y y1 y2).2.2.1.trans (rp3 y y1 y2).2.2.1), (rp4 y y1 y2).2.2.2.trans ((rp11 y y1 y2).2.2.2.trans (rp3 y y1 y2).2.2.2)⟩
  -- the reference up to the reading
  have rr : ∀ h', RSt h' m k i t (nI l) f → ∃ h0, MX12_style h' 73 (nI du) = (b2 (MX12_readStyle h0 73) fun (t25 : Int32) (h24 : Hp) => if t25 = nI 0 then gg (kd h24 73 = 11) <| lt (sI h24 73 0 (nI 1)) fun (h74 : Hp) => MX12_style_74 h74 73 (nI du) else gg (kd h24 73 = 11) <| gg (kd h24 (gP h24 73 1) = 20) <| gg (inB (nI 2) (ln h24 (gP h24 73 1)) = true) <| if (gI h24 (gP h24 73 1) (nI 2).toNatClampNeg) = nI 10 then lt (sI h24 73 0 (nI 2)) fun (h68 : Hp) => MX12_style_74 h68 73 (nI du) else MX12_style_74 h24 73 (nI du)) ∧ Fr Rc h' h0 ∧ RSt h0 m k i t (nI 0) (-nI 1) ∧ gI h0 73 0 = nI 0 ∧ TR h0 b l ∧ gI h0 73 8 = nI 0 ∧ gI h0 83 = gI h' 83 := fun h' R' => by
    obtain ⟨hu, u1, u2, u3, u4, u5, u6⟩ := r_use R'
    have R0 : RSt (sI (sI hu 73 0 (nI 0)) 73 9 (-nI 1)) m k i t (nI 0) (-nI 1) := by
      obtain ⟨r0, r1, r2, r3, r4, r5, r6⟩ := u3.th (v := nI 0)
      refine ⟨r0.sI, by rw [gI_sI, if_neg (by decide)]; exact r1, by rw [gI_sI, if_neg (by decide)]; exact r2, by rw [gI_sI, if_pos rfl, up_at, if_neg (by decide)]; exact r3, by rw [gI_sI, if_neg (by decide)]; exact r4, by rw [gI_sI, if_pos rfl, up_at, if_neg (by decide)]; exact r5, by rw [gI_sI, if_pos rfl, up_at, if_pos rfl]⟩
    obtain ⟨h0, hh0⟩ : ∃ h0, h0 = sI (sI hu 73 0 (nI 0)) 73 9 (-nI 1) := ⟨_, rfl⟩
    rw [← hh0] at R0
    have z73 : ∀ j, gI h0 73 j = if j = 9 then -nI 1 else if j = 0 then nI 0 else gI hu 73 j := fun j => by rw [hh0, gI_sI, if_pos rfl, up_at, gI_sI, if_pos rfl, up_at]
    have zo : ∀ y, y ≠ 73 → gI h0 y = gI h' y := fun y hy => by rw [hh0, gI_sI, if_neg hy, gI_sI, if_neg hy]; exact u6 y hy
    refine ⟨h0, ?_, ?_, R0, by rw [z73, if_neg (by decide), if_pos rfl], ⟨R0.1, by rw [z73, if_neg (by decide), if_neg (by decide)]; exact u4, hl, fun j hj => ⟨by rw [R0.2.2.2.2.1]; exact (hbv j (by omega)).2.1, (hbv j (by omega)).2.2⟩⟩, by rw [z73, if_neg (by decide), if_neg (by decide)]; exact u5, zo 83 (by omega)⟩
    · rw [rhead h' hu u1 u3 R'.1, r_isIn_t (by omega) (by omega) (by omega), ob_some, if_neg (by decide)]
      unfold MX12_style_26
      simp only [ZL]
      rw [gg_t (RS.f u3.1).1, lt_eq, gg_t (RS.f u3.1).1, th_get, if_pos (nI_le (Nat.le_refl _) (by omega)), lt_eq, ← hh0]
    · rw [hh0]
      exact (u2.trans th_fr).trans (Fr.sI (S := Rc) ⟨by omega, by omega⟩)
  -- the state behind the reading
  have st : ∀ {h0 g : Hp} {fl : Int32}, RSt h0 m k i t (nI 0) (-nI 1) → Fr DFt h0 g → (∀ j, j = 0 ∨ j = 4 ∨ j = 6 → gI g 73 j = gI h0 73 j) → gI g 73 9 = fl → RSt g m k i t (nI 0) fl ∧ Fr Rc h0 g := fun {h0 g fl} R0 F o e => by
    obtain ⟨r0, r1, r2, r3, r4, r5, r6⟩ := R0
    have ff := fun y (hy : ¬ DFt y) => F.2.2.2.2.2.2 y hy
    exact ⟨⟨r0.fr F, by rw [ff 74 (by unfold DFt; omega)]; exact r1, by rw [ff 75 (by unfold DFt; omega)]; exact r2, by rw [o 4 (by omega)]; exact r3, by rw [ff 77 (by unfold DFt; omega)]; exact r4, by rw [o 6 (by omega)]; exact r5, e⟩, F.mono (fun y hy => by unfold DFt at hy; unfold Rc; omega)⟩
  have t74 : ∀ g (c : Nat), RS g → 1 ≤ c → c ≤ 3 → MX12_style_74 (sI g 73 0 (nI c)) 73 (nI du) = some (nI 0, sI g 73 0 (nI c)) := fun g c Rg c1 c3 => by
    unfold MX12_style_74
    simp only [ZL]
    rw [gg_t (show kd (sI g 73 0 (nI c)) 73 = 11 from (RS.f Rg).1), th_get, if_neg (nI_ge c1 (by omega))]
  cases q : styP b l with
  | inl p =>
    obtain ⟨pl, h11, y1, F11⟩ := cA p q
    obtain ⟨h4, hh4, C4, rp4, mu4, sz4, X4, a1, a2, a3, a4, a5, a6, a7, F4⟩ := mid h11 (nI p) F11
    refine Pr.md R rp4 mu4 sz4 C4 2 1 rfl (by omega) (by omega) ?_ fun h' R' => ?_
    · rw [head, y1, b2_some, gg_t a1, lt_eq, ← hh4, a7, if_neg (by rw [nM6 (by omega)]; exact id)]
    · obtain ⟨h0, b1, b2, b3, b4, b5, b6, b7⟩ := rr h' R'
      obtain ⟨g, d1, d2, d3, d4⟩ := (r_fstS b5 b6).1 p q
      obtain ⟨Rg, Fg⟩ := st b3 d2 (fun j hj => d3 j (by omega) (by omega) (by omega) (by omega) (by omega) (by omega)) d4
      refine ⟨nI 0, sI g 73 0 (nI 1), ?_, (b2.trans Fg).trans th_fr, Rg.th, th_get⟩
      show MX12_style h' 73 (nI du) = _
      rw [b1, d1, b2_some, if_pos rfl, gg_t (RS.f Rg.1).1, lt_eq, t74 g 1 Rg.1 (by omega) (by omega)]
  | inr L =>
    obtain ⟨G, h0c, h11, a, y1, F0, K11, B0, eP0⟩ := cB L q
    have F11 : Fr (D3s h3) h3 h11 := F0.trans (K11.1.mono (fun y z => by
      unfold DSt at z
      rw [eP0] at z
      exact Or.inr z))
    obtain ⟨h4, hh4, C4, rp4, mu4, sz4, X4, a1, a2, a3, a4, a5, a6, a7, F4⟩ := mid h11 (-nI 1) F11
    have G4 : GdR L 400 := ⟨G.1, by have := G.2.1; omega, by have := G.2.2.1; omega, G.2.2.2⟩
    have e3 : gI h4 19 3 = nI (Nn m 2) := by rw [C4.2.2.2.2.1.2.2.1]; exact S2
    have head2 : MX11_style h 1 (nI du) = if nI (Nn m 2) < nI 10 then Option.bind (MX7_addStyle h4 19 5 (nI du)) fun (h24 : Hp) => gg (kd h24 1 = 10) <| gg (kd h24 (gP h24 1 3) = 9) <| gg (kd h24 (gP h24 (gP h24 1 3) 5) = 8) <| some (.inl (gI h24 (gP h24 (gP h24 1 3) 5) 1), h24) else some (.inr 3, bmp h4 1 6) := by
      rw [head, y1, b2_some, gg_t a1, lt_eq, ← hh4, a7, if_pos rfl, a2, gg_t a5, e3, a3, gg_t a6, a4]
    -- the reference's reading
    have rd : ∀ h', RSt h' m k i t (nI l) f → ∃ h0 g, MX12_style h' 73 (nI du) = (if nI (Nn m 2) = nI 10 then MX12_style_74 (sI g 73 0 (nI 2)) 73 (nI du) else MX12_style_74 g 73 (nI du)) ∧ RSt g m k i t (nI 0) (-nI 1) ∧ Fr Rc h' g ∧ gI g 73 0 = nI 0 ∧ gI g 73 19 = nI L.length ∧ gI g 73 20 = nI (poL L L.length) ∧ h0 = h' ∧ DrD (gI h' 83) L (gI g 83) := fun h' R' => by
      obtain ⟨h0, b1, b2, b3, b4, b5, b6, b7⟩ := rr h' R'
      obtain ⟨g, d1, d2, d3, d4, d5, d6, d7⟩ := (r_fstS b5 b6).2 L q
      obtain ⟨Rg, Fg⟩ := st b3 d2 (fun j hj => d3 j (by omega) (by omega) (by omega) (by omega) (by omega) (by omega)) ((d3 9 (by omega) (by omega) (by omega) (by omega) (by omega) (by omega)).trans b3.2.2.2.2.2.2)
      refine ⟨h', g, ?_, Rg, b2.trans Fg, (d3 0 (by omega) (by omega) (by omega) (by omega) (by omega) (by omega)).trans b4, d4, d5, rfl, d6, fun j w1 w2 => by rw [d7 j w1 w2, b7]⟩
      rw [b1, d1, b2_some, if_neg (by decide)]
      simp only [RS.f Rg.1]
      rw [gg_T, gg_T, gg_in (by omega) (by omega), nCl (by omega), Rg.2.1, S2]
      rfl
    by_cases s10 : Nn m 2 < 10
    · rw [if_pos (nI_lt s10 (by omega))] at head2
      -- the draft as it will be
      obtain ⟨-, g0, -, -, -, -, -, -, -, D0⟩ := rd h R
      obtain ⟨O4, -, X24, S4, V4, D4, DV4, -, -, Im4, Tr4⟩ := id C4
      have h94 : 109 ≤ sz h4 := by rw [sz4]; exact h9
      obtain ⟨-, -, t3, -, t5, -, -, t48, -⟩ := tgs O4 X4
      have Co4 : CoS h4 5 L := by
        have c := K11.co
        unfold CoS at c ⊢
        rw [F4.2.2.1, F4.2.2.2.2.2.2 5 (by decide)]
        have o : ∀ j, 2 ≤ j → j ≤ 6 → gI h4 (gP h11 5 j) = gI h11 (gP h11 5 j) := fun j j1 j2 => F4.2.2.2.2.2.2 _ (fun z => by
          have e : gP h11 5 j = gP h3 5 j := by rw [F11.2.2.1]
          rw [e] at z
          have n3 := hD3 (gP h3 5 j) (Or.inr (Or.inr (Or.inr ⟨j, j1, j2, rfl⟩)))
          obtain ⟨q1, q2, -⟩ := tgs C3.1 X3
          rcases z with z | z
          · rw [z, q1] at n3
            have := n3.2.length_le
            simp at this
          · exact A3.1 j 2 j1 j2 (by omega) z)
        rw [o 2 (by omega) (by omega), o 3 (by omega) (by omega), o 4 (by omega) (by omega), o 5 (by omega) (by omega), o 6 (by omega) (by omega)]
        exact c
      obtain ⟨tg', h5, k1, X1, e1, S5', V5, k5, g51⟩ := c_adSty (du := du) C4.rt (by omega : 19 ≤ sz h4) h94 S4 V4 I rfl s10 t5 X24.2.2.2.2.2.2.2.2.2.2.2.2.1 Co4 D0 G4
      have N := styP_t q
      have poB : poL L L.length ≤ 562 := by have := G.2.2.1; omega
      have Lm : ∀ y, y ≠ 2 → (y < 320962 + 562 * Nn m 2 ∨ 320962 + 562 * Nn m 2 + 562 ≤ y) → styM m (Nn m 2) du L.length (poL L L.length) (gI g0 83) y = m y := fun y h2 hy => styM_o poB h2 hy
      have I1 : MI (styM m (Nn m 2) du L.length (poL L L.length) (gI g0 83)) := st_mi I rfl s10 Lm (by unfold styM; rw [if_pos rfl]) (sty_iy D0 G4 N (by omega) s10)
      have w5 : ∀ y, y = 5 → y = 5 ∨ y = 6 ∨ y = 9 ∨ y = 10 ∨ y = 11 := fun y hy => Or.inl hy
      have s48 := rx_sm3 X1 (⟨O4, t3, t48, by omega, by omega⟩ : Rt tg h4 48 6) (by omega) (by omega : ¬ 6 = 5)
      have HD : ∀ y, rgDk y → styM m (Nn m 2) du L.length (poL L L.length) (gI g0 83) y = m y := fun y hy => Lm y (by unfold rgDk at hy; omega) (by unfold rgDk at hy; omega)
      have C5 : CSt tg' h5 (styM m (Nn m 2) du L.length (poL L L.length) (gI g0 83)) k i t (nI 0) (-nI 1) := C4.rx h94 X1 w5 S5' V5 (D4.congr s48) ((DV4.congr s48).mc HD I.1 I.2.2.2.2.1) I1 (rx_img X1 O4 X4 h94 (by omega) (by omega) Im4) (rx_tr X1 O4 X4 h94 (by omega) Tr4)
      have X5' := C5.2.1
      have rp2 : Rp h4 h5 := X1.rp O4 (R.rp rp4).1 h94 w5
      have rp : Rp h h5 := fun y y1 y2 => ⟨(rp2 y y1 y2).1.trans (rp4 y y1 y2).1, (rp2 y y1 y2).2.1.trans (rp4 y y1 y2).2.1, (rp2 y y1 y2).2.2.1.trans (rp4 y y1 y2).2.2.1, (rp2 y y1 y2).2.2.2.trans (rp4 y y1 y2).2.2.2⟩
      refine ⟨.inl (nI L.length), h5, tg', _, k, i, t, nI 0, -nI 1, ?_, C5, rp, ⟨?_, ?_⟩, fun h' o => ?_⟩
      · rw [head2, k1, ob_some, gg_t X5'.1, X5'.f.2.2.2.2.1, gg_t X5'.f.2.2.2.2.2.1, X5'.f.2.2.2.2.2.2.2.2.2.2.1, gg_t k5, g51]
      · have := mu_rm X1 O4 X4 h94 (fun y hy => hy) e1
        rw [mu4] at this
        omega
      · have := X1.2.1
        rw [sz4] at this
        exact this
      · have e83 : gI h' 83 = gI h 83 := by
          have e3 : gI h5 83 = gI h 83 := (rp 83 (by omega) (by omega)).2.2.1
          rcases o with rfl | ⟨x, rfl⟩
          · exact e3
          · rw [gI_sI, if_neg (by omega)]; exact e3
        obtain ⟨-, g, b1, b2, b3, b4, b5, b6, -, b8⟩ := rd h' ((R.rp rp).ou o)
        rw [e83] at b8
        have eg := drd_u D0 b8 G.1
        obtain ⟨g', d1, d2, d3⟩ := r_100 (m := m) (du := du) b2.1 b2.2.1 b6 b5 S2 s10 (by have := poL_62 (rs := L) L.length; omega) poB
        rw [← eg] at d3
        have ff := fun y (hy : ¬ y = 74) => d2.2.2.2.2.2.2 y hy
        refine ⟨nI L.length, g', ?_, b3.trans (d2.mono (fun y hy => by unfold Rc; omega)), ⟨b2.1.fr d2, d3, by rw [ff 75 (by decide)]; exact b2.2.2.1, by rw [ff 73 (by decide)]; exact b2.2.2.2.1, by rw [ff 77 (by decide)]; exact b2.2.2.2.2.1, by rw [ff 73 (by decide)]; exact b2.2.2.2.2.2.1, by rw [ff 73 (by decide)]; exact b2.2.2.2.2.2.2⟩, by rw [ff 73 (by decide)]; exact b4, rfl⟩
        show MX12_style h' 73 (nI du) = _
        rw [b1, if_neg (by rw [nEq (by omega) (by omega)]; omega)]
        unfold MX12_style_74
        simp only [ZL, RS.f b2.1]
        rw [gg_T, b4, if_pos (nI_le (Nat.le_refl _) (by omega)), gg_T, gg_in (by omega) (by omega), nCl (by omega), b2.2.1, S2, nMul, nAdd, lt_eq]
        exact d1
    · have s11 : Nn m 2 = 10 := by omega
      rw [if_neg (nI_nlt (by omega) (by omega))] at head2
      refine Pr.md R rp4 mu4 sz4 C4 3 2 rfl (by omega) (by omega) head2 fun h' R' => ?_
      obtain ⟨-, g, b1, b2, b3, b4, -⟩ := rd h' R'
      refine ⟨nI 0, sI g 73 0 (nI 2), ?_, b3.trans th_fr, b2.th, th_get⟩
      show MX12_style h' 73 (nI du) = _
      rw [b1, if_pos (by rw [s11]), t74 g 2 b2.1 (by omega) (by omega)]
end
