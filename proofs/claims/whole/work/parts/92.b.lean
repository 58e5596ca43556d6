/-! the breaker is loaded -/
/-- what of the room a breaker reads -/
def RmW (h : Hp) (r : Nat) (m : Nat → Int32) : Prop := gI h r 3 = m 2 ∧ (∀ i, i < 54 → gI h (gP h r 1) i = m (16 + i)) ∧ ∀ y, y < Nn m 2 → gP h (gP h r 2) y ≠ 0 ∧ StyV h (gP h (gP h r 2) y) m (320962 + 562 * y)
/-- a loop of n rounds that goes on with X -/
theorem it_k {σ ρ : Type} {f : σ → Option (σ ⊕ ρ)} (s : Nat → σ) (n : Nat) {X : Option ρ} {s0 : σ} (h0 : s0 = s 0) (hs : ∀ i, i < n → f (s i) = some (.inl (s (i + 1)))) (hr : f (s n) = up1 X) : it f s0 = X := by
  rw [h0]
  refine it_seq s n hs ?_
  rw [it_eq, hr]
  cases X <;> rfl
section
variable {tg : Nat → List Nat} {h h1 h' : Hp} {m : Nat → Int32} {p q b w r x : Nat}
theorem RmV.rmw (V : RmV h r m) : RmW h r m := ⟨V.2.2.1, V.2.2.2.2.2.1, V.2.2.2.2.2.2.2.2.2.2.1⟩
theorem RmW.stm (V : RmW h r m) : StM m := fun y hy r hr => by
  obtain ⟨-, -, -, cd, ce, -, H⟩ := V.2.2 y hy
  obtain ⟨-, -, -, -, -, -, -, ok, dp, fr, q1, q2, q3, q4⟩ := H r hr
  exact ⟨cd r, ok, dp, fr, q1, q2, q3, q4⟩
theorem c_styleW (K : Rt tg h r x) (S : RmS h r) (V : RmW h r m) (B : MIb m) (t : Int32) : MX7_styleAt h r t = some (stC h r (stI m t (Nn m 2)), h) := by
  have hne : ∀ y, gP h (gP h r 2) y ≠ 0 → gP h r 4 ≠ gP h (gP h r 2) y := fun y hy => ne_t (tg := tg) (by
    rw [K.o hy, K.a S.2.2.2.2.2.2.2.2.2.2.2.2.2.2.1.1]
    simp)
  obtain ⟨-, -, ⟨b1, b2⟩, -⟩ := B.f
  unfold MX7_styleAt MX7_styleAt_7
  rw [gg_t S.1]
  simp only [ZL]
  refine it_seq2 (fun j => (stC h r (stI m t j), nI j, h)) (Nn m 2) rfl (fun j hj => ?_) ?_
  · show BX7_styleAt_7 h r t (stC h r (stI m t j)) (nI j) = _
    have hle := stI_le (m := m) (x := t) j
    have es : stI m t (j + 1) = if t < m (320962 + 562 * j) then stI m t j else if stI m t j = 0 then j + 1 else if m (320962 + 562 * j) < m (320962 + 562 * (stI m t j - 1)) then stI m t j else j + 1 := rfl
    rw [es]
    generalize stI m t j = w at hle
    obtain ⟨y0, y1⟩ := V.2.2 j hj
    have yS := S.2.2.2.2.2.2.2.2.2.2.2.2.2.2.2.2.2.1 j y0
    have e1 : stC h r (j + 1) = gP h (gP h r 2) j := by unfold stC; rw [if_neg (by omega), Nat.add_sub_cancel]
    have ow := c_ownStyle S (show j < 10 by omega) y0
    unfold BX7_styleAt_7
    rw [gg_t S.1, V.1, b1, if_neg (by rw [nLe (by omega) (by omega)]; omega), ow, b2_some, gg_t yS.1, y1.1]
    by_cases z1 : t < m (320962 + 562 * j)
    · rw [if_pos z1, if_pos z1, nI_1]
    · rw [if_neg z1, if_neg z1, gg_t S.1]
      by_cases z2 : w = 0
      · subst z2
        have e0 : stC h r 0 = gP h r 4 := rfl
        rw [e0, if_pos rfl, if_pos rfl, e1]
        unfold MX7_styleAt_51
        rw [nI_1]
      · have e0 : stC h r w = gP h (gP h r 2) (w - 1) := by unfold stC; rw [if_neg z2]
        obtain ⟨u0, u1⟩ := V.2.2 (w - 1) (by omega)
        have uS := S.2.2.2.2.2.2.2.2.2.2.2.2.2.2.2.2.2.1 (w - 1) u0
        rw [e0, if_neg (fun z => hne _ u0 z.symm), gg_t uS.1, u1.1, if_neg z2]
        by_cases z3 : m (320962 + 562 * j) < m (320962 + 562 * (w - 1))
        · rw [if_pos z3, if_pos z3, nI_1, e0]
        · rw [if_neg z3, if_neg z3, e1]
          unfold MX7_styleAt_51
          rw [nI_1]
  · show BX7_styleAt_7 h r t _ (nI (Nn m 2)) = _
    unfold BX7_styleAt_7
    simp (disch := omega) only [↓reduceIte, Nat.reduceLT, Nat.reduceLeDiff, Nat.reduceEqDiff, ZL, nAdd, nMul, nSub, nLt, nLe, nEq, nCl, nDiv, nRem2, nM1, nM2, nM3, nM4, nM5, nM6, gg_in, gg_rf, gg_T, if_true, if_false, ↓lt_eq, ob_some, b2_some, up1_some, kd_sI, ln_sI, gP_sI, gI_sI, kd_rI, ln_rI, gP_rI, gI_rI, kd_bmp, ln_bmp, gP_bmp, gI_bmp, up_at, i0, i1, S.1, V.1, b1]
theorem c_loadCopy (S : PtS h p) (V : PtV h p m q) (J : MIp m q) (B : MIb m) (hq : vP m q) (bS : BrS h b) (hw : kd h w = 20 ∧ ln h w = 54) (ew : ∀ i, i < 54 → gI h w i = m (16 + i)) (sp : ∀ c, (c = b ∨ c = gP h b 8 ∨ c = gP h b 9) → Nq p c ∧ Nq (gP h p 0) c ∧ Nq (gP h p 1) c ∧ Nq (gP h p 2) c ∧ Nq w c) (n1 : Nq b (gP h b 8)) (n2 : Nq b (gP h b 9)) (n3 : Nq (gP h b 8) (gP h b 9)) : ∃ h1, MX0_loadCopy h b p w = some h1 ∧ (Fr (fun c => c = b ∨ c = gP h b 8 ∨ c = gP h b 9) h h1 ∧ BrC h1 b m q ∧ (∀ j, j ≠ 6 → j ≠ 7 → gI h1 b j = gI h b j) ∧ gI h1 (gP h b 8) 0 = nI 0 ∧ gI h1 (gP h b 9) 0 = nI 0) := by
  obtain ⟨j1, j2, j3⟩ := J.n
  obtain ⟨f1, f2⟩ := fc_v B hq
  have s0 := S.1
  obtain ⟨s1, s1k, s1l⟩ := S.2.1
  obtain ⟨s2, s2k, s2l⟩ := S.2.2.1
  obtain ⟨s3, s3k, s3l⟩ := S.2.2.2.1
  have bg := PtV.bg S V J
  obtain ⟨v5, -, v7, -⟩ := id V
  obtain ⟨k0, ⟨-, k8, l8⟩, ⟨-, k9, l9⟩, -, -, -, -, z8, z9⟩ := bS
  have keep : ∀ {g : Hp}, Fr (fun c => c = b ∨ c = gP h b 8 ∨ c = gP h b 9) h g → gI g p = gI h p ∧ gI g (gP h p 0) = gI h (gP h p 0) ∧ gI g (gP h p 1) = gI h (gP h p 1) ∧ gI g (gP h p 2) = gI h (gP h p 2) ∧ gI g w = gI h w := fun G => ⟨G.2.2.2.2.2.2 _ (fun z => (sp _ z).1.n rfl), G.2.2.2.2.2.2 _ (fun z => (sp _ z).2.1.n rfl), G.2.2.2.2.2.2 _ (fun z => (sp _ z).2.2.1.n rfl), G.2.2.2.2.2.2 _ (fun z => (sp _ z).2.2.2.1.n rfl), G.2.2.2.2.2.2 _ (fun z => (sp _ z).2.2.2.2.n rfl)⟩
  obtain ⟨N, hN⟩ : ∃ N, N = nP m q := ⟨_, rfl⟩
  obtain ⟨f, hf⟩ : ∃ f, f = Nn m (70 + q / 5) := ⟨_, rfl⟩
  have hyv := wd_v B (f := f) (c := 26) (by omega) (by omega)
  have ehy : hyN m q = Nn m (16 + 27 * f + 26) := by unfold hyN; rw [hf]
  have e0 : MX0_loadCopy h b p w = MX0_loadCopy_31 (sI (sI h b 6 (nI N)) b 7 (nI (hyN m q))) b p w (nI (27 * f)) (nI 0) := by
    unfold MX0_loadCopy
    have hw6 : MX0_widthOf (sI h b 6 (nI N)) w (nI (27 * f + 26)) = some (nI (hyN m q)) := by
      rw [c_widthOf (h := sI h b 6 (nI N)) hw.1 hw.2 (by omega), gI_sI, if_neg (sp b (Or.inl rfl)).2.2.2.2.n, ew _ (by omega), ehy, ← hyv.1]
      exact congrArg (fun z => some (m z)) (by omega)
    have v7' : gI h p 7 = nI f := by rw [v7, f1, hf]
    have v5' : gI h p 5 = nI N := by rw [v5, j1, hN]
    simp (disch := omega) only [ZL, nAdd, nMul, nSub, nLt, nLe, nEq, nCl, nDiv, nRem2, s0, k0, gg_rf, gg_T, ↓lt_eq, v5', v7', hw6, ob_some, Nat.mul_comm f 27]
  rw [e0]
  unfold MX0_loadCopy_31
  obtain ⟨g0, hg0⟩ : ∃ g, g = sI (sI h b 6 (nI N)) b 7 (nI (hyN m q)) := ⟨_, rfl⟩
  rw [← hg0]
  have G0 : Fr (fun c => c = b ∨ c = gP h b 8 ∨ c = gP h b 9) h g0 := by
    rw [hg0]
    exact (Fr.sI (Or.inl rfl)).trans (Fr.sI (Or.inl rfl))
  have b0 : gI g0 b 6 = nI N ∧ gI g0 b 7 = nI (hyN m q) ∧ ∀ j, j ≠ 6 → j ≠ 7 → gI g0 b j = gI h b j := by
    rw [hg0]
    refine ⟨?_, ?_, fun j h6 h7 => ?_⟩
    · rw [gI_sI, if_pos rfl, up_at, if_neg (by omega), gIl]
    · rw [gIl]
    · rw [gI_sI, if_pos rfl, up_at, if_neg h7, gI_sI, if_pos rfl, up_at, if_neg h6]
  have g08 : gI g0 (gP h b 8) = gI h (gP h b 8) := by rw [hg0, gI_sI, if_neg n1.symm.n, gI_sI, if_neg n1.symm.n]
  have g09 : gI g0 (gP h b 9) = gI h (gP h b 9) := by rw [hg0, gI_sI, if_neg n2.symm.n, gI_sI, if_neg n2.symm.n]
  have w0 : weN m q 0 = 0 := by
    unfold weN
    rw [if_neg (by omega)]
    exact J.2.2.2.2.2.2.2.1
  refine it_cnt (fun k s => s.1 = nI k ∧ Fr (fun c => c = b ∨ c = gP h b 8 ∨ c = gP h b 9) h s.2 ∧ (gI s.2 b 6 = nI N ∧ gI s.2 b 7 = nI (hyN m q) ∧ ∀ j, j ≠ 6 → j ≠ 7 → gI s.2 b j = gI h b j) ∧ ∀ k', k' ≤ k → gI s.2 (gP h b 8) k' = nI (wpN m q k') ∧ gI s.2 (gP h b 9) k' = nI (weN m q k')) N (fun k s hk pp => ?_) (fun s pp => ?_) ⟨rfl, G0, b0, fun k' hk' => ?_⟩
  · obtain ⟨a, g⟩ := s
    obtain ⟨p1, G, p3, p4⟩ := pp
    have p1 : a = nI k := p1
    have G : Fr (fun c => c = b ∨ c = gP h b 8 ∨ c = gP h b 9) h g := G
    have p3 : gI g b 6 = nI N ∧ gI g b 7 = nI (hyN m q) ∧ ∀ j, j ≠ 6 → j ≠ 7 → gI g b j = gI h b j := p3
    have p4 : ∀ k', k' ≤ k → gI g (gP h b 8) k' = nI (wpN m q k') ∧ gI g (gP h b 9) k' = nI (weN m q k') := p4
    subst p1
    obtain ⟨q0, q1, q2, q3, q4⟩ := keep G
    have ek := G.1
    have el := G.2.1
    have ep := G.2.2.1
    obtain ⟨a1, a2, a3, a4, a5, a6⟩ := J.bt (k := k) (by omega)
    have wl := wp_le B J (by omega) k (by omega)
    have lsb := ls_le J k (by omega)
    have lsb1 := ls_le J (k + 1) (by omega)
    have els : lsN m q (k + 1) = lsN m q k + Nn m (130 + 645 * q + 125 + k) := rfl
    have wi := fun i hi => wl_le B J (by omega) (k := k) (by omega) i hi
    obtain ⟨u1, u2⟩ := p4 k (Nat.le_refl k)
    have eb1 : gI g (gP h p 1) (k + 1) = nI (lsN m q (k + 1)) := by rw [q2, bg (k + 1) (by omega)]
    have eb0 : gI g (gP h p 1) k = nI (lsN m q k) := by rw [q2, bg k (by omega)]
    -- the letters of the piece
    have inner : MX0_loadCopy_58 g b p w (nI (27 * f)) (nI k) (nI (wpN m q k)) (nI (lsN m q k)) = MX0_loadCopy_96 g b p w (nI (27 * f)) (nI k) (nI (wpN m q (k + 1))) := by
      unfold MX0_loadCopy_58
      refine it_k (fun i => (nI (wpN m q k + wlN m q k i), nI (lsN m q k + i))) (Nn m (130 + 645 * q + 125 + k)) rfl (fun i hi => ?_) ?_
      · show BX0_loadCopy_58 g b p w (nI (27 * f)) (nI k) (nI (wpN m q k + wlN m q k i)) (nI (lsN m q k + i)) = _
        have lt := PtV.lt S V J (k := k) (i := i) (by omega) hi
        have c25 := (a6 i hi).2
        have wv := wd_v B (f := f) (c := Nn m (130 + 645 * q + 165 + 12 * k + i)) (by omega) (by omega)
        have hwd : MX0_widthOf g w (nI (27 * f + Nn m (130 + 645 * q + 165 + 12 * k + i))) = some (nI (Nn m (16 + 27 * f + Nn m (130 + 645 * q + 165 + 12 * k + i)))) := by
          rw [c_widthOf (by rw [ek]; exact hw.1) (by rw [el]; exact hw.2) (by omega), q4, ew _ (by omega), ← wv.1]
          exact congrArg (fun z => some (m z)) (by omega)
        have ew1 : wlN m q k (i + 1) = wlN m q k i + Nn m (16 + 27 * f + Nn m (130 + 645 * q + 165 + 12 * k + i)) := by rw [hf]; rfl
        rw [ew1, ← Nat.add_assoc, ← Nat.add_assoc]
        have lt2 : gI g (gP h p 0) (lsN m q k + i) = nI (Nn m (130 + 645 * q + 165 + 12 * k + i)) := by rw [q1]; exact lt
        have g58 : gg (inB (nI (lsN m q k + i)) (ln g (gP g p 0)) = true) = (fun x : Option ((Int32 × Int32) ⊕ ((Int32 × Hp) ⊕ Hp)) => x) := funext fun x => by rw [ep, el, s1l]; exact gg_in (by omega) (by omega)
        unfold BX0_loadCopy_58
        rw [ek, ep, el, gg_t s0, gg_t s2k, s2l]
        simp only [ZL]
        rw [nAdd k 1, gg_in (by omega) (by omega), nCl (by omega), eb1, if_neg (nI_ge (by omega) (by omega)), gg_t s1k, s1l, gg_in (by omega) (by omega), nCl (by omega), lt2, nAdd, hwd, ob_some, nAdd, nAdd]
      · show BX0_loadCopy_58 g b p w (nI (27 * f)) (nI k) (nI (wpN m q k + wlN m q k (Nn m (130 + 645 * q + 125 + k)))) (nI (lsN m q k + Nn m (130 + 645 * q + 125 + k))) = _
        unfold BX0_loadCopy_58
        rw [ek, ep, el, gg_t s0, gg_t s2k, s2l]
        simp only [ZL]
        rw [nAdd k 1, gg_in (by omega) (by omega), nCl (by omega), eb1, if_pos (nI_le (by omega) (by omega))]
        rfl
    have cl : (ewN m q k → gI g (gP h p 2) k = nI 1) ∧ (¬ ewN m q k → gI g (gP h p 2) k = nI 0) := by
      rw [q3]
      obtain ⟨-, -, -, -, -, -, a7, -⟩ := V
      rw [(a7 k (by show k < nP m q; omega)).2.1]
      exact ⟨fun z => if_pos z, fun z => if_neg z⟩
    obtain ⟨e1, e2, -⟩ := we_s J (k := k) (by omega)
    have wek : weN m q k ≤ 23 := by rw [(we_s J (k := k) (by omega)).2.2]; exact a2
    have t137 : ∀ c : Nat, c ≤ 1 → MX0_loadCopy_137 (sI g (gP h b 8) (k + 1) (nI (wpN m q (k + 1)))) b p w (nI (27 * f)) (nI k) (gP h b 9) (nI (k + 1)) (nI (weN m q k)) (nI c) = some (.inl (nI (k + 1), sI (sI g (gP h b 8) (k + 1) (nI (wpN m q (k + 1)))) (gP h b 9) (k + 1) (nI (weN m q k + c)))) := fun c hc => by
      unfold MX0_loadCopy_137
      rw [kd_sI, ln_sI, ek, el, gg_t k9, l9, gg_in (by omega) (by omega), nCl (by omega), lt_eq, nAdd]
      simp only [ZL]
      rw [nAdd]
    have wr : MX0_loadCopy_96 g b p w (nI (27 * f)) (nI k) (nI (wpN m q (k + 1))) = some (.inl (nI (k + 1), sI (sI g (gP h b 8) (k + 1) (nI (wpN m q (k + 1)))) (gP h b 9) (k + 1) (nI (weN m q (k + 1))))) := by
      unfold MX0_loadCopy_96
      rw [ek, ep, el, gg_t k0, gg_t k8, l8]
      simp only [ZL]
      rw [nAdd k 1, gg_in (by omega) (by omega), nCl (by omega), lt_eq, gg_t k9, l9, gg_in (by omega) (by omega), gg_t s0, gg_t s3k, s3l, gg_in (by omega) (by omega), nCl (by omega), gI_sI, if_neg (sp (gP h b 8) (Or.inr (Or.inl rfl))).2.2.2.1.n, gI_sI, if_neg n3.symm.n, u2]
      by_cases z : ewN m q k
      · rw [cl.1 z, if_neg (by rw [n10]; exact id), t137 1 (by omega), e1 z]
      · rw [cl.2 z, if_pos rfl, t137 0 (by omega), e2 z]
        rfl
    refine ⟨(nI (k + 1), sI (sI g (gP h b 8) (k + 1) (nI (wpN m q (k + 1)))) (gP h b 9) (k + 1) (nI (weN m q (k + 1)))), ?_, rfl, (G.trans (Fr.sI (Or.inr (Or.inl rfl)))).trans (Fr.sI (Or.inr (Or.inr rfl))), ?_, fun k' hk' => ?_⟩
    · show BX0_loadCopy_31 g b p w (nI (27 * f)) (nI k) = _
      unfold BX0_loadCopy_31
      rw [ek, ep, el, gg_t k0, p3.1, if_neg (nI_ge (by omega) (by omega)), gg_t k8, l8, gg_in (by omega) (by omega), gg_t s0, gg_t s2k, s2l, gg_in (by omega) (by omega), nCl (by omega), u1, eb0, inner, wr]
    · show gI (sI (sI g (gP h b 8) (k + 1) _) (gP h b 9) (k + 1) _) b 6 = nI N ∧ gI (sI (sI g (gP h b 8) (k + 1) _) (gP h b 9) (k + 1) _) b 7 = nI (hyN m q) ∧ ∀ j, j ≠ 6 → j ≠ 7 → gI (sI (sI g (gP h b 8) (k + 1) _) (gP h b 9) (k + 1) _) b j = gI h b j
      rw [gI_sI, if_neg n2.n, gI_sI, if_neg n1.n]
      exact p3
    · show gI (sI (sI g (gP h b 8) (k + 1) _) (gP h b 9) (k + 1) _) (gP h b 8) k' = _ ∧ gI (sI (sI g (gP h b 8) (k + 1) _) (gP h b 9) (k + 1) _) (gP h b 9) k' = _
      rw [gI_sI, if_neg n3.n, gI_sI, if_pos rfl, up_at, gI_sI, if_pos rfl, up_at, gI_sI, if_neg n3.symm.n]
      by_cases z : k' = k + 1
      · rw [if_pos z, if_pos z, z]; exact ⟨rfl, rfl⟩
      · rw [if_neg z, if_neg z]; exact p4 k' (by omega)
  · obtain ⟨a, g⟩ := s
    obtain ⟨p1, G, p3, p4⟩ := pp
    have p1 : a = nI N := p1
    have G : Fr (fun c => c = b ∨ c = gP h b 8 ∨ c = gP h b 9) h g := G
    have p3 : gI g b 6 = nI N ∧ gI g b 7 = nI (hyN m q) ∧ ∀ j, j ≠ 6 → j ≠ 7 → gI g b j = gI h b j := p3
    have p4 : ∀ k', k' ≤ N → gI g (gP h b 8) k' = nI (wpN m q k') ∧ gI g (gP h b 9) k' = nI (weN m q k') := p4
    subst p1
    have z := p4 0 (by omega)
    refine ⟨g, ?_, G, ⟨by rw [p3.1, hN], p3.2.1, fun k hk => ?_⟩, p3.2.2, z.1, by rw [z.2, w0]⟩
    · show BX0_loadCopy_31 g b p w (nI (27 * f)) (nI N) = _
      unfold BX0_loadCopy_31
      rw [G.1, gg_t k0, p3.1, if_pos (nI_le (by omega) (by omega))]
    · rw [G.2.2.1]
      exact p4 k (by omega)
  · have hk' : k' = 0 := by omega
    subst hk'
    show gI g0 (gP h b 8) 0 = _ ∧ gI g0 (gP h b 9) 0 = _
    rw [g08, g09, w0]
    exact ⟨z8, z9⟩
/-- p's cells are none of r's scratch -/
def Pa (tg : Nat → List Nat) (h : Hp) (p x : Nat) : Prop := ¬ scT x (tg p) ∧ ∀ k, k ≤ 4 → ¬ scT x (tg (gP h p k))
theorem Pa.rm (K : Rt tg h r x) (P : PtS h (gP h (gP h r 5) q)) (z : gP h (gP h r 5) q ≠ 0) : Pa tg h (gP h (gP h r 5) q) x := by
  refine ⟨by rw [K.o z]; simp [scT], fun k hk => ?_⟩
  have : gP h (gP h (gP h r 5) q) k ≠ 0 := by
    rcases (show k = 0 ∨ k = 1 ∨ k = 2 ∨ k = 3 ∨ k = 4 by omega) with rfl | rfl | rfl | rfl | rfl
    · exact P.2.1.1
    · exact P.2.2.1.1
    · exact P.2.2.2.1.1
    · exact P.2.2.2.2.1.1
    · exact P.2.2.2.2.2.1.1
  rw [K.q this]
  simp [scT]
end
