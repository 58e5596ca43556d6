/-! correct: of a part's copy alone, its flags and lines left out -/
def MIx (m : Nat → Int32) (q : Nat) : Prop := oN m (130 + 645 * q) 24 ∧ oN m (130 + 645 * q + 1) 40 ∧ 1 ≤ Nn m (130 + 645 * q + 1) ∧ True ∧ True ∧ True ∧
  (∀ b, b < Nn m (130 + 645 * q + 1) → oN m (130 + 645 * q + 85 + b) 23 ∧ oN m (130 + 645 * q + 125 + b) 12 ∧ 1 ≤ Nn m (130 + 645 * q + 125 + b) ∧ ∀ i, i < Nn m (130 + 645 * q + 125 + b) → oN m (130 + 645 * q + 165 + 12 * b + i) 25) ∧
  Nn m (130 + 645 * q + 85) = 0 ∧ (∀ b, b + 1 < Nn m (130 + 645 * q + 1) → Nn m (130 + 645 * q + 85 + (b + 1)) = Nn m (130 + 645 * q + 85 + b) ∨ Nn m (130 + 645 * q + 85 + (b + 1)) = Nn m (130 + 645 * q + 85 + b) + 1) ∧ Nn m (130 + 645 * q + 85 + (Nn m (130 + 645 * q + 1) - 1)) + 1 = Nn m (130 + 645 * q) ∧ True ∧ True
def PtX (h : Hp) (p : Nat) (m : Nat → Int32) (q : Nat) : Prop := gI h p 5 = m (130 + 645 * q + 1) ∧ gI h p 6 = m (130 + 645 * q) ∧ gI h p 7 = m (70 + q / 5) ∧ gI h p 8 = m (90 + q / 5) ∧ True ∧ True ∧
  (∀ b, b < Nn m (130 + 645 * q + 1) → gI h (gP h p 1) (b + 1) = gI h (gP h p 1) b + m (130 + 645 * q + 125 + b) ∧ gI h (gP h p 2) b = (if b + 1 = Nn m (130 + 645 * q + 1) ∨ m (130 + 645 * q + 85 + b) ≠ m (130 + 645 * q + 85 + (b + 1)) then nI 1 else nI 0) ∧
    ∀ i, i < Nn m (130 + 645 * q + 125 + b) → gI h (gP h p 0) ((gI h (gP h p 1) b).toNatClampNeg + i) = m (130 + 645 * q + 165 + 12 * b + i)) ∧ True ∧ True
/-! out of 88.x -/
section
variable {h h1 h' : Hp} {r p q : Nat} {m : Nat → Int32}
theorem c_factsX (S : RmS h r) (PS : PtS h p) (V : PtX h p m q) (t : Int32) (n1 : Nq r (gP h r 15)) (n2 : Nq p (gP h r 15)) : ∃ h1, MX7_factsOfPart h r p t = some h1 ∧ (Fr (fun b => b = gP h r 15) h h1 ∧ ∀ j, j < 9 → gI h1 (gP h r 15) j = fcP m q t j) := by
  have s1 := S.1
  obtain ⟨x0, x1, x2⟩ := S.2.2.2.2.2.2.2.2.2.1
  have p1 := PS.1
  obtain ⟨v5, v6, v7, v8, -⟩ := V
  have e1 := eq_false n1.n
  have e2 := eq_false n2.n
  have W : ∀ a b : Int32, (if m (70 + q / 5) = nI 1 then nI 1 else nI 0) = a → (if t ≤ m (90 + q / 5) then nI 0 else nI 1) = b → ∃ h1, MX7_factsOfPart_37 (sI h (gP h r 15) 0 a) r p t (gP h r 15) (nI 1) b = some h1 ∧ (Fr (fun b => b = gP h r 15) h h1 ∧ ∀ j, j < 9 → gI h1 (gP h r 15) j = fcP m q t j) := fun a b ha hb => by
    refine ⟨sI (sI (sI (sI (sI (sI (sI (sI (sI h (gP h r 15) 0 a) (gP h r 15) 1 b) (gP h r 15) 2 (nI 0)) (gP h r 15) 3 (m (130 + 645 * q))) (gP h r 15) 4 (m (130 + 645 * q + 1))) (gP h r 15) 5 (m (90 + q / 5))) (gP h r 15) 6 t) (gP h r 15) 7 (nI 0)) (gP h r 15) 8 (nI 99), ?_, ?_, fun j hj => ?_⟩
    · simp (disch := omega) only [MX7_factsOfPart_37, ↓reduceIte, Nat.reduceLT, Nat.reduceLeDiff, Nat.reduceEqDiff, ZL, nAdd, nMul, nSub, nLt, nLe, nEq, nCl, nDiv, nRem2, nM1, nM2, nM3, nM4, nM5, nM6, gg_in, gg_rf, gg_T, if_true, if_false, ↓lt_eq, ob_some, b2_some, up1_some, kd_sI, ln_sI, gP_sI, gI_sI, kd_rI, ln_rI, gP_rI, gI_rI, kd_bmp, ln_bmp, gP_bmp, gI_bmp, up_at, i0, i1, s1, x1, x2, p1, e1, e2, v5, v6, v7, v8]
    · exact frs (frs (frs (frs (frs (frs (frs (frs (frs Fr.rfl))))))))
    · unfold fcP
      rw [ha, hb]
      simp only [gI_sI, if_true, up_at]
      rcases d9 hj with rfl | rfl | rfl | rfl | rfl | rfl | rfl | rfl | rfl <;> rfl
  unfold MX7_factsOfPart
  rw [gg_t s1, gg_t p1, v7]
  have K : ∀ a : Int32, (if m (70 + q / 5) = nI 1 then nI 1 else nI 0) = a → ∃ h1, MX7_factsOfPart_18 h r p t (gP h r 15) (nI 0) a = some h1 ∧ (Fr (fun b => b = gP h r 15) h h1 ∧ ∀ j, j < 9 → gI h1 (gP h r 15) j = fcP m q t j) := fun a ha => by
    by_cases z : t ≤ m (90 + q / 5)
    · have := W a (nI 0) ha (if_pos z)
      simp (disch := omega) only [MX7_factsOfPart_18, ↓reduceIte, Nat.reduceLT, Nat.reduceLeDiff, Nat.reduceEqDiff, ZL, nAdd, nMul, nSub, nLt, nLe, nEq, nCl, nDiv, nRem2, nM1, nM2, nM3, nM4, nM5, nM6, gg_in, gg_rf, gg_T, if_true, if_false, ↓lt_eq, ob_some, b2_some, up1_some, kd_sI, ln_sI, gP_sI, gI_sI, kd_rI, ln_rI, gP_rI, gI_rI, kd_bmp, ln_bmp, gP_bmp, gI_bmp, up_at, i0, i1, s1, x1, x2, p1, e1, e2, v8, z]
      exact this
    · have := W a (nI 1) ha (if_neg z)
      simp (disch := omega) only [MX7_factsOfPart_18, ↓reduceIte, Nat.reduceLT, Nat.reduceLeDiff, Nat.reduceEqDiff, ZL, nAdd, nMul, nSub, nLt, nLe, nEq, nCl, nDiv, nRem2, nM1, nM2, nM3, nM4, nM5, nM6, gg_in, gg_rf, gg_T, if_true, if_false, ↓lt_eq, ob_some, b2_some, up1_some, kd_sI, ln_sI, gP_sI, gI_sI, kd_rI, ln_rI, gP_rI, gI_rI, kd_bmp, ln_bmp, gP_bmp, gI_bmp, up_at, i0, i1, s1, x1, x2, p1, e1, e2, v8, z]
      exact this
  by_cases z : m (70 + q / 5) = nI 1
  · have := K (nI 1) (if_pos z)
    rw [show (1 : Int32) = nI 1 from rfl, if_pos z]
    exact this
  · have := K (nI 0) (if_neg z)
    rw [show (1 : Int32) = nI 1 from rfl, if_neg z]
    exact this
end
/-! out of 91.a -/
section
variable {h h1 h' : Hp} {m : Nat → Int32} {p q b w : Nat}
theorem MIx.n (J : MIx m q) : m (130 + 645 * q + 1) = nI (nP m q) ∧ nP m q ≤ 40 ∧ 1 ≤ nP m q := ⟨(J.2.1.eq (by omega)).1, (J.2.1.eq (by omega)).2, J.2.2.1⟩
theorem MIx.bt (J : MIx m q) {k : Nat} (hk : k < nP m q) : m (130 + 645 * q + 85 + k) = nI (wkN m q k) ∧ wkN m q k ≤ 23 ∧ m (130 + 645 * q + 125 + k) = nI (Nn m (130 + 645 * q + 125 + k)) ∧ Nn m (130 + 645 * q + 125 + k) ≤ 12 ∧ 1 ≤ Nn m (130 + 645 * q + 125 + k) ∧ ∀ i, i < Nn m (130 + 645 * q + 125 + k) → m (130 + 645 * q + 165 + 12 * k + i) = nI (Nn m (130 + 645 * q + 165 + 12 * k + i)) ∧ Nn m (130 + 645 * q + 165 + 12 * k + i) ≤ 25 := by
  obtain ⟨-, -, -, -, -, -, ob, -⟩ := J
  obtain ⟨b1, b2, b3, b4⟩ := ob k hk
  obtain ⟨c1, c2⟩ := b1.eq (by omega)
  obtain ⟨d1, d2⟩ := b2.eq (by omega)
  exact ⟨c1, c2, d1, d2, b3, fun i hi => (b4 i hi).eq (by omega)⟩
theorem wl_leX (B : MIb m) (J : MIx m q) (hf : Nn m (70 + q / 5) ≤ 1) {k : Nat} (hk : k < nP m q) : ∀ i, i ≤ Nn m (130 + 645 * q + 125 + k) → wlN m q k i ≤ 20 * i ∧ i ≤ wlN m q k i
  | 0, _ => ⟨Nat.le_refl _, Nat.le_refl _⟩
  | i + 1, hi => by
    have ih := wl_leX B J hf hk i (by omega)
    have c := ((J.bt hk).2.2.2.2.2 i (by omega)).2
    have d := (wd_v B hf (show Nn m (130 + 645 * q + 165 + 12 * k + i) ≤ 26 by omega)).2
    unfold wlN
    omega
theorem wp_leX (B : MIb m) (J : MIx m q) (hf : Nn m (70 + q / 5) ≤ 1) : ∀ k, k ≤ nP m q → wpN m q k ≤ 240 * k ∧ lsN m q k ≤ wpN m q k
  | 0, _ => ⟨Nat.le_refl _, Nat.le_refl _⟩
  | k + 1, hk => by
    have ih := wp_leX B J hf k (by omega)
    obtain ⟨-, -, -, l1, l2, -⟩ := J.bt (k := k) (by omega)
    have c := wl_leX B J hf (k := k) (by omega) _ (Nat.le_refl _)
    unfold wpN lsN
    omega
theorem ls_leX (J : MIx m q) : ∀ k, k ≤ nP m q → lsN m q k ≤ 12 * k
  | 0, _ => Nat.le_refl _
  | k + 1, hk => by
    have ih := ls_leX J k (by omega)
    obtain ⟨-, -, -, l1, -⟩ := J.bt (k := k) (by omega)
    unfold lsN
    omega
theorem PtX.bg (S : PtS h p) (V : PtX h p m q) (J : MIx m q) : ∀ k, k ≤ nP m q → gI h (gP h p 1) k = nI (lsN m q k)
  | 0, _ => S.2.2.2.2.2.2.1
  | k + 1, hk => by
    have ih := PtX.bg S V J k (by omega)
    obtain ⟨-, -, -, -, -, -, a7, -⟩ := V
    obtain ⟨c1, -⟩ := a7 k (by show k < nP m q; omega)
    rw [c1, ih, (J.bt (k := k) (by omega)).2.2.1, nAdd]
    rfl
theorem PtX.lt (S : PtS h p) (V : PtX h p m q) (J : MIx m q) {k i : Nat} (hk : k < nP m q) (hi : i < Nn m (130 + 645 * q + 125 + k)) : gI h (gP h p 0) (lsN m q k + i) = nI (Nn m (130 + 645 * q + 165 + 12 * k + i)) := by
  have e := PtX.bg S V J k (by omega)
  have l := ls_leX J k (by omega)
  obtain ⟨-, -, -, -, -, -, a7, -⟩ := V
  obtain ⟨-, -, c3⟩ := a7 k hk
  have := c3 i hi
  have n40 := J.n.2.1
  rw [e, nCl (by omega), ((J.bt hk).2.2.2.2.2 i hi).1] at this
  exact this
theorem we_sX (J : MIx m q) {k : Nat} (hk : k < nP m q) : (ewN m q k → weN m q (k + 1) = weN m q k + 1) ∧ (¬ ewN m q k → weN m q (k + 1) = weN m q k) ∧ weN m q k = wkN m q k := by
  obtain ⟨n1, n2, n3⟩ := J.n
  have ek : weN m q k = wkN m q k := by unfold weN; rw [if_neg (by omega)]
  obtain ⟨-, -, -, -, -, -, -, -, ow1, -⟩ := id J
  refine ⟨fun z => ?_, fun z => ?_, ek⟩
  · rw [ek]
    unfold weN
    by_cases z1 : k + 1 = nP m q
    · rw [if_pos z1]; rfl
    · rw [if_neg z1]
      rcases z with z | z
      · exact absurd z z1
      · rcases ow1 k (by show k + 1 < nP m q; omega) with q1 | q1
        · rw [(J.bt (k := k) (by omega)).1, (J.bt (k := k + 1) (by omega)).1] at z
          exact absurd (congrArg nI q1.symm) z
        · exact q1
  · rw [ek]
    have z1 : ¬ k + 1 = nP m q := fun q => z (Or.inl q)
    unfold weN
    rw [if_neg z1]
    have z2 : m (130 + 645 * q + 85 + k) = m (130 + 645 * q + 85 + (k + 1)) := Classical.byContradiction fun q => z (Or.inr q)
    exact congrArg Int32.toNatClampNeg z2.symm
end
/-! out of 92.b -/
section
variable {tg : Nat → List Nat} {h h1 h' : Hp} {m : Nat → Int32} {p q b w r x : Nat}
theorem c_loadCopyX (S : PtS h p) (V : PtX h p m q) (J : MIx m q) (B : MIb m) (hq : vP m q) (bS : BrS h b) (hw : kd h w = 20 ∧ ln h w = 54) (ew : ∀ i, i < 54 → gI h w i = m (16 + i)) (sp : ∀ c, (c = b ∨ c = gP h b 8 ∨ c = gP h b 9) → Nq p c ∧ Nq (gP h p 0) c ∧ Nq (gP h p 1) c ∧ Nq (gP h p 2) c ∧ Nq w c) (n1 : Nq b (gP h b 8)) (n2 : Nq b (gP h b 9)) (n3 : Nq (gP h b 8) (gP h b 9)) : ∃ h1, MX0_loadCopy h b p w = some h1 ∧ (Fr (fun c => c = b ∨ c = gP h b 8 ∨ c = gP h b 9) h h1 ∧ BrC h1 b m q ∧ (∀ j, j ≠ 6 → j ≠ 7 → gI h1 b j = gI h b j) ∧ gI h1 (gP h b 8) 0 = nI 0 ∧ gI h1 (gP h b 9) 0 = nI 0) := by
  obtain ⟨j1, j2, j3⟩ := J.n
  obtain ⟨f1, f2⟩ := fc_v B hq
  have s0 := S.1
  obtain ⟨s1, s1k, s1l⟩ := S.2.1
  obtain ⟨s2, s2k, s2l⟩ := S.2.2.1
  obtain ⟨s3, s3k, s3l⟩ := S.2.2.2.1
  have bg := PtX.bg S V J
  obtain ⟨v5, -, v7, -⟩ := id V
  obtain ⟨k0, ⟨-, k8, l8⟩, ⟨-, k9, l9⟩, -, -, -, -, z8, z9⟩ := bS
  have keep : ∀ {g : Hp}, Fr (fun c => c = b ∨ c = gP h b 8 ∨ c = gP h b 9) h g → gI g p = gI h p ∧ gI g (gP h p 0) = gI h (gP h p 0) ∧ gI g (gP h p 1) = gI h (gP h p 1) ∧ gI g (gP h p 2) = gI h (gP h p 2) ∧ gI g w = gI h w := fun G => ⟨G.2.2.2.2.2.2 _ (fun z => (sp _ z).1.n rfl), G.2.2.2.2.2.2 _ (fun z => (sp _ z).2.1.n rfl), G.2.2.2.2.2.2 _ (fun z => (sp _ z).2.2.1.n rfl), G.2.2.2.2.2.2 _ (fun z => (sp _ z).2.2.2.1.n rfl), G.2.2.2.2.2.2 _ (fun z => (sp _ z).2.2.2.2.n rfl)⟩
  obtain ⟨N, hN⟩ : ∃ N, N = nP m q := ⟨_, rfl⟩
  obtain ⟨f, hf⟩ : ∃ f, f = Nn m (70 + q / 5) := ⟨_, rfl⟩
  have hyv := wd_v B (f := f) (c := 26) (by omega) (by omega)
  have ehy : hyN m q = Nn m (16 + 27 * f + 26) := by unfold hyN; rw [hf]
  have e0 : MX0_loadCopy h b p w = MX0_loadCopy_31 (sI (sI h b 6 (nI N)) b 7 (nI (hyN m q))) b p w (nI (27 * f)) (nI 0) := by
    unfold MX0_loadCopy
    have hw6 : MX0_widthOf (sI h b 6 (nI N)) w (nI (27 * f + 26)) = some (nI (hyN m q)) := by
      rw [c_widthOf (h := sI h b 6 (nI N)) hw.1 hw.2 (by omega), gI_sI, if_neg (sp b (Or.inl rfl)).2.2.2.2.n, ew _ (by omega), ehy, ← hyv.1]
      exact congrArg (fun z => some (m z)) (by omega)
    have v7' : gI h p 7 = nI f := by rw [v7, f1, hf]
    have v5' : gI h p 5 = nI N := by rw [v5, j1, hN]
    simp (disch := omega) only [ZL, nAdd, nMul, nSub, nLt, nLe, nEq, nCl, nDiv, nRem2, s0, k0, gg_rf, gg_T, ↓lt_eq, v5', v7', hw6, ob_some, Nat.mul_comm f 27]
  rw [e0]
  unfold MX0_loadCopy_31
  obtain ⟨g0, hg0⟩ : ∃ g, g = sI (sI h b 6 (nI N)) b 7 (nI (hyN m q)) := ⟨_, rfl⟩
  rw [← hg0]
  have G0 : Fr (fun c => c = b ∨ c = gP h b 8 ∨ c = gP h b 9) h g0 := by
    rw [hg0]
    exact (Fr.sI (Or.inl rfl)).trans (Fr.sI (Or.inl rfl))
  have b0 : gI g0 b 6 = nI N ∧ gI g0 b 7 = nI (hyN m q) ∧ ∀ j, j ≠ 6 → j ≠ 7 → gI g0 b j = gI h b j := by
    rw [hg0]
    refine ⟨?_, ?_, fun j h6 h7 => ?_⟩
    · rw [gI_sI, if_pos rfl, up_at, if_neg (by omega), gIl]
    · rw [gIl]
    · rw [gI_sI, if_pos rfl, up_at, if_neg h7, gI_sI, if_pos rfl, up_at, if_neg h6]
  have g08 : gI g0 (gP h b 8) = gI h (gP h b 8) := by rw [hg0, gI_sI, if_neg n1.symm.n, gI_sI, if_neg n1.symm.n]
  have g09 : gI g0 (gP h b 9) = gI h (gP h b 9) := by rw [hg0, gI_sI, if_neg n2.symm.n, gI_sI, if_neg n2.symm.n]
  have w0 : weN m q 0 = 0 := by
    unfold weN
    rw [if_neg (by omega)]
    exact J.2.2.2.2.2.2.2.1
  refine it_cnt (fun k s => s.1 = nI k ∧ Fr (fun c => c = b ∨ c = gP h b 8 ∨ c = gP h b 9) h s.2 ∧ (gI s.2 b 6 = nI N ∧ gI s.2 b 7 = nI (hyN m q) ∧ ∀ j, j ≠ 6 → j ≠ 7 → gI s.2 b j = gI h b j) ∧ ∀ k', k' ≤ k → gI s.2 (gP h b 8) k' = nI (wpN m q k') ∧ gI s.2 (gP h b 9) k' = nI (weN m q k')) N (fun k s hk pp => ?_) (fun s pp => ?_) ⟨rfl, G0, b0, fun k' hk' => ?_⟩
  · obtain ⟨a, g⟩ := s
    obtain ⟨p1, G, p3, p4⟩ := pp
    have p1 : a = nI k := p1
    have G : Fr (fun c => c = b ∨ c = gP h b 8 ∨ c = gP h b 9) h g := G
    have p3 : gI g b 6 = nI N ∧ gI g b 7 = nI (hyN m q) ∧ ∀ j, j ≠ 6 → j ≠ 7 → gI g b j = gI h b j := p3
    have p4 : ∀ k', k' ≤ k → gI g (gP h b 8) k' = nI (wpN m q k') ∧ gI g (gP h b 9) k' = nI (weN m q k') := p4
    subst p1
    obtain ⟨q0, q1, q2, q3, q4⟩ := keep G
    have ek := G.1
    have el := G.2.1
    have ep := G.2.2.1
    obtain ⟨a1, a2, a3, a4, a5, a6⟩ := J.bt (k := k) (by omega)
    have wl := wp_leX B J (by omega) k (by omega)
    have lsb := ls_leX J k (by omega)
    have lsb1 := ls_leX J (k + 1) (by omega)
    have els : lsN m q (k + 1) = lsN m q k + Nn m (130 + 645 * q + 125 + k) := rfl
    have wi := fun i hi => wl_leX B J (by omega) (k := k) (by omega) i hi
    obtain ⟨u1, u2⟩ := p4 k (Nat.le_refl k)
    have eb1 : gI g (gP h p 1) (k + 1) = nI (lsN m q (k + 1)) := by rw [q2, bg (k + 1) (by omega)]
    have eb0 : gI g (gP h p 1) k = nI (lsN m q k) := by rw [q2, bg k (by omega)]
    -- the letters of the piece
    have inner : MX0_loadCopy_58 g b p w (nI (27 * f)) (nI k) (nI (wpN m q k)) (nI (lsN m q k)) = MX0_loadCopy_96 g b p w (nI (27 * f)) (nI k) (nI (wpN m q (k + 1))) := by
      unfold MX0_loadCopy_58
      refine it_k (fun i => (nI (wpN m q k + wlN m q k i), nI (lsN m q k + i))) (Nn m (130 + 645 * q + 125 + k)) rfl (fun i hi => ?_) ?_
      · show BX0_loadCopy_58 g b p w (nI (27 * f)) (nI k) (nI (wpN m q k + wlN m q k i)) (nI (lsN m q k + i)) = _
        have lt := PtX.lt S V J (k := k) (i := i) (by omega) hi
        have c25 := (a6 i hi).2
        have wv := wd_v B (f := f) (c := Nn m (130 + 645 * q + 165 + 12 * k + i)) (by omega) (by omega)
        have hwd : MX0_widthOf g w (nI (27 * f + Nn m (130 + 645 * q + 165 + 12 * k + i))) = some (nI (Nn m (16 + 27 * f + Nn m (130 + 645 * q + 165 + 12 * k + i)))) := by
          rw [c_widthOf (by rw [ek]; exact hw.1) (by rw [el]; exact hw.2) (by omega), q4, ew _ (by omega), ← wv.1]
          exact congrArg (fun z => some (m z)) (by omega)
        have ew1 : wlN m q k (i + 1) = wlN m q k i + Nn m (16 + 27 * f + Nn m (130 + 645 * q + 165 + 12 * k + i)) := by rw [hf]; rfl
        rw [ew1, ← Nat.add_assoc, ← Nat.add_assoc]
        have lt2 : gI g (gP h p 0) (lsN m q k + i) = nI (Nn m (130 + 645 * q + 165 + 12 * k + i)) := by rw [q1]; exact lt
        have g58 : gg (inB (nI (lsN m q k + i)) (ln g (gP g p 0)) = true) = (fun x : Option ((Int32 × Int32) ⊕ ((Int32 × Hp) ⊕ Hp)) => x) := funext fun x => by rw [ep, el, s1l]; exact gg_in (by omega) (by omega)
        unfold BX0_loadCopy_58
        rw [ek, ep, el, gg_t s0, gg_t s2k, s2l]
        simp only [ZL]
        rw [nAdd k 1, gg_in (by omega) (by omega), nCl (by omega), eb1, if_neg (nI_ge (by omega) (by omega)), gg_t s1k, s1l, gg_in (by omega) (by omega), nCl (by omega), lt2, nAdd, hwd, ob_some, nAdd, nAdd]
      · show BX0_loadCopy_58 g b p w (nI (27 * f)) (nI k) (nI (wpN m q k + wlN m q k (Nn m (130 + 645 * q + 125 + k)))) (nI (lsN m q k + Nn m (130 + 645 * q + 125 + k))) = _
        unfold BX0_loadCopy_58
        rw [ek, ep, el, gg_t s0, gg_t s2k, s2l]
        simp only [ZL]
        rw [nAdd k 1, gg_in (by omega) (by omega), nCl (by omega), eb1, if_pos (nI_le (by omega) (by omega))]
        rfl
    have cl : (ewN m q k → gI g (gP h p 2) k = nI 1) ∧ (¬ ewN m q k → gI g (gP h p 2) k = nI 0) := by
      rw [q3]
      obtain ⟨-, -, -, -, -, -, a7, -⟩ := V
      rw [(a7 k (by show k < nP m q; omega)).2.1]
      exact ⟨fun z => if_pos z, fun z => if_neg z⟩
    obtain ⟨e1, e2, -⟩ := we_sX J (k := k) (by omega)
    have wek : weN m q k ≤ 23 := by rw [(we_sX J (k := k) (by omega)).2.2]; exact a2
    have t137 : ∀ c : Nat, c ≤ 1 → MX0_loadCopy_137 (sI g (gP h b 8) (k + 1) (nI (wpN m q (k + 1)))) b p w (nI (27 * f)) (nI k) (gP h b 9) (nI (k + 1)) (nI (weN m q k)) (nI c) = some (.inl (nI (k + 1), sI (sI g (gP h b 8) (k + 1) (nI (wpN m q (k + 1)))) (gP h b 9) (k + 1) (nI (weN m q k + c)))) := fun c hc => by
      unfold MX0_loadCopy_137
      rw [kd_sI, ln_sI, ek, el, gg_t k9, l9, gg_in (by omega) (by omega), nCl (by omega), lt_eq, nAdd]
      simp only [ZL]
      rw [nAdd]
    have wr : MX0_loadCopy_96 g b p w (nI (27 * f)) (nI k) (nI (wpN m q (k + 1))) = some (.inl (nI (k + 1), sI (sI g (gP h b 8) (k + 1) (nI (wpN m q (k + 1)))) (gP h b 9) (k + 1) (nI (weN m q (k + 1))))) := by
      unfold MX0_loadCopy_96
      rw [ek, ep, el, gg_t k0, gg_t k8, l8]
      simp only [ZL]
      rw [nAdd k 1, gg_in (by omega) (by omega), nCl (by omega), lt_eq, gg_t k9, l9, gg_in (by omega) (by omega), gg_t s0, gg_t s3k, s3l, gg_in (by omega) (by omega), nCl (by omega), gI_sI, if_neg (sp (gP h b 8) (Or.inr (Or.inl rfl))).2.2.2.1.n, gI_sI, if_neg n3.symm.n, u2]
      by_cases z : ewN m q k
      · rw [cl.1 z, if_neg (by rw [n10]; exact id), t137 1 (by omega), e1 z]
      · rw [cl.2 z, if_pos rfl, t137 0 (by omega), e2 z]
        rfl
    refine ⟨(nI (k + 1), sI (sI g (gP h b 8) (k + 1) (nI (wpN m q (k + 1)))) (gP h b 9) (k + 1) (nI (weN m q (k + 1)))), ?_, rfl, (G.trans (Fr.sI (Or.inr (Or.inl rfl)))).trans (Fr.sI (Or.inr (Or.inr rfl))), ?_, fun k' hk' => ?_⟩
    · show BX0_loadCopy_31 g b p w (nI (27 * f)) (nI k) = _
      unfold BX0_loadCopy_31
      rw [ek, ep, el, gg_t k0, p3.1, if_neg (nI_ge (by omega) (by omega)), gg_t k8, l8, gg_in (by omega) (by omega), gg_t s0, gg_t s2k, s2l, gg_in (by omega) (by omega), nCl (by omega), u1, eb0, inner, wr]
    · show gI (sI (sI g (gP h b 8) (k + 1) _) (gP h b 9) (k + 1) _) b 6 = nI N ∧ gI (sI (sI g (gP h b 8) (k + 1) _) (gP h b 9) (k + 1) _) b 7 = nI (hyN m q) ∧ ∀ j, j ≠ 6 → j ≠ 7 → gI (sI (sI g (gP h b 8) (k + 1) _) (gP h b 9) (k + 1) _) b j = gI h b j
      rw [gI_sI, if_neg n2.n, gI_sI, if_neg n1.n]
      exact p3
    · show gI (sI (sI g (gP h b 8) (k + 1) _) (gP h b 9) (k + 1) _) (gP h b 8) k' = _ ∧ gI (sI (sI g (gP h b 8) (k + 1) _) (gP h b 9) (k + 1) _) (gP h b 9) k' = _
      rw [gI_sI, if_neg n3.n, gI_sI, if_pos rfl, up_at, gI_sI, if_pos rfl, up_at, gI_sI, if_neg n3.symm.n]
      by_cases z : k' = k + 1
      · rw [if_pos z, if_pos z, z]; exact ⟨rfl, rfl⟩
      · rw [if_neg z, if_neg z]; exact p4 k' (by omega)
  · obtain ⟨a, g⟩ := s
    obtain ⟨p1, G, p3, p4⟩ := pp
    have p1 : a = nI N := p1
    have G : Fr (fun c => c = b ∨ c = gP h b 8 ∨ c = gP h b 9) h g := G
    have p3 : gI g b 6 = nI N ∧ gI g b 7 = nI (hyN m q) ∧ ∀ j, j ≠ 6 → j ≠ 7 → gI g b j = gI h b j := p3
    have p4 : ∀ k', k' ≤ N → gI g (gP h b 8) k' = nI (wpN m q k') ∧ gI g (gP h b 9) k' = nI (weN m q k') := p4
    subst p1
    have z := p4 0 (by omega)
    refine ⟨g, ?_, G, ⟨by rw [p3.1, hN], p3.2.1, fun k hk => ?_⟩, p3.2.2, z.1, by rw [z.2, w0]⟩
    · show BX0_loadCopy_31 g b p w (nI (27 * f)) (nI N) = _
      unfold BX0_loadCopy_31
      rw [G.1, gg_t k0, p3.1, if_pos (nI_le (by omega) (by omega))]
    · rw [G.2.2.1]
      exact p4 k (by omega)
  · have hk' : k' = 0 := by omega
    subst hk'
    show gI g0 (gP h b 8) 0 = _ ∧ gI g0 (gP h b 9) 0 = _
    rw [g08, g09, w0]
    exact ⟨z8, z9⟩
end
/-! out of 93.c -/
section
variable {tg : Nat → List Nat} {h h1 h' : Hp} {m : Nat → Int32} {p q r x : Nat}
theorem PtX.cg (S : PtX h p m q) (e0 : sm h h1 p) (e1 : ∀ k, k ≤ 4 → sm h h1 (gP h p k)) : PtX h1 p m q := by
  unfold PtX at S ⊢
  simp only [e0.2.2.1, e0.2.2.2, (e1 0 (by omega)).2.2.1, (e1 1 (by omega)).2.2.1, (e1 2 (by omega)).2.2.1, (e1 3 (by omega)).2.2.1, (e1 4 (by omega)).2.2.1]
  exact S
theorem c_breakerForX (K : Rt tg h r x) (S : RmS h r) (V : RmW h r m) (I : MIw m) (PS : PtS h p) (PV : PtX h p m q) (J : MIx m q) (A : Pa tg h p x) (hq : vP m q) (t : Int32) : ∃ h1, MX7_breakerFor h r p t = some (gP h r 14, h1) ∧ Sc tg r x h h1 ∧ BrC h1 (gP h r 14) m q ∧ BrR h1 (gP h r 14) m (stI m t (Nn m 2)) (fcP m q t) := by
  have he := stI_le (m := m) (x := t) (Nn m 2)
  have cs := c_styleW K S V I.1 t
  obtain ⟨e, hee⟩ : ∃ e, e = stI m t (Nn m 2) := ⟨_, rfl⟩
  rw [← hee] at he cs ⊢
  obtain ⟨yS, ⟨T, yT, hT, yj⟩, y0, e1, cd, ce, cA, cE⟩ := st_cell K S V I he
  obtain ⟨y, hy⟩ : ∃ y, y = stC h r e := ⟨_, rfl⟩
  rw [← hy] at cs yS yT yj y0 e1 cA cE
  obtain ⟨F, hF⟩ : ∃ F, F = fcP m q t := ⟨_, rfl⟩
  rw [← hF]
  have x15 := S.2.2.2.2.2.2.2.2.2.1
  have x1 := S.2.1
  obtain ⟨b0, bS⟩ := S.2.2.2.2.2.2.2.2.2.2.2.2.2.2.2.1
  obtain ⟨s0, s2, s3, s4, s5, s6, s7, s8⟩ := yS
  have lT : T ≠ [3] ∧ (2 ≤ T.length) ∧ T ≠ [14, x] ∧ T ≠ [15, x] ∧ (∀ j, (7 :: T = [j, 14, x]) = False ∧ (8 :: T = [j, 14, x]) = False) ∧ scT x (7 :: T) ∧ scT x (8 :: T) := by
    rcases hT with rfl | rfl
    · refine ⟨by simp, by simp, by simp, by simp, fun j => ⟨by simp, by simp⟩, by simp [scT], by simp [scT]⟩
    · refine ⟨by simp, by simp, by simp, by simp, fun j => ⟨by simp, by simp⟩, by simp [scT], by simp [scT]⟩
  obtain ⟨lT1, lT2, lT3, lT4, lT5, lT6, lT7⟩ := lT
  have t15 := K.a x15.1
  have t14 := K.a b0
  have t1 := K.a x1.1
  have t148 := K.o bS.2.1.1
  have t149 := K.o bS.2.2.1.1
  have tj : ∀ j, gP h y j ≠ 0 → tg (gP h y j) = j :: T := yj
  have sc15 : scT x (tg (gP h r 15)) := by rw [t15]; simp [scT]
  have sc14 : scT x (tg (gP h r 14)) := by rw [t14]; simp [scT]
  have sc148 : scT x (tg (gP h (gP h r 14) 8)) := by rw [t148]; simp [scT]
  have sc149 : scT x (tg (gP h (gP h r 14) 9)) := by rw [t149]; simp [scT]
  have sc7 : scT x (tg (gP h y 7)) := by rw [tj 7 s7.1]; exact lT6
  have sc8 : scT x (tg (gP h y 8)) := by rw [tj 8 s8.1]; exact lT7
  have np : ∀ c, scT x (tg c) → Nq p c := fun c sc z => A.1 (by rw [z]; exact sc)
  have npk : ∀ c k, k ≤ 4 → scT x (tg c) → Nq (gP h p k) c := fun c k hk sc z => A.2 k hk (by rw [z]; exact sc)
  have nw : ∀ c, scT x (tg c) → Nq (gP h r 1) c := fun c sc z => by
    rw [← z, t1] at sc
    simp [scT] at sc
  have jT : ∀ j l, j ≠ l → gP h y j ≠ 0 → gP h y l ≠ 0 → Nq (gP h y j) (gP h y l) := fun j l n hj hl => ne_t (tg := tg) (by
    rw [tj j hj, tj l hl]
    exact fun z => n (List.cons.inj z).1)
  have sT : ∀ c j, tg c = T → gP h y j ≠ 0 → Nq c (gP h y j) := fun c j hc hj => ne_t (tg := tg) (by
    rw [hc, tj j hj]
    intro z
    have := congrArg List.length z
    simp at this)
  have aT : ∀ c k j, tg c = [k, x] → gP h y j ≠ 0 → Nq c (gP h y j) := fun c k j hc hj => ne_t (tg := tg) (by
    rw [hc, tj j hj]
    intro z
    have := congrArg List.length z
    simp at this
    omega)
  -- facts
  obtain ⟨h1, k1, G1, q1⟩ := c_factsX S PS PV t (ne_t (tg := tg) (by rw [K.2.2.1, t15]; simp)) (np _ sc15)
  rw [← hF] at q1
  have F1 : Ft tg (scT x) h h1 := G1.mono (fun b z => by
    have z : b = gP h r 15 := z
    rw [z]
    exact ⟨x15.1, sc15⟩)
  have g1 : ∀ c, Nq c (gP h r 15) → gI h1 c = gI h c := fun c z => G1.2.2.2.2.2.2 c z.n
  have ny15 : Nq y (gP h r 15) := ne_t (tg := tg) (by rw [yT, t15]; exact lT4)
  -- weighing
  have W1 : WgS h1 y (gP h r 15) F := by
    unfold WgS
    rw [G1.1, G1.2.1, G1.2.2.1]
    exact ⟨s0, ⟨s5.2.1, s5.2.2⟩, ⟨s6.2.1, s6.2.2⟩, ⟨s7.2.1, s7.2.2⟩, ⟨s8.2.1, s8.2.2⟩, ⟨x15.2.1, x15.2.2⟩, q1, ⟨jT 5 8 (by omega) s5.1 s8.1, jT 6 8 (by omega) s6.1 s8.1, aT _ 15 8 t15 s8.1, sT y 8 yT s8.1, jT 7 8 (by omega) s7.1 s8.1⟩, jT 5 7 (by omega) s5.1 s7.1, jT 6 7 (by omega) s6.1 s7.1, aT _ 15 7 t15 s7.1, sT y 7 yT s7.1⟩
  have A1 : CdA h1 y (nR m e) cd ce := by
    unfold CdA
    rw [G1.2.2.1, g1 _ (aT _ 15 5 t15 s5.1).symm, g1 _ (aT _ 15 6 t15 s6.1).symm]
    exact cA
  obtain ⟨h2, k2, G2, q2⟩ := c_weigh (nR_le I he) W1 (by rw [g1 y ny15]; exact e1) A1
  rw [G1.2.2.1] at G2 q2
  have F2 : Ft tg (scT x) h1 h2 := G2.mono (fun b z => by
    rcases z with z | z
    · rw [z]; exact ⟨s7.1, sc7⟩
    · rw [z]; exact ⟨s8.1, sc8⟩)
  have g2 : ∀ c, Nq c (gP h y 7) → Nq c (gP h y 8) → gI h2 c = gI h1 c := fun c z7 z8 => G2.2.2.2.2.2.2 c (fun q => by
    rcases q with q | q
    · exact z7.n q
    · exact z8.n q)
  have F12 := F1.trans F2
  have W2 : YW h2 y e m F := by
    unfold YW
    rw [F12.ek, F12.el, F12.gp, g2 y (sT y 7 yT s7.1) (sT y 8 yT s8.1), g1 y ny15, g2 _ (jT 2 7 (by omega) s2.1 s7.1) (jT 2 8 (by omega) s2.1 s8.1), g1 _ (aT _ 15 2 t15 s2.1).symm, g2 _ (jT 3 7 (by omega) s3.1 s7.1) (jT 3 8 (by omega) s3.1 s8.1), g1 _ (aT _ 15 3 t15 s3.1).symm, g2 _ (jT 4 7 (by omega) s4.1 s7.1) (jT 4 8 (by omega) s4.1 s8.1), g1 _ (aT _ 15 4 t15 s4.1).symm]
    refine ⟨s0, ⟨s2.2.1, s2.2.2⟩, ⟨s3.2.1, s3.2.2⟩, ⟨s4.2.1, s4.2.2⟩, ⟨s7.2.1, s7.2.2⟩, e1, nR_le I he, fun i hi => ?_⟩
    obtain ⟨c1, c2, c3, c4⟩ := cE i hi
    exact ⟨c2, c3, c4, by rw [q2 i hi, hM_eq c1]⟩
  -- the rules' numbers
  have nb : ∀ j, gP h y j ≠ 0 → Nq (gP h r 14) (gP h y j) := fun j hj => aT _ 14 j t14 hj
  obtain ⟨h3, k3, G3, q3, q3'⟩ := c_loadRules (b := gP h r 14) W2 (by rw [F12.ek]; exact bS.1) I he (ne_t (tg := tg) (by rw [yT, t14]; exact fun z => lT3 z.symm)) (by rw [F12.gp]; exact nb 2 s2.1) (by rw [F12.gp]; exact nb 3 s3.1) (by rw [F12.gp]; exact nb 4 s4.1) (by rw [F12.gp]; exact nb 7 s7.1)
  have F3 : Ft tg (scT x) h2 h3 := G3.mono (fun b z => by
    have z : b = gP h r 14 := z
    rw [z]
    exact ⟨b0, sc14⟩)
  have F13 := F12.trans F3
  have g3 : ∀ c, Nq c (gP h r 14) → gI h3 c = gI h2 c := fun c z => G3.2.2.2.2.2.2 c z.n
  have n148 : Nq (gP h (gP h r 14) 8) (gP h r 14) := ne_t (tg := tg) (by rw [t148, t14]; simp)
  have n149 : Nq (gP h (gP h r 14) 9) (gP h r 14) := ne_t (tg := tg) (by rw [t149, t14]; simp)
  have bz : ∀ j, j = 8 ∨ j = 9 → gI h3 (gP h (gP h r 14) j) = gI h (gP h (gP h r 14) j) := fun j hj => by
    have tz : tg (gP h (gP h r 14) j) = [j, 14, x] := by
      rcases hj with rfl | rfl
      · exact t148
      · exact t149
    have nz : Nq (gP h (gP h r 14) j) (gP h r 14) := ne_t (tg := tg) (by rw [tz, t14]; simp)
    rw [g3 _ nz, g2 _ (ne_t (tg := tg) (by rw [tz, tj 7 s7.1]; intro z; have := (lT5 j).1; rw [z] at this; exact this.mp rfl)) (ne_t (tg := tg) (by rw [tz, tj 8 s8.1]; intro z; have := (lT5 j).2; rw [z] at this; exact this.mp rfl)), g1 _ (ne_t (tg := tg) (by rw [tz, t15]; simp))]
  have bS3 : BrS h3 (gP h r 14) := by
    obtain ⟨c1, c2, c3, c4, c5, c6, c7, c8, c9⟩ := bS
    unfold BrS ar
    rw [F13.ek, F13.el, F13.gp, bz 8 (Or.inl rfl), bz 9 (Or.inr rfl)]
    exact ⟨c1, c2, c3, c4, c5, c6, c7, c8, c9⟩
  -- the copy
  have PS3 := PS.cg (F13.same A.1) (fun k hk => F13.same (A.2 k hk))
  have PV3 := PV.cg (F13.same A.1) (fun k hk => F13.same (A.2 k hk))
  have w1 : ¬ scT x (tg (gP h r 1)) := by rw [t1]; simp [scT]
  obtain ⟨h4, k4, G4, q4, q4', z8, z9⟩ := c_loadCopyX (w := gP h r 1) (b := gP h r 14) PS3 PV3 J I.1 hq bS3 (by rw [F13.ek, F13.el]; exact x1.2) (by rw [(F13.same w1).2.2.1]; exact V.2.1) (fun c hc => by
      rw [F13.gp] at hc ⊢
      have sc : scT x (tg c) := by
        rcases hc with rfl | rfl | rfl
        · exact sc14
        · exact sc148
        · exact sc149
      exact ⟨np c sc, npk c 0 (by omega) sc, npk c 1 (by omega) sc, npk c 2 (by omega) sc, nw c sc⟩) (by rw [F13.gp]; exact n148.symm) (by rw [F13.gp]; exact n149.symm) (by rw [F13.gp]; exact ne_t (tg := tg) (by rw [t148, t149]; simp))
  rw [F13.gp] at G4 z8 z9
  have F4 : Ft tg (scT x) h3 h4 := G4.mono (fun b z => by
    rcases z with z | z | z
    · rw [z]; exact ⟨b0, sc14⟩
    · rw [z]; exact ⟨bS.2.1.1, sc148⟩
    · rw [z]; exact ⟨bS.2.2.1.1, sc149⟩)
  have F14 := F13.trans F4
  refine ⟨h4, ?_, ⟨F14, z8, z9⟩, q4, ?_⟩
  · unfold MX7_breakerFor
    rw [gg_t S.1, cs, b2_some, gg_t S.1, k1, ob_some, F1.ek, F1.gp, gg_t S.1, gg_t s0, k2, ob_some, F12.ek, F12.gp, gg_t S.1, gg_t bS.1, k3, ob_some, F13.ek, F13.gp, gg_t S.1, gg_t bS.1, k4, ob_some, F14.ek, F14.gp, gg_t S.1]
  · obtain ⟨u0, u1, u2, u3, u4, u5⟩ := q3
    unfold BrR
    rw [q4' 0 (by omega) (by omega), q4' 1 (by omega) (by omega), q4' 2 (by omega) (by omega), q4' 3 (by omega) (by omega), q4' 4 (by omega) (by omega), q4' 5 (by omega) (by omega)]
    exact ⟨u0, u1, u2, u3, u4, u5⟩
end
/-! out of 94.d -/
section
variable {m : Nat → Int32} {q : Nat}
theorem we_leX (J : MIx m q) : ∀ k, k ≤ nP m q → weN m q k ≤ 24 ∧ weN m q 0 = 0
  | 0, _ => by
    obtain ⟨n1, n2, n3⟩ := J.n
    have : weN m q 0 = 0 := by
      unfold weN
      rw [if_neg (by omega)]
      exact J.2.2.2.2.2.2.2.1
    exact ⟨by omega, this⟩
  | k + 1, hk => by
    have ih := (we_leX J k (by omega)).2
    obtain ⟨e1, e2, e3⟩ := we_sX J (k := k) (by omega)
    have b := (J.bt (k := k) (by omega)).2.1
    refine ⟨?_, ih⟩
    by_cases z : ewN m q k
    · rw [e1 z, e3]; omega
    · rw [e2 z, e3]; omega
theorem we_monoX (J : MIx m q) {a : Nat} : ∀ d, a + d ≤ nP m q → weN m q a ≤ weN m q (a + d)
  | 0, _ => Nat.le_refl _
  | d + 1, h => by
    have ih := we_monoX J (a := a) d (by omega)
    obtain ⟨e1, e2, -⟩ := we_sX J (k := a + d) (by omega)
    by_cases z : ewN m q (a + d)
    · have := e1 z
      show weN m q a ≤ weN m q (a + d + 1)
      omega
    · have := e2 z
      show weN m q a ≤ weN m q (a + d + 1)
      omega
theorem pd_iffX (J : MIx m q) {b : Nat} (hb : b < nP m q) : (weN m q (b + 1) = weN m q b) ↔ ¬ ewN m q b := by
  obtain ⟨e1, e2, -⟩ := we_sX J hb
  exact ⟨fun z w => by have := e1 w; omega, fun z => e2 z⟩
theorem wi_leX (B : MIb m) (hq : vP m q) (J : MIx m q) {a b : Nat} (hb : b < nP m q) : wiN m q a b ≤ 9620 := by
  obtain ⟨n1, n2, n3⟩ := J.n
  have f := (fc_v B hq).2
  have h1 := (wp_leX B J f (b + 1) (by omega)).1
  have h2 := wd_v B (f := Nn m (70 + q / 5)) (c := 26) f (by omega)
  unfold wiN hyN
  split <;> omega
theorem ga_leX (J : MIx m q) {a b : Nat} (hb : b < nP m q) : gaN m q a b ≤ 24 := by
  have := (we_leX J b (by omega)).1
  unfold gaN
  omega
theorem ti_leX (B : MIb m) (hq : vP m q) (J : MIx m q) {a b le : Nat} (hb : b < nP m q) (hl : le ≤ 40) : tiN m q le a b ≤ 10580 := by
  have h1 := wi_leX B hq J (a := a) hb
  have h2 := ga_leX J (a := a) hb
  have h3 : gaN m q a b * le ≤ 24 * 40 := Nat.mul_le_mul h2 hl
  unfold tiN
  omega
end
/-! out of 95.e -/
section
variable {h h1 h' : Hp} {m : Nat → Int32} {q b me le mo co : Nat}
theorem c_spareX (L : BL h b m q me le mo co) (J : MIx m q) {i k : Nat} (hi : i ≤ k) (hk : k < nP m q) : MX0_spare h b (nI i) (nI k) = some (nI me - nI (tiN m q le i k)) := by
  obtain ⟨⟨k0, ⟨-, k8, l8⟩, ⟨-, k9, l9⟩, -⟩, ⟨-, c7, c⟩, c0, c2, -⟩ := L
  obtain ⟨j1, j2, j3⟩ := J.n
  obtain ⟨a1, a2⟩ := c k (by omega)
  obtain ⟨a3, a4⟩ := c (k + 1) (by omega)
  obtain ⟨a5, a6⟩ := c i (by omega)
  have w1 := (we_leX J k (by omega)).1
  have w2 := (we_leX J (k + 1) (by omega)).1
  have mw : weN m q i ≤ weN m q k := by
    have := we_monoX J (a := i) (k - i) (by omega)
    rwa [show i + (k - i) = k by omega] at this
  have mp : wpN m q i ≤ wpN m q (k + 1) := by
    have := wp_mono (m := m) (q := q) (a := i) (k + 1 - i)
    rwa [show i + (k + 1 - i) = k + 1 by omega] at this
  have t25 : ∀ s, MX0_spare_25 h b (nI i) (nI k) (nI s) = some (nI me - nI (wpN m q (k + 1) - wpN m q i + s + gaN m q i k * le)) := fun s => by
    unfold MX0_spare_25
    rw [gg_t k0, gg_t k9, l9, gg_in (by omega) (by omega), gg_in (by omega) (by omega), nCl (by omega), nCl (by omega), a2, a6, pk_sub mw, lt_eq, gg_t k8, l8]
    simp only [ZL]
    rw [nAdd k 1, gg_in (by omega) (by omega), gg_in (by omega) (by omega), nCl (by omega), a3, a5, pk_sub mp, c0, c2, nAdd, nMul, nAdd]
    rfl
  unfold MX0_spare
  rw [gg_t k0, gg_t k9, l9]
  simp only [ZL]
  rw [nAdd k 1, gg_in (by omega) (by omega), gg_in (by omega) (by omega), nCl (by omega), nCl (by omega), a4, a2]
  unfold tiN wiN
  by_cases z : weN m q (k + 1) = weN m q k
  · rw [if_pos (by rw [z]), if_pos z, c7, t25]
  · rw [if_neg (by rw [nEq (by omega) (by omega)]; exact z), if_neg z, t25]
theorem c_lineBadX (P : Ps me le mo co) (L : BL h b m q me le mo co) (B : MIb m) (hq : vP m q) (J : MIx m q) {i k : Nat} (hi : i ≤ k) (hk : k < nP m q) : MX0_lineBadness h b (nI i) (nI k) = some (if sdB m q me le mo i k = true then nI (bdN m q me le co i k) else -nI 1) := by
  have sp := c_spareX L J hi hk
  obtain ⟨p1, p2, p3, p4, p5, p6⟩ := P
  obtain ⟨⟨k0, ⟨-, k8, l8⟩, ⟨-, k9, l9⟩, -⟩, ⟨c6, c7, c⟩, c0, c2, c3, c4⟩ := L
  obtain ⟨j1, j2, j3⟩ := J.n
  obtain ⟨a1, a2⟩ := c k (by omega)
  obtain ⟨a3, a4⟩ := c (k + 1) (by omega)
  obtain ⟨a5, a6⟩ := c i (by omega)
  have w1 := (we_leX J k (by omega)).1
  have w2 := (we_leX J (k + 1) (by omega)).1
  have mw : weN m q i ≤ weN m q k := by
    have := we_monoX J (a := i) (k - i) (by omega)
    rwa [show i + (k - i) = k by omega] at this
  have tl := ti_leX B hq J (a := i) (le := le) hk (by omega)
  have gl := ga_leX J (a := i) hk
  have g2 : gaN m q i k * (mo - le) ≤ 24 * 40 := Nat.mul_le_mul gl (by omega)
  have g3 : gaN m q i k * (mo - le) = gaN m q i k * mo - gaN m q i k * le := Nat.mul_sub _ _ _
  have g4 : gaN m q i k * le ≤ gaN m q i k * mo := Nat.mul_le_mul_left _ p4
  have et : tiN m q le i k = wiN m q i k + gaN m q i k * le := rfl
  unfold MX0_lineBadness
  rw [gg_t k0, sp, ob_some]
  simp only [ZL]
  by_cases z1 : tiN m q le i k ≤ me
  · rw [if_pos (by rw [sp_lt p2 (by omega)]; exact z1), c6, pk_sub j3]
    by_cases z2 : k + 1 = nP m q
    · rw [if_pos (by rw [nEq (by omega) (by omega)]; omega)]
      have s1 : sdB m q me le mo i k = true := by unfold sdB; rw [decide_eq_true z1, decide_eq_true z2]; rfl
      have s2 : bdN m q me le co i k = 0 := by unfold bdN; rw [if_pos z2]
      rw [if_pos s1, s2]
    · have gd : weN m q k - weN m q i = gaN m q i k := rfl
      rw [if_neg (by rw [nEq (by omega) (by omega)]; omega), gg_t k9, l9, gg_in (by omega) (by omega), gg_in (by omega) (by omega), nCl (by omega), nCl (by omega), a2, a6, pk_sub mw, lt_eq, c3, c2, pk_sub p4, pk_sub z1, nMul, gd]
      by_cases z3 : me ≤ wiN m q i k + gaN m q i k * mo
      · rw [if_pos (by rw [nLe (by omega) (by omega)]; omega), nAdd k 1, gg_in (by omega) (by omega), nCl (by omega), a4]
        have s1 : sdB m q me le mo i k = true := by unfold sdB; rw [decide_eq_true z1, decide_eq_true z3]; simp
        rw [if_pos s1]
        unfold bdN
        rw [if_neg z2]
        by_cases z4 : weN m q (k + 1) = weN m q k
        · rw [if_pos (by rw [z4]), if_pos z4]
          unfold MX0_lineBadness_80 MX0_lineBadness_98
          rw [if_neg (by decide), gg_t k0, c4, nMul, nAdd]
        · rw [if_neg (by rw [nEq (by omega) (by omega)]; exact z4), if_neg z4]
          unfold MX0_lineBadness_80 MX0_lineBadness_98
          simp only [ZL, if_true]
          rw [nMul, nAdd]
      · rw [if_neg (by rw [nLe (by omega) (by omega)]; omega)]
        have s1 : ¬ sdB m q me le mo i k = true := by unfold sdB; rw [decide_eq_false z3, decide_eq_false z2]; simp
        rw [if_neg s1]
  · rw [if_neg (by rw [sp_lt p2 (by omega)]; exact z1)]
    have s1 : ¬ sdB m q me le mo i k = true := by unfold sdB; rw [decide_eq_false z1]; simp
    rw [if_neg s1]
theorem c_solveAtX (P : Ps me le mo co) (L : BL h b m q me le mo co) (Q : BQ h b) (B : MIb m) (hq : vP m q) (J : MIx m q) {i : Nat} (hi : i < nP m q) (A : AR h b (dpv (fun a j => sdB m q me le mo a (j - 1)) (fun a j => bdN m q me le co a (j - 1)) (nP m q)) (i + 1) (nP m q)) : ∃ h1, MX0_solveAt h b (nI i) = some h1 ∧ (Fr (Dw h b) h h1 ∧ AR h1 b (dpv (fun a j => sdB m q me le mo a (j - 1)) (fun a j => bdN m q me le co a (j - 1)) (nP m q)) i (nP m q)) := by
  obtain ⟨S, hS⟩ : ∃ S : Nat → Nat → Bool, S = fun a j => sdB m q me le mo a (j - 1) := ⟨_, rfl⟩
  obtain ⟨c, hc⟩ : ∃ c : Nat → Nat → Nat, c = fun a j => bdN m q me le co a (j - 1) := ⟨_, rfl⟩
  rw [← hS, ← hc] at A ⊢
  obtain ⟨n, hn⟩ : ∃ n, n = nP m q := ⟨_, rfl⟩
  have j40 := (J.n).2.1
  rw [← hn] at A hi j40 ⊢
  obtain ⟨T, hT⟩ : ∃ T, T = dpv S c n := ⟨_, rfl⟩
  rw [← hT] at A ⊢
  have cb : ∀ a j, c a j ≤ 160999 := fun a j => by rw [hc]; exact bd_le P.2.1 P.2.2.2.2.2
  have Tb : ∀ j v, j ≤ n → T j = some v → v.1 ≤ 6439960 ∧ v.2.1 ≤ 40 := fun j v hj hv => by
    rw [hT] at hv
    obtain ⟨b1, b2, -⟩ := dpv_b j40 cb (n - j) j (by omega) v hv
    omega
  have Q1 := Q.1
  have k0 := L.1.1
  obtain ⟨-, k10, l10⟩ := L.1.2.2.2.1
  obtain ⟨-, k11, l11⟩ := L.1.2.2.2.2.1
  obtain ⟨-, k12, l12⟩ := L.1.2.2.2.2.2.1
  have Q3 := Q.2
  have n1011 := Q3 10 11 (by omega) (by omega) (by omega) (by omega) (by omega)
  have n1012 := Q3 10 12 (by omega) (by omega) (by omega) (by omega) (by omega)
  have n1112 := Q3 11 12 (by omega) (by omega) (by omega) (by omega) (by omega)
  have n11b := Q1 11 (by omega) (by omega)
  -- what holds of the arrays at i when d lines have been looked at
  obtain ⟨g0, hg0⟩ : ∃ g, g = sI h (gP h b 11) i (-nI 1) := ⟨_, rfl⟩
  have G0 : Fr (Dw h b) h g0 := by rw [hg0]; exact Fr.sI (Or.inr (Or.inl rfl))
  have e0 : MX0_solveAt h b (nI i) = MX0_solveAt_9 g0 b (nI i) (nI i) := by
    unfold MX0_solveAt
    rw [gg_t k0, gg_t k11, l11, gg_in (by omega) (by omega), nCl (by omega), lt_eq, hg0]
    rfl
  rw [e0]
  unfold MX0_solveAt_9
  -- the cell i holds what cur tells
  refine it_cnt (f := fun s : Int32 × Hp => BX0_solveAt_9 s.2 b (nI i) s.1) (Q := fun h1 => Fr (Dw h b) h h1 ∧ AR h1 b T i n) (fun d s => s.1 = nI (i + d) ∧ Fr (Dw h b) h s.2 ∧ AR s.2 b T (i + 1) n ∧ gI s.2 (gP h b 11) i = enL (dpA S c T i d) ∧ ∀ v, dpA S c T i d = some v → gI s.2 (gP h b 10) i = nI v.1 ∧ gI s.2 (gP h b 12) i = nI (v.2.2 - 1)) (n - i) (fun d s hd p => ?_) (fun s p => ?_) (s := (nI i, g0)) ⟨rfl, G0, ?_, ?_, fun v hv => absurd hv (by simp [dpA])⟩
  · obtain ⟨a, g⟩ := s
    obtain ⟨p1, G, p3, p4, p5⟩ := p
    have p1 : a = nI (i + d) := p1
    have G : Fr (Dw h b) h g := G
    have p3 : AR g b T (i + 1) n := p3
    have p4 : gI g (gP h b 11) i = enL (dpA S c T i d) := p4
    have p5 : ∀ v, dpA S c T i d = some v → gI g (gP h b 10) i = nI v.1 ∧ gI g (gP h b 12) i = nI (v.2.2 - 1) := p5
    subst p1
    have Lg := L.fr Q G
    have ek := G.1
    have el := G.2.1
    have ep := G.2.2.1
    have lb := c_lineBadX P Lg B hq J (i := i) (k := i + d) (by omega) (by omega)
    have eS : S i (i + 1 + d) = sdB m q me le mo i (i + d) := by rw [hS]; exact congrArg (sdB m q me le mo i) (by omega)
    have ec : c i (i + 1 + d) = bdN m q me le co i (i + d) := by rw [hc]; exact congrArg (bdN m q me le co i) (by omega)
    rw [← eS, ← ec] at lb
    have es : dpA S c T i (d + 1) = dpW S c T i (i + 1 + d) (dpA S c T i d) := rfl
    obtain ⟨r1, r2⟩ := p3 (i + 1 + d) (by omega) (by omega)
    rw [ep] at r1 r2
    have e6 : gI g b 6 = nI n := by rw [hn]; exact Lg.2.1.1
    -- what a write does
    have wr : ∀ B1 L1 : Nat, (fun s' : Int32 × Hp => s'.1 = nI (i + (d + 1)) ∧ Fr (Dw h b) h s'.2 ∧ AR s'.2 b T (i + 1) n ∧ gI s'.2 (gP h b 11) i = enL (some (B1, L1, i + 1 + d)) ∧ ∀ v, some (B1, L1, i + 1 + d) = some v → gI s'.2 (gP h b 10) i = nI v.1 ∧ gI s'.2 (gP h b 12) i = nI (v.2.2 - 1)) (nI (i + (d + 1)), sI (sI (sI g (gP h b 10) i (nI B1)) (gP h b 11) i (nI L1)) (gP h b 12) i (nI (i + d))) := fun B1 L1 => by
      refine ⟨rfl, ((G.trans (Fr.sI (Or.inl rfl))).trans (Fr.sI (Or.inr (Or.inl rfl)))).trans (Fr.sI (Or.inr (Or.inr (Or.inl rfl)))), fun j hj1 hj2 => ?_, ?_, fun v hv => ?_⟩
      · show gI (sI (sI (sI g (gP h b 10) i (nI B1)) (gP h b 11) i (nI L1)) (gP h b 12) i (nI (i + d))) (gP g b 11) j = _ ∧ ∀ v, T j = some v → gI (sI (sI (sI g (gP h b 10) i (nI B1)) (gP h b 11) i (nI L1)) (gP h b 12) i (nI (i + d))) (gP g b 10) j = _ ∧ (j < n → gI (sI (sI (sI g (gP h b 10) i (nI B1)) (gP h b 11) i (nI L1)) (gP h b 12) i (nI (i + d))) (gP g b 12) j = _)
        have := p3 j hj1 hj2
        rw [ep] at this ⊢
        rw [gI_sI, if_neg n1112.n, gI_sI, if_pos rfl, up_at, if_neg (by omega), gI_sI, if_neg n1011.symm.n, gI_sI, if_neg n1012.n, gI_sI, if_neg n1011.n, gI_sI, if_pos rfl, up_at, if_neg (by omega), gI_sI, if_pos rfl, up_at, if_neg (by omega), gI_sI, if_neg n1112.symm.n, gI_sI, if_neg n1012.symm.n]
        exact this
      · show gI (sI (sI (sI g (gP h b 10) i (nI B1)) (gP h b 11) i (nI L1)) (gP h b 12) i (nI (i + d))) (gP h b 11) i = nI L1
        rw [gI_sI, if_neg n1112.n, gIl]
      · have hv := Option.some.inj hv
        subst hv
        show gI (sI (sI (sI g (gP h b 10) i (nI B1)) (gP h b 11) i (nI L1)) (gP h b 12) i (nI (i + d))) (gP h b 10) i = nI B1 ∧ gI (sI (sI (sI g (gP h b 10) i (nI B1)) (gP h b 11) i (nI L1)) (gP h b 12) i (nI (i + d))) (gP h b 12) i = nI (i + 1 + d - 1)
        rw [gI_sI, if_neg n1012.n, gI_sI, if_neg n1011.n, gIl, gIl, show i + 1 + d - 1 = i + d by omega]
        exact ⟨rfl, rfl⟩
    have w111 : ∀ B1 L1 : Nat, MX0_solveAt_111 g b (nI i) (nI (i + d)) (nI B1) (nI L1) = some (.inl (nI (i + (d + 1)), sI (sI (sI g (gP h b 10) i (nI B1)) (gP h b 11) i (nI L1)) (gP h b 12) i (nI (i + d)))) := fun B1 L1 => by
      unfold MX0_solveAt_111 MX0_solveAt_116
      simp only [ZL]
      rw [if_neg (by rw [n10]; exact id), ek, el, ep, gg_t k0, gg_t k10, l10, gg_in (by omega) (by omega), nCl (by omega), lt_eq, gg_t k11, l11, gg_in (by omega) (by omega), lt_eq, gg_t k12, l12, gg_in (by omega) (by omega), lt_eq, nAdd]
      rfl
    have keep : dpA S c T i (d + 1) = dpA S c T i d → (fun s' : Int32 × Hp => s'.1 = nI (i + (d + 1)) ∧ Fr (Dw h b) h s'.2 ∧ AR s'.2 b T (i + 1) n ∧ gI s'.2 (gP h b 11) i = enL (dpA S c T i (d + 1)) ∧ ∀ v, dpA S c T i (d + 1) = some v → gI s'.2 (gP h b 10) i = nI v.1 ∧ gI s'.2 (gP h b 12) i = nI (v.2.2 - 1)) (nI (i + (d + 1)), g) := fun e => by
      rw [e]
      exact ⟨rfl, G, p3, p4, p5⟩
    have pre : BX0_solveAt_9 g b (nI i) (nI (i + d)) = if (if S i (i + 1 + d) = true then nI (c i (i + 1 + d)) else -nI 1) = -nI 1 then some (.inl (nI (i + (d + 1)), g)) else (if enL (T (i + 1 + d)) = -nI 1 then some (.inl (nI (i + (d + 1)), g)) else (if gI g (gP h b 11) i = -nI 1 then MX0_solveAt_111 g b (nI i) (nI (i + d)) ((if S i (i + 1 + d) = true then nI (c i (i + 1 + d)) else -nI 1) + gI g (gP h b 10) (i + 1 + d)) (nI 1 + enL (T (i + 1 + d))) else (if (if S i (i + 1 + d) = true then nI (c i (i + 1 + d)) else -nI 1) + gI g (gP h b 10) (i + 1 + d) < gI g (gP h b 10) i then MX0_solveAt_111 g b (nI i) (nI (i + d)) ((if S i (i + 1 + d) = true then nI (c i (i + 1 + d)) else -nI 1) + gI g (gP h b 10) (i + 1 + d)) (nI 1 + enL (T (i + 1 + d))) else (if (if S i (i + 1 + d) = true then nI (c i (i + 1 + d)) else -nI 1) + gI g (gP h b 10) (i + 1 + d) = gI g (gP h b 10) i then (if gI g (gP h b 11) i < nI 1 + enL (T (i + 1 + d)) then MX0_solveAt_115 g b (nI i) (nI (i + d)) ((if S i (i + 1 + d) = true then nI (c i (i + 1 + d)) else -nI 1) + gI g (gP h b 10) (i + 1 + d)) (nI 1 + enL (T (i + 1 + d))) else MX0_solveAt_111 g b (nI i) (nI (i + d)) ((if S i (i + 1 + d) = true then nI (c i (i + 1 + d)) else -nI 1) + gI g (gP h b 10) (i + 1 + d)) (nI 1 + enL (T (i + 1 + d)))) else MX0_solveAt_115 g b (nI i) (nI (i + d)) ((if S i (i + 1 + d) = true then nI (c i (i + 1 + d)) else -nI 1) + gI g (gP h b 10) (i + 1 + d)) (nI 1 + enL (T (i + 1 + d))))))) := by
      unfold BX0_solveAt_9
      rw [ek, el, ep, gg_t k0, e6, if_neg (nI_ge (by omega) (by omega)), lb, ob_some]
      simp only [ZL]
      rw [nAdd (i + d) 1, gg_t k11, l11, gg_in (by omega) (by omega), nCl (by omega), gg_t k10, l10, gg_in (by omega) (by omega), gg_in (by omega) (by omega), nCl (by omega), show i + d + 1 = i + 1 + d by omega, r1, gg_in (by omega) (by omega), show i + (d + 1) = i + 1 + d by omega]
    have t115 : ∀ a c, MX0_solveAt_115 g b (nI i) (nI (i + d)) a c = some (.inl (nI (i + (d + 1)), g)) := fun a c => by
      unfold MX0_solveAt_115 MX0_solveAt_116
      simp only [ZL, if_true]
      rw [nAdd]
      rfl
    show ∃ s', BX0_solveAt_9 g b (nI i) (nI (i + d)) = some (.inl s') ∧ _
    rw [pre]
    by_cases zS : S i (i + 1 + d) = true
    · rw [if_pos zS]
      have cB := cb i (i + 1 + d)
      rw [if_neg (by rw [nM6 (by omega)]; exact id)]
      cases ht : T (i + 1 + d) with
      | none =>
        rw [if_pos (show enL none = -nI 1 from rfl)]
        exact ⟨_, rfl, keep (by rw [es]; unfold dpW; rw [ht])⟩
      | some w =>
        obtain ⟨t1, t2⟩ := Tb (i + 1 + d) w (by omega) ht
        have r3 := (r2 w ht).1
        rw [show enL (some w) = nI w.2.1 from rfl, if_neg (by rw [nM6 (by omega)]; exact id), r3, nAdd, nAdd, Nat.add_comm (c i (i + 1 + d)) w.1, Nat.add_comm 1 w.2.1]
        cases hcur : dpA S c T i d with
        | none =>
          rw [hcur] at p4
          rw [p4, if_pos (show enL none = -nI 1 from rfl), w111]
          have e2 : dpA S c T i (d + 1) = some (w.1 + c i (i + 1 + d), w.2.1 + 1, i + 1 + d) := by
            rw [es, hcur]
            unfold dpW
            rw [ht]
            exact if_pos zS
          refine ⟨_, rfl, ?_⟩
          rw [e2]
          exact wr _ _
        | some v =>
          rw [hcur] at p4
          obtain ⟨v1, v2⟩ := p5 v hcur
          -- the bounds of v
          have hB := dpA_B (S := S) (c := c) (T := T) (i := i) d
          rw [hcur] at hB
          obtain ⟨hb1, -, ⟨x, hb3, hb4, hb5⟩, -⟩ := hB
          have hb1 : i < v.2.2 ∧ v.2.2 ≤ i + d := hb1
          obtain ⟨x1, x2⟩ := Tb v.2.2 x (by omega) hb3
          have x3 := cb i v.2.2
          have e2 : dpA S c T i (d + 1) = if w.1 + c i (i + 1 + d) < v.1 ∨ (w.1 + c i (i + 1 + d) = v.1 ∧ w.2.1 + 1 ≤ v.2.1) then some (w.1 + c i (i + 1 + d), w.2.1 + 1, i + 1 + d) else some v := by
            rw [es, hcur]
            unfold dpW
            rw [ht]
            exact if_pos zS
          rw [p4, show enL (some v) = nI v.2.1 from rfl, if_neg (by rw [nM6 (by omega)]; exact id), v1]
          by_cases z1 : w.1 + c i (i + 1 + d) < v.1
          · rw [if_pos (nI_lt z1 (by omega)), w111]
            refine ⟨_, rfl, ?_⟩
            rw [e2, if_pos (Or.inl z1)]
            exact wr _ _
          · rw [if_neg (nI_nlt (by omega) (by omega))]
            by_cases z2 : w.1 + c i (i + 1 + d) = v.1
            · rw [if_pos (by rw [z2])]
              by_cases z3 : v.2.1 < w.2.1 + 1
              · rw [if_pos (nI_lt z3 (by omega)), t115]
                refine ⟨_, rfl, keep ?_⟩
                rw [e2, hcur, if_neg (by omega)]
              · rw [if_neg (nI_nlt (by omega) (by omega)), w111]
                refine ⟨_, rfl, ?_⟩
                rw [e2, if_pos (Or.inr ⟨z2, by omega⟩)]
                exact wr _ _
            · rw [if_neg (by rw [nEq (by omega) (by omega)]; exact z2), t115]
              refine ⟨_, rfl, keep ?_⟩
              rw [e2, hcur, if_neg (by omega)]
    · rw [if_neg zS, if_pos rfl]
      refine ⟨_, rfl, keep ?_⟩
      rw [es]
      unfold dpW
      cases ht : T (i + 1 + d) with
      | none => rfl
      | some w => exact if_neg zS
  · obtain ⟨a, g⟩ := s
    obtain ⟨p1, G, p3, p4, p5⟩ := p
    have p1 : a = nI (i + (n - i)) := p1
    have G : Fr (Dw h b) h g := G
    have p3 : AR g b T (i + 1) n := p3
    have p4 : gI g (gP h b 11) i = enL (dpA S c T i (n - i)) := p4
    have p5 : ∀ v, dpA S c T i (n - i) = some v → gI g (gP h b 10) i = nI v.1 ∧ gI g (gP h b 12) i = nI (v.2.2 - 1) := p5
    rw [show i + (n - i) = n by omega] at p1
    subst p1
    have eA : T i = dpA S c T i (n - i) := by rw [hT]; exact dpv_A hi
    rw [← eA] at p4 p5
    have Lg := L.fr Q G
    refine ⟨g, ?_, G, fun j hj1 hj2 => ?_⟩
    · show BX0_solveAt_9 g b (nI i) (nI n) = _
      unfold BX0_solveAt_9
      rw [gg_t Lg.1.1, show gI g b 6 = nI n by rw [hn]; exact Lg.2.1.1, if_pos (nI_le (by omega) (by omega))]
    · by_cases z : j = i
      · subst z
        rw [G.2.2.1]
        exact ⟨p4, fun v hv => ⟨(p5 v hv).1, fun _ => (p5 v hv).2⟩⟩
      · exact p3 j (by omega) hj2
  · show AR g0 b T (i + 1) n
    intro j hj1 hj2
    have := A j hj1 hj2
    rw [hg0]
    show gI (sI h (gP h b 11) i (-nI 1)) (gP h b 11) j = _ ∧ ∀ v, T j = some v → gI (sI h (gP h b 11) i (-nI 1)) (gP h b 10) j = _ ∧ (j < n → gI (sI h (gP h b 11) i (-nI 1)) (gP h b 12) j = _)
    rw [gI_sI, if_pos rfl, up_at, if_neg (by omega), gI_sI, if_neg n1011.n, gI_sI, if_neg n1112.symm.n]
    exact this
  · show gI g0 (gP h b 11) i = _
    rw [hg0, gIl]
    rfl
end
/-! out of 96.f -/
section
variable {h h1 h' : Hp} {m : Nat → Int32} {q b me le mo co : Nat}
theorem wyD_nX (J : MIx m q) : wyD m q me le mo co (nP m q) = some (0, 0, 0) := dpv_n
theorem wyD_bX (P : Ps me le mo co) (J : MIx m q) {i : Nat} (hi : i ≤ nP m q) {v : Nat × Nat × Nat} (hv : wyD m q me le mo co i = some v) : v.1 ≤ 6439960 ∧ v.2.1 ≤ nP m q - i ∧ (i < nP m q → i < v.2.2 ∧ v.2.2 ≤ nP m q ∧ sdB m q me le mo i (v.2.2 - 1) = true ∧ 1 ≤ v.2.1 ∧ ∃ w, wyD m q me le mo co v.2.2 = some w ∧ w.2.1 + 1 = v.2.1) := by
  obtain ⟨-, n40, -⟩ := J.n
  obtain ⟨b1, b2, b3⟩ := dpv_b n40 (fun a b => bd_le P.2.1 P.2.2.2.2.2) (nP m q - i) i (by omega) v hv
  refine ⟨by omega, b2, fun hi2 => ?_⟩
  obtain ⟨c1, c2, c3, c4, w, c5, -, c6⟩ := b3 hi2
  exact ⟨c1, c2, c3, c4, w, c5, c6.symm⟩
theorem chn_wX (P : Ps me le mo co) (J : MIx m q) {fr : Nat} (hf : fr ≤ nP m q) {v : Nat × Nat × Nat} (hv : wyD m q me le mo co fr = some v) : ∀ k, k ≤ v.2.1 → ∃ w, wyD m q me le mo co (chn (wyD m q me le mo co) fr k) = some w ∧ w.2.1 + k = v.2.1 ∧ fr + k ≤ chn (wyD m q me le mo co) fr k ∧ chn (wyD m q me le mo co) fr k ≤ nP m q
  | 0, _ => ⟨v, hv, rfl, Nat.le_refl _, hf⟩
  | k + 1, hk => by
    obtain ⟨w, h1, h2, h3, h4⟩ := chn_wX P J hf hv k (by omega)
    have z : chn (wyD m q me le mo co) fr k < nP m q := by
      rcases Nat.lt_or_ge (chn (wyD m q me le mo co) fr k) (nP m q) with z | z
      · exact z
      · have e : chn (wyD m q me le mo co) fr k = nP m q := by omega
        rw [e, wyD_nX J] at h1
        have h1 := Option.some.inj h1
        subst h1
        have h2 : 0 + k = v.2.1 := h2
        omega
    obtain ⟨-, -, c⟩ := wyD_bX P J h4 h1
    obtain ⟨c1, c2, -, -, x, c5, c6⟩ := c z
    have e : chn (wyD m q me le mo co) fr (k + 1) = w.2.2 := by
      show (match wyD m q me le mo co (chn (wyD m q me le mo co) fr k) with | some v => v.2.2 | none => _) = _
      rw [h1]
    rw [e]
    exact ⟨x, c5, by omega, by omega, c2⟩
theorem chn_eX (P : Ps me le mo co) (J : MIx m q) {fr : Nat} (hf : fr ≤ nP m q) {v : Nat × Nat × Nat} (hv : wyD m q me le mo co fr = some v) : chn (wyD m q me le mo co) fr v.2.1 = nP m q := by
  obtain ⟨w, h1, h2, h3, h4⟩ := chn_wX P J hf hv v.2.1 (Nat.le_refl _)
  rcases Nat.lt_or_ge (chn (wyD m q me le mo co) fr v.2.1) (nP m q) with z | z
  · obtain ⟨-, -, c⟩ := wyD_bX P J h4 h1
    have := (c z).2.2.2.1
    omega
  · omega
theorem chn_sX (P : Ps me le mo co) (J : MIx m q) {fr : Nat} (hf : fr ≤ nP m q) {v : Nat × Nat × Nat} (hv : wyD m q me le mo co fr = some v) {k : Nat} (hk : k < v.2.1) : ∃ w, wyD m q me le mo co (chn (wyD m q me le mo co) fr k) = some w ∧ w.2.2 = chn (wyD m q me le mo co) fr (k + 1) ∧ chn (wyD m q me le mo co) fr k < w.2.2 ∧ w.2.2 ≤ nP m q ∧ chn (wyD m q me le mo co) fr k < nP m q ∧ sdB m q me le mo (chn (wyD m q me le mo co) fr k) (w.2.2 - 1) = true := by
  obtain ⟨w, h1, h2, h3, h4⟩ := chn_wX P J hf hv k (by omega)
  have z : chn (wyD m q me le mo co) fr k < nP m q := by
    rcases Nat.lt_or_ge (chn (wyD m q me le mo co) fr k) (nP m q) with z | z
    · exact z
    · have e : chn (wyD m q me le mo co) fr k = nP m q := by omega
      rw [e, wyD_nX J] at h1
      have h1 := Option.some.inj h1
      subst h1
      have h2 : 0 + k = v.2.1 := h2
      omega
  obtain ⟨-, -, c⟩ := wyD_bX P J h4 h1
  obtain ⟨c1, c2, c3, -⟩ := c z
  refine ⟨w, h1, ?_, c1, c2, z, c3⟩
  show _ = (match wyD m q me le mo co (chn (wyD m q me le mo co) fr k) with | some v => v.2.2 | none => _)
  rw [h1]
theorem c_solveX (P : Ps me le mo co) (L : BL h b m q me le mo co) (Q : BQ h b) (B : MIb m) (hq : vP m q) (J : MIx m q) {fr : Nat} (hf : fr < nP m q) : ∃ h1, MX0_solve h b (nI fr) = some (enL (wyD m q me le mo co fr), h1) ∧ Fr (Dw h b) h h1 ∧ AR h1 b (wyD m q me le mo co) fr (nP m q) := by
  obtain ⟨n, hn⟩ : ∃ n, n = nP m q := ⟨_, rfl⟩
  have j40 := (J.n).2.1
  rw [← hn] at hf j40 ⊢
  have k0 := L.1.1
  obtain ⟨-, k10, l10⟩ := L.1.2.2.2.1
  obtain ⟨-, k11, l11⟩ := L.1.2.2.2.2.1
  have c6 : gI h b 6 = nI n := by rw [hn]; exact L.2.1.1
  have n1011 := Q.2 10 11 (by omega) (by omega) (by omega) (by omega) (by omega)
  have nb10 := Q.1 10 (by omega) (by omega)
  have nb11 := Q.1 11 (by omega) (by omega)
  obtain ⟨g0, hg0⟩ : ∃ g, g = sI (sI h (gP h b 10) n (nI 0)) (gP h b 11) n (nI 0) := ⟨_, rfl⟩
  have G0 : Fr (Dw h b) h g0 := by rw [hg0]; exact (Fr.sI (Or.inl rfl)).trans (Fr.sI (Or.inr (Or.inl rfl)))
  have e0 : MX0_solve h b (nI fr) = MX0_solve_27 g0 b (nI fr) (lV n) := by
    unfold MX0_solve
    rw [gg_t k0, gg_t k10, c6, l10, gg_in (by omega) (by omega), nCl (by omega), lt_eq, gg_t k11, gI_sI, if_neg nb10.n, c6, l11, gg_in (by omega) (by omega), nCl (by omega), lt_eq, gI_sI, if_neg nb11.n, gI_sI, if_neg nb10.n, c6, hg0]
    simp only [ZL]
    rw [lV_m]
  rw [e0]
  unfold MX0_solve_27
  have K : ∃ r, it (fun s : Int32 × Hp => BX0_solve_27 s.2 b (nI fr) s.1) (lV n, g0) = some r ∧ (r.1 = enL (wyD m q me le mo co fr) ∧ Fr (Dw h b) h r.2 ∧ AR r.2 b (wyD m q me le mo co) fr n) := by
    refine it_cnt (fun d s => s.1 = lV (n - d) ∧ Fr (Dw h b) h s.2 ∧ AR s.2 b (wyD m q me le mo co) (n - d) n) (n - fr) (fun d s hd p => ?_) (fun s p => ?_) ⟨rfl, G0, ?_⟩
    · obtain ⟨a, g⟩ := s
      obtain ⟨p1, G, p3⟩ := p
      have p1 : a = lV (n - d) := p1
      have G : Fr (Dw h b) h g := G
      have p3 : AR g b (wyD m q me le mo co) (n - d) n := p3
      subst p1
      have A1 : AR g b (wyD m q me le mo co) (n - d - 1 + 1) (nP m q) := by rw [show n - d - 1 + 1 = n - d by omega, ← hn]; exact p3
      obtain ⟨g1, k1, k2, k3⟩ := c_solveAtX P (L.fr Q G) (Q.fr G) B hq J (i := n - d - 1) (by omega) A1
      have k2 : Fr (Dw g b) g g1 := k2
      have k2' : Fr (Dw h b) g g1 := k2.mono (fun c z => by unfold Dw at z ⊢; rw [G.2.2.1] at z; exact z)
      refine ⟨(lV (n - (d + 1)), g1), ?_, rfl, G.trans k2', ?_⟩
      · show BX0_solve_27 g b (nI fr) (lV (n - d)) = _
        unfold BX0_solve_27
        rw [if_neg (by rw [lV_lt (by omega) (by omega)]; omega), gg_t (L.fr Q G).1.1, lV_p (by omega), k1, ob_some, show nI (n - d - 1) + (-1 : Int32) = lV (n - d - 1) from lV_s _]
        exact rfl
      · show AR g1 b (wyD m q me le mo co) (n - (d + 1)) n
        rw [show n - (d + 1) = n - d - 1 by omega, hn]
        rw [hn] at k3
        exact k3
    · obtain ⟨a, g⟩ := s
      obtain ⟨p1, G, p3⟩ := p
      have p1 : a = lV (n - (n - fr)) := p1
      have G : Fr (Dw h b) h g := G
      have p4 : AR g b (wyD m q me le mo co) fr n := by
        have p3 : AR g b (wyD m q me le mo co) (n - (n - fr)) n := p3
        rw [show n - (n - fr) = fr by omega] at p3
        exact p3
      rw [show n - (n - fr) = fr by omega] at p1
      subst p1
      obtain ⟨r1, r2⟩ := p4 fr (Nat.le_refl _) (by omega)
      refine ⟨(enL (wyD m q me le mo co fr), g), ?_, rfl, G, p4⟩
      show BX0_solve_27 g b (nI fr) (lV fr) = _
      unfold BX0_solve_27 MX0_solve_43
      have Lg := L.fr Q G
      obtain ⟨-, k11', l11'⟩ := Lg.1.2.2.2.2.1
      rw [if_pos (by rw [lV_lt (by omega) (by omega)]; omega), gg_t Lg.1.1, gg_t k11', l11', gg_in (by omega) (by omega), nCl (by omega), r1]
      rfl
    · show AR g0 b (wyD m q me le mo co) (n - 0) n
      intro i hi1 hi2
      have hi : i = n := by omega
      subst hi
      have en : wyD m q me le mo co i = some (0, 0, 0) := by rw [hn]; exact wyD_nX J
      rw [en, hg0]
      refine ⟨by show gI (sI _ (gP h b 11) i (nI 0)) (gP h b 11) i = _; rw [gIl]; rfl, fun v hv => ?_⟩
      have hv := Option.some.inj hv
      subst hv
      refine ⟨?_, fun hlt => absurd hlt (Nat.lt_irrefl _)⟩
      show gI (sI (sI h (gP h b 10) i (nI 0)) (gP h b 11) i (nI 0)) (gP h b 10) i = nI 0
      rw [gI_sI, if_neg n1011.n, gIl]
  obtain ⟨⟨a, g⟩, k1, k2, k3, k4⟩ := K
  have k2 : a = enL (wyD m q me le mo co fr) := k2
  exact ⟨g, by rw [k1, k2], k3, k4⟩
end
/-! out of 97.c -/
section
variable {tg : Nat → List Nat} {h h1 h2 h' : Hp} {m : Nat → Int32} {p q b r x e me le mo co : Nat} {F : Nat → Int32}
theorem c_brX (K : Rt tg h r x) (S : RmS h r) (V : RmW h r m) (I : MIw m) (PS : PtS h p) (PV : PtX h p m q) (J : MIx m q) (A : Pa tg h p x) (hq : vP m q) (t : Int32) : ∃ h1, MX7_breakerFor h r p t = some (gP h r 14, h1) ∧ Sc tg r x h h1 ∧ BL h1 (gP h r 14) m q (pme m q t) (ple m q t) (pmo m q t) (pco m q t) ∧ BQ h1 (gP h r 14) ∧ gI h1 (gP h r 14) 1 = lV (pmr m q t) ∧ gI h1 (gP h r 14) 5 = nI (pfa m q t) := by
  obtain ⟨h1, k1, k2, k3, k4⟩ := c_breakerForX K S V I PS PV J A hq t
  have S1 := k2.rs K S
  have K1 := k2.rt K
  have e : gP h1 = gP h := k2.1.gp
  obtain ⟨b0, bS⟩ := S1.2.2.2.2.2.2.2.2.2.2.2.2.2.2.2.1
  rw [e] at b0 bS
  obtain ⟨u0, u1, u2, u3, u4, u5⟩ := k4
  have nz : ∀ i, 8 ≤ i → i ≤ 13 → gP h (gP h r 14) i ≠ 0 := fun i h8 h13 => by
    obtain ⟨-, c1, c2, c3, c4, c5, c6, -⟩ := bS
    have d1 := c1.1
    have d2 := c2.1
    have d3 := c3.1
    have d4 := c4.1
    have d5 := c5.1
    have d6 := c6.1
    rw [e] at d1 d2 d3 d4 d5 d6
    rcases (show i = 8 ∨ i = 9 ∨ i = 10 ∨ i = 11 ∨ i = 12 ∨ i = 13 by omega) with rfl | rfl | rfl | rfl | rfl | rfl
    · exact d1
    · exact d2
    · exact d3
    · exact d4
    · exact d5
    · exact d6
  refine ⟨h1, k1, k2, ⟨bS, k3, u0, u2, u3, u4⟩, ⟨fun i h8 h13 => ?_, fun i j h8 h13 g8 g13 hij => ?_⟩, u1, u5⟩
  · rw [e]
    exact ne_t (tg := tg) (by rw [K.a b0, K.o (nz i h8 h13)]; simp)
  · rw [e]
    exact ne_t (tg := tg) (by rw [K.o (nz i h8 h13), K.o (nz j g8 g13)]; simp [hij])
end
/-! out of 97.zzc -/
section
variable {m M : Nat → Int32} {k q l a b n : Nat} {c : Nat → Nat}
theorem wp_lsX (B : MIb m) (J : MIx m q) (hf : Nn m (70 + q / 5) ≤ 1) : ∀ d, a + d ≤ nP m q → lsN m q (a + d) + wpN m q a ≤ wpN m q (a + d) + lsN m q a
  | 0, _ => by rw [Nat.add_zero]; omega
  | d + 1, hk => by
    have ih := wp_lsX B J hf d (by omega)
    have c := wl_leX B J hf (k := a + d) (by omega) _ (Nat.le_refl _)
    show lsN m q (a + d) + Nn m (130 + 645 * q + 125 + (a + d)) + wpN m q a ≤ wpN m q (a + d) + wlN m q (a + d) (Nn m (130 + 645 * q + 125 + (a + d))) + lsN m q a
    omega
theorem sd_400X {me le mo co : Nat} (P : Ps me le mo co) (B : MIb m) (J : MIx m q) (hf : Nn m (70 + q / 5) ≤ 1) (hab : a ≤ b) (hb : b < nP m q) (hs : sdB m q me le mo a b = true) : lsN m q (b + 1) + wkN m q b ≤ 400 + lsN m q a + wkN m q a := by
  have w1 := wp_lsX B J hf (a := a) (b + 1 - a) (by omega)
  rw [show a + (b + 1 - a) = b + 1 by omega] at w1
  have w2 := wp_mono (m := m) (q := q) (a := a) (b + 1 - a)
  rw [show a + (b + 1 - a) = b + 1 by omega] at w2
  have wa : weN m q a = wkN m q a := by unfold weN; rw [if_neg (by omega)]
  have wb : weN m q b = wkN m q b := by unfold weN; rw [if_neg (by omega)]
  unfold sdB at hs
  have hs := of_decide_eq_true (Bool.and_eq_true_iff.mp hs).1
  unfold tiN wiN gaN at hs
  obtain ⟨p1, p2, p3, -⟩ := P
  rw [wa, wb] at hs
  have : wkN m q b - wkN m q a ≤ (wkN m q b - wkN m q a) * le := Nat.le_mul_of_pos_right _ (by omega)
  omega
end
/-! out of 97.i -/
section
variable {h h1 h' : Hp} {m : Nat → Int32} {p q a b l X : Nat}
theorem c_spIX (PS : PtS h p) (PV : PtX h p m q) (B : MIb m) (J : MIx m q) (hX : kd h X = 21 ∧ ln h X = 512) (n0 : Nq X p) (n1 : ∀ k, k ≤ 4 → Nq X (gP h p k)) {d : Nat} (hd : a + d ≤ b) (hb : b < nP m q) (hlen : (wtX m q a b).length ≤ 401) (g : Hp) (G : Fr (fun c => c = X) h g) (W : PLs g X (txR m q a d ++ blL m q a d)) : ∃ g1, Fr (fun c => c = X) h g1 ∧ PLs g1 X (txR m q a (d + 1)) ∧ MX5_spell_51 g p X (nI b) (nI (txR m q a d ++ blL m q a d).length) (nI (a + d)) (nI (lsN m q (a + d))) = MX5_spell_96 g1 p X (nI b) (nI (txR m q a (d + 1)).length) (nI (a + d)) := by
  obtain ⟨-, j40, -⟩ := J.n
  have s0 := PS.1
  obtain ⟨-, s0k, s0l⟩ := PS.2.1
  obtain ⟨-, s1k, s1l⟩ := PS.2.2.1
  have bg := PtX.bg PS PV J
  have ls0 := ls_leX J (a + d) (by omega)
  have ls1 := ls_leX J (a + d + 1) (by omega)
  have els : lsN m q (a + d + 1) = lsN m q (a + d) + Nn m (130 + 645 * q + 125 + (a + d)) := rfl
  have a6 := fun x hx => ((J.bt (k := a + d) (by omega)).2.2.2.2.2 x hx).2
  obtain ⟨N, hN⟩ : ∃ N, N = Nn m (130 + 645 * q + 125 + (a + d)) := ⟨_, rfl⟩
  rw [← hN] at els
  have keep : ∀ {g1 : Hp}, Fr (fun c => c = X) h g1 → gI g1 (gP h p 0) = gI h (gP h p 0) ∧ gI g1 (gP h p 1) = gI h (gP h p 1) := fun G1 => ⟨G1.2.2.2.2.2.2 _ (fun z => (n1 0 (by omega)).n z.symm), G1.2.2.2.2.2.2 _ (fun z => (n1 1 (by omega)).n z.symm)⟩
  have K : ∃ g1, (Fr (fun c => c = X) h g1 ∧ PLs g1 X (txR m q a (d + 1))) ∧ it (fun s : Int32 × Int32 × Hp => BX5_spell_51 s.2.2 p X (nI b) s.1 (nI (a + d)) s.2.1) (nI (txR m q a d ++ blL m q a d).length, nI (lsN m q (a + d)), g) = MX5_spell_96 g1 p X (nI b) (nI (txR m q a (d + 1)).length) (nI (a + d)) := by
    -- by how many letters are left
    have go : ∀ e x, x + e = N → ∀ g1, Fr (fun c => c = X) h g1 → PLs g1 X (txR m q a d ++ blL m q a d ++ (bitL m q (a + d)).take x) → ∃ g2, (Fr (fun c => c = X) h g2 ∧ PLs g2 X (txR m q a (d + 1))) ∧ it (fun s : Int32 × Int32 × Hp => BX5_spell_51 s.2.2 p X (nI b) s.1 (nI (a + d)) s.2.1) (nI (txR m q a d ++ blL m q a d ++ (bitL m q (a + d)).take x).length, nI (lsN m q (a + d) + x), g1) = MX5_spell_96 g2 p X (nI b) (nI (txR m q a (d + 1)).length) (nI (a + d)) := by
      intro e
      induction e with
      | zero =>
        intro x hx g1 G1 W1
        have hx : x = N := hx
        subst hx
        rw [show (bitL m q (a + d)).take x = bitL m q (a + d) by rw [hN, ← bitL_len]; exact List.take_length] at W1 ⊢
        refine ⟨g1, ⟨G1, W1⟩, ?_⟩
        rw [it_eq]
        have e0 : BX5_spell_51 g1 p X (nI b) (nI (txR m q a d ++ blL m q a d ++ bitL m q (a + d)).length) (nI (a + d)) (nI (lsN m q (a + d) + x)) = up1 (MX5_spell_96 g1 p X (nI b) (nI (txR m q a d ++ blL m q a d ++ bitL m q (a + d)).length) (nI (a + d))) := by
          unfold BX5_spell_51
          simp only [ZL]
          rw [G1.1, G1.2.1, G1.2.2.1, gg_t s0, gg_t s1k, s1l, nAdd (a + d) 1, gg_in (by omega) (by omega), nCl (by omega), (keep G1).2, bg (a + d + 1) (by omega), els, if_pos (nI_le (Nat.le_refl _) (by omega))]
        show (match BX5_spell_51 g1 p X (nI b) (nI (txR m q a d ++ blL m q a d ++ bitL m q (a + d)).length) (nI (a + d)) (nI (lsN m q (a + d) + x)) with | _ => _) = _
        rw [e0]
        show _ = MX5_spell_96 g1 p X (nI b) (nI (txR m q a d ++ blL m q a d ++ bitL m q (a + d)).length) (nI (a + d))
        cases MX5_spell_96 g1 p X (nI b) (nI (txR m q a d ++ blL m q a d ++ bitL m q (a + d)).length) (nI (a + d)) <;> rfl
      | succ e ih =>
        intro x hx g1 G1 W1
        have lb := wt_pre (m := m) (q := q) (x := x) hd
        have hx2 : x < Nn m (130 + 645 * q + 125 + (a + d)) := by omega
        have lt := PtX.lt PS PV J (k := a + d) (i := x) (by omega) hx2
        have c25 := a6 x hx2
        obtain ⟨L, hL⟩ : ∃ L, L = txR m q a d ++ blL m q a d ++ (bitL m q (a + d)).take x := ⟨_, rfl⟩
        have nx := ih (x + 1) (by omega) (sI g1 X L.length (nI (97 + Nn m (130 + 645 * q + 165 + 12 * (a + d) + x)))) (G1.trans (Fr.sI (S := fun c => c = X) rfl)) (by
          rw [bitL_take hx2, ← List.append_assoc, ← hL]
          rw [← hL] at W1
          exact W1.w)
        obtain ⟨g2, y1, y2⟩ := nx
        refine ⟨g2, y1, ?_⟩
        rw [← y2, bitL_take hx2, ← List.append_assoc, ← hL]
        rw [← hL] at lb
        refine it_next ?_
        show BX5_spell_51 g1 p X (nI b) (nI L.length) (nI (a + d)) (nI (lsN m q (a + d) + x)) = _
        have bb := bB (97 + Nn m (130 + 645 * q + 165 + 12 * (a + d) + x)) (by omega)
        unfold BX5_spell_51
        simp only [ZL]
        rw [G1.1, G1.2.1, G1.2.2.1, gg_t s0, gg_t s1k, s1l, nAdd (a + d) 1, gg_in (by omega) (by omega), nCl (by omega), (keep G1).2, bg (a + d + 1) (by omega), els, if_neg (nI_ge (by omega) (by omega)), gg_t hX.1, hX.2, if_neg (nI_ge (by omega) (by omega)), gg_t s0k, s0l, gg_in (by omega) (by omega), gg_in (by omega) (by omega), nCl (by omega), nCl (by omega), (keep G1).1, lt, nAdd, bb, lt_eq, nAdd, nAdd, List.length_append]
        rfl
    obtain ⟨g2, k1, k2⟩ := go N 0 (by omega) g G (by rw [List.take_zero, List.append_nil]; exact W)
    rw [List.take_zero, List.append_nil] at k2
    exact ⟨g2, k1, k2⟩
  obtain ⟨g1, ⟨k1, k2⟩, k3⟩ := K
  exact ⟨g1, k1, k2, k3⟩
end
