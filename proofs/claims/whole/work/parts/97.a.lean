/-! the reference: facts, rules, lines -/
section
variable {h h1 h' : Hp} {m : Nat → Int32} {q e me le mo co : Nat}
theorem Rk.w {S : Nat → Prop} (G : Fr S h h1) (hs : ∀ b, S b → 78 ≤ b ∧ b ≤ 108) : Rk h h1 := by
  have e : gI h1 73 = gI h 73 := G.2.2.2.2.2.2 73 (fun z => by have := hs 73 z; omega)
  exact ⟨G.mono (fun b z => Or.inr (hs b z)), by rw [e], by rw [e], by rw [e], by rw [e]⟩
theorem r_facts (R : RS h) (em : gI h 74 = m) (B : MIb m) (hq : vP m q) (t : Int32) : ∃ h1, MX12_factsOf h 73 (nI q) t = some h1 ∧ Rk h h1 ∧ gI h1 73 = gI h 73 ∧ RF h1 (fcP m q t) := by
  have hb := hq.1
  have W : ∀ a b : Int32, (if m (70 + q / 5) = nI 1 then nI 1 else nI 0) = a → (if t ≤ m (90 + q / 5) then nI 0 else nI 1) = b → zO a → zO b → ∃ h1, MX12_factsOf_60 (sI h 84 0 a) 73 t (nI (130 + 645 * q)) (m (90 + q / 5)) 84 (nI 1) b = some h1 ∧ Rk h h1 ∧ gI h1 73 = gI h 73 ∧ RF h1 (fcP m q t) := fun a b ha hb za zb => by
    have vb : vp_nar .boolean b = b := by rcases zb with rfl | rfl <;> decide
    obtain ⟨g, hg⟩ : ∃ g, g = sI (sI (sI (sI (sI (sI (sI (sI (sI h 84 0 a) 84 1 b) 84 2 (nI 0)) 85 0 (m (130 + 645 * q))) 85 1 (m (130 + 645 * q + 1))) 85 2 (m (90 + q / 5))) 85 3 t) 85 4 (nI 0)) 85 5 (nI 99) := ⟨_, rfl⟩
    have G : Fr (fun b => b = 84 ∨ b = 85) h g := by
      rw [hg]
      exact ((((((((Fr.sI (Or.inl rfl)).trans (Fr.sI (Or.inl rfl))).trans (Fr.sI (Or.inl rfl))).trans (Fr.sI (Or.inr rfl))).trans (Fr.sI (Or.inr rfl))).trans (Fr.sI (Or.inr rfl))).trans (Fr.sI (Or.inr rfl))).trans (Fr.sI (Or.inr rfl))).trans (Fr.sI (Or.inr rfl))
    refine ⟨g, ?_, Rk.w G (fun b z => by omega), G.2.2.2.2.2.2 73 (fun z => by omega), fun j hj => ?_, fun j hj => ?_⟩
    · rw [hg]
      simp (disch := omega) only [MX12_factsOf_60, ↓reduceIte, Nat.reduceLT, Nat.reduceLeDiff, Nat.reduceEqDiff, ZL, nAdd, nMul, nSub, nLt, nLe, nEq, nCl, nDiv, nRem2, nM1, nM2, nM3, nM4, nM5, nM6, gg_in, gg_rf, gg_T, if_true, if_false, ↓lt_eq, ob_some, b2_some, up1_some, kd_sI, ln_sI, gP_sI, gI_sI, kd_rI, ln_rI, gP_rI, gI_rI, kd_bmp, ln_bmp, gP_bmp, gI_bmp, up_at, i0, i1, RS.f R, em, vb, vB0, Nat.add_zero]
    · have e84 : ∀ j, gI g 84 j = if j = 2 then nI 0 else if j = 1 then b else if j = 0 then a else gI h 84 j := fun j => by
        rw [hg, gI_sI, if_neg (show ¬ 84 = 85 by omega), gI_sI, if_neg (show ¬ 84 = 85 by omega), gI_sI, if_neg (show ¬ 84 = 85 by omega), gI_sI, if_neg (show ¬ 84 = 85 by omega), gI_sI, if_neg (show ¬ 84 = 85 by omega), gI_sI, if_neg (show ¬ 84 = 85 by omega), gI_sI, if_pos (Eq.refl 84), up_at, gI_sI, if_pos (Eq.refl 84), up_at, gI_sI, if_pos (Eq.refl 84), up_at]
      rw [e84]
      unfold fcP
      rw [ha, hb]
      rcases (show j = 0 ∨ j = 1 ∨ j = 2 by omega) with rfl | rfl | rfl
      · exact ⟨rfl, za⟩
      · exact ⟨rfl, zb⟩
      · exact ⟨rfl, Or.inl rfl⟩
    · have e85 : ∀ j, gI g 85 j = if j = 5 then nI 99 else if j = 4 then nI 0 else if j = 3 then t else if j = 2 then m (90 + q / 5) else if j = 1 then m (130 + 645 * q + 1) else if j = 0 then m (130 + 645 * q) else gI h 85 j := fun j => by
        rw [hg, gI_sI, if_pos (Eq.refl 85), up_at, gI_sI, if_pos (Eq.refl 85), up_at, gI_sI, if_pos (Eq.refl 85), up_at, gI_sI, if_pos (Eq.refl 85), up_at, gI_sI, if_pos (Eq.refl 85), up_at, gI_sI, if_pos (Eq.refl 85), up_at, gI_sI, if_neg (show ¬ 85 = 84 by omega), gI_sI, if_neg (show ¬ 85 = 84 by omega), gI_sI, if_neg (show ¬ 85 = 84 by omega)]
      rw [e85]
      unfold fcP
      rcases d6 hj with rfl | rfl | rfl | rfl | rfl | rfl <;> rfl
  have K : ∀ a : Int32, (if m (70 + q / 5) = nI 1 then nI 1 else nI 0) = a → zO a → ∃ h1, MX12_factsOf_43 h 73 t (nI (130 + 645 * q)) (m (90 + q / 5)) 84 (nI 0) a = some h1 ∧ Rk h h1 ∧ gI h1 73 = gI h 73 ∧ RF h1 (fcP m q t) := fun a ha za => by
    have va : vp_nar .boolean a = a := by rcases za with rfl | rfl <;> decide
    by_cases z : t ≤ m (90 + q / 5)
    · have := W a (nI 0) ha (if_pos z) za (Or.inl rfl)
      simp (disch := omega) only [MX12_factsOf_43, ↓reduceIte, Nat.reduceLT, Nat.reduceLeDiff, Nat.reduceEqDiff, ZL, nAdd, nMul, nSub, nLt, nLe, nEq, nCl, nDiv, nRem2, nM1, nM2, nM3, nM4, nM5, nM6, gg_in, gg_rf, gg_T, if_true, if_false, ↓lt_eq, ob_some, b2_some, up1_some, kd_sI, ln_sI, gP_sI, gI_sI, kd_rI, ln_rI, gP_rI, gI_rI, kd_bmp, ln_bmp, gP_bmp, gI_bmp, up_at, i0, i1, RS.f R, va, if_pos z]
      exact this
    · have := W a (nI 1) ha (if_neg z) za (Or.inr rfl)
      simp (disch := omega) only [MX12_factsOf_43, ↓reduceIte, Nat.reduceLT, Nat.reduceLeDiff, Nat.reduceEqDiff, ZL, nAdd, nMul, nSub, nLt, nLe, nEq, nCl, nDiv, nRem2, nM1, nM2, nM3, nM4, nM5, nM6, gg_in, gg_rf, gg_T, if_true, if_false, ↓lt_eq, ob_some, b2_some, up1_some, kd_sI, ln_sI, gP_sI, gI_sI, kd_rI, ln_rI, gP_rI, gI_rI, kd_bmp, ln_bmp, gP_bmp, gI_bmp, up_at, i0, i1, RS.f R, va, if_neg z]
      exact this
  have e0 : ∀ a : Int32, (if m (70 + q / 5) = nI 1 then nI 1 else nI 0) = a → MX12_factsOf h 73 (nI q) t = MX12_factsOf_43 h 73 t (nI (130 + 645 * q)) (m (90 + q / 5)) 84 (nI 0) a := fun a ha => by
    unfold MX12_factsOf MX12_part0
    by_cases z : m (70 + q / 5) = nI 1
    · rw [if_pos z] at ha
      subst ha
      simp (disch := omega) only [↓reduceIte, Nat.reduceLT, Nat.reduceLeDiff, Nat.reduceEqDiff, ZL, nAdd, nMul, nSub, nLt, nLe, nEq, nCl, nDiv, nRem2, nM1, nM2, nM3, nM4, nM5, nM6, gg_in, gg_rf, gg_T, if_true, if_false, ↓lt_eq, ob_some, b2_some, up1_some, kd_sI, ln_sI, gP_sI, gI_sI, kd_rI, ln_rI, gP_rI, gI_rI, kd_bmp, ln_bmp, gP_bmp, gI_bmp, up_at, i0, i1, RS.f R, em, if_pos z]
    · rw [if_neg z] at ha
      subst ha
      simp (disch := omega) only [↓reduceIte, Nat.reduceLT, Nat.reduceLeDiff, Nat.reduceEqDiff, ZL, nAdd, nMul, nSub, nLt, nLe, nEq, nCl, nDiv, nRem2, nM1, nM2, nM3, nM4, nM5, nM6, gg_in, gg_rf, gg_T, if_true, if_false, ↓lt_eq, ob_some, b2_some, up1_some, kd_sI, ln_sI, gP_sI, gI_sI, kd_rI, ln_rI, gP_rI, gI_rI, kd_bmp, ln_bmp, gP_bmp, gI_bmp, up_at, i0, i1, RS.f R, em, if_neg z]
  by_cases z : m (70 + q / 5) = nI 1
  · obtain ⟨h1, k⟩ := K (nI 1) (if_pos z) (Or.inr rfl)
    exact ⟨h1, by rw [e0 (nI 1) (if_pos z)]; exact k.1, k.2⟩
  · obtain ⟨h1, k⟩ := K (nI 0) (if_neg z) (Or.inl rfl)
    exact ⟨h1, by rw [e0 (nI 0) (if_neg z)]; exact k.1, k.2⟩
/-- the numbers of the rules, as the reference has them -/
def RR (h : Hp) (m : Nat → Int32) (e : Nat) (F : Nat → Int32) : Prop := gI h 73 25 = nI (sdM m e (lrM m e F 0) 1 60) ∧ gI h 73 26 = lV (lrM m e F 0) ∧ gI h 73 27 = nI (sdM m e (lrM m e F 1) 1 2) ∧ gI h 73 28 = nI (sdM m e (lrM m e F 1) 2 6) ∧ gI h 73 29 = nI (sdM m e (lrM m e F 2) 1 25) ∧ gI h 73 30 = nI (sdM m e (lrM m e F 3) 1 0)
theorem r_tells (R : RS h) (em : gI h 74 = m) (I : MIw m) (Z : StM m) (hq : vP m q) (t : Int32) : ∃ h1, MX12_tells h 73 (nI q) t = some h1 ∧ Rk h h1 ∧ RR h1 m (stI m t (Nn m 2)) (fcP m q t) := by
  have he := stI_le (m := m) (x := t) (Nn m 2)
  have b2 : Nn m 2 ≤ 10 := (I.1.f).2.2.1.2
  obtain ⟨h1, k1, K1, -, f1⟩ := r_facts R em I.1 hq t
  have R1 := K1.rs R
  have m1 : gI h1 74 = m := by rw [K1.g (by omega) (by omega)]; exact em
  have so := r_styleOf R1 m1 I.1 t
  obtain ⟨e, hee⟩ : ∃ e, e = stI m t (Nn m 2) := ⟨_, rfl⟩
  rw [← hee] at he so ⊢
  obtain ⟨F, hF⟩ : ∃ F, F = fcP m q t := ⟨_, rfl⟩
  rw [← hF] at f1 ⊢
  have nr := nR_le I he
  have lle : ∀ w, lrM m e F w ≤ 12 := fun w => by have := lrM_le (m := m) (e := e) (F := F) (w := w); omega
  have l0 : ∀ w, e = 0 → lrM m e F w = 0 := fun w z => by
    have := lrM_le (m := m) (e := e) (F := F) (w := w)
    rw [show nR m e = 0 from if_pos z] at this
    omega
  have lv : ∀ w i, i = 1 ∨ i = 2 → (lrM m e F w ≠ 0 → m (yA e + 2 + 5 * (lrM m e F w - 1) + i) = nI (Nn m (yA e + 2 + 5 * (lrM m e F w - 1) + i))) := fun w i hi z => (rl_v I he lrM_le hi z).1
  have st : ∀ {g : Hp}, Rk h g → RF g F → ∀ w, w < 7 → ∃ g1, MX12_lastRule g 73 (stV e) (nI w) = some (lV (lrM m e F w), g1) ∧ Rk h g1 ∧ RF g1 F ∧ ∀ j, j ≠ 24 → gI g1 73 j = gI g 73 j := fun {g} K f w hw => by
    have Rg1 := K.rs R
    have mg : gI g 74 = m := by rw [K.g (by omega) (by omega)]; exact em
    obtain ⟨g1, a1, a2⟩ := r_last Rg1 mg f I Z he hw
    exact ⟨g1, a1, K.trans a2.rk, a2.rf f, a2.2⟩
  have wr : ∀ {g : Hp} {j : Nat} {v : Int32}, Rk h g → RF g F → (j ≠ 0 ∧ j ≠ 4 ∧ j ≠ 6 ∧ j ≠ 9) → Rk h (sI g 73 j v) ∧ RF (sI g 73 j v) F := fun {g j v} K f hj => ⟨K.trans (Rk.f hj), by
    unfold RF
    rw [gI_sI, if_neg (by omega), gI_sI, if_neg (by omega)]
    exact f⟩
  have sd : ∀ {g : Hp}, Rk h g → ∀ w i d, i = 1 ∨ i = 2 → d < 100 → MX12_said g 73 (stV e) (lV (lrM m e F w)) (nI i) (nI d) = some (nI (sdM m e (lrM m e F w) i d)) := fun {g} K w i d hi hd => r_said (K.rs R) (by rw [K.g (by omega) (by omega)]; exact em) (by omega) (l0 w) (lle w) (by omega) hd (lv w i hi)
  obtain ⟨g1, a1, K2, f2, u2⟩ := st K1 f1 0 (by omega)
  obtain ⟨K3, f3⟩ := wr (j := 26) (v := lV (lrM m e F 0)) K2 f2 (by omega)
  obtain ⟨K4, f4⟩ := wr (j := 25) (v := nI (sdM m e (lrM m e F 0) 1 60)) K3 f3 (by omega)
  obtain ⟨g2, a2, K5, f5, u5⟩ := st K4 f4 1 (by omega)
  obtain ⟨K6, f6⟩ := wr (j := 27) (v := nI (sdM m e (lrM m e F 1) 1 2)) K5 f5 (by omega)
  obtain ⟨K7, f7⟩ := wr (j := 28) (v := nI (sdM m e (lrM m e F 1) 2 6)) K6 f6 (by omega)
  obtain ⟨g3, a3, K8, f8, u8⟩ := st K7 f7 2 (by omega)
  obtain ⟨K9, f9⟩ := wr (j := 29) (v := nI (sdM m e (lrM m e F 2) 1 25)) K8 f8 (by omega)
  obtain ⟨g4, a4, K10, f10, u10⟩ := st K9 f9 3 (by omega)
  obtain ⟨K11, f11⟩ := wr (j := 30) (v := nI (sdM m e (lrM m e F 3) 1 0)) K10 f10 (by omega)
  have kk : ∀ {g : Hp}, Rk h g → kd g 73 = 11 := fun K => (RS.f (K.rs R)).1
  refine ⟨_, ?_, K11, ?_⟩
  · unfold MX12_tells
    rw [gg_t (RS.f R).1, k1, ob_some, gg_t (kk K1), so, ob_some]
    simp only [ZL]
    rw [a1, b2_some, gg_t (kk K2), lt_eq, gIl, sd K3 0 1 60 (Or.inl rfl) (by omega), ob_some, lt_eq, a2, b2_some, gg_t (kk K5), sd K5 1 1 2 (Or.inl rfl) (by omega), ob_some, lt_eq, sd K6 1 2 6 (Or.inr rfl) (by omega), ob_some, lt_eq, a3, b2_some, gg_t (kk K8), sd K8 2 1 25 (Or.inl rfl) (by omega), ob_some, lt_eq, a4, b2_some, gg_t (kk K10), sd K10 3 1 0 (Or.inl rfl) (by omega), ob_some, lt_eq]
  · have w1 : ∀ (g : Hp) (j l : Nat) (v : Int32), l ≠ j → gI (sI g 73 j v) 73 l = gI g 73 l := fun g j l v hl => by rw [gI_sI, if_pos rfl, up_at, if_neg hl]
    refine ⟨?_, ?_, ?_, ?_, ?_, ?_⟩
    · rw [w1 _ _ _ _ (by omega), u10 _ (by omega), w1 _ _ _ _ (by omega), u8 _ (by omega), w1 _ _ _ _ (by omega), w1 _ _ _ _ (by omega), u5 _ (by omega), gIl]
    · rw [w1 _ _ _ _ (by omega), u10 _ (by omega), w1 _ _ _ _ (by omega), u8 _ (by omega), w1 _ _ _ _ (by omega), w1 _ _ _ _ (by omega), u5 _ (by omega), w1 _ _ _ _ (by omega), gIl]
    · rw [w1 _ _ _ _ (by omega), u10 _ (by omega), w1 _ _ _ _ (by omega), u8 _ (by omega), w1 _ _ _ _ (by omega), gIl]
    · rw [w1 _ _ _ _ (by omega), u10 _ (by omega), w1 _ _ _ _ (by omega), u8 _ (by omega), gIl]
    · rw [w1 _ _ _ _ (by omega), u10 _ (by omega), gIl]
    · rw [gIl]
/-! lines -/
theorem r_endsWord (R : RS h) (em : gI h 74 = m) (hq : vP m q) (J : MIp m q) {k : Nat} (hk : k < nP m q) : MX12_endsWord h 73 (nI (130 + 645 * q)) (nI k) = some (if weN m q (k + 1) = weN m q k then nI 0 else nI 1) := by
  obtain ⟨j1, j2, j3⟩ := J.n
  have hb := hq.1
  have pd := pd_iff J hk
  unfold MX12_endsWord
  by_cases z : k + 1 = nP m q
  · rw [if_neg (fun w => pd.mp w (Or.inl z))]
    have z2 : k = nP m q - 1 := by omega
    simp (disch := omega) only [↓reduceIte, Nat.reduceLT, Nat.reduceLeDiff, Nat.reduceEqDiff, ZL, nAdd, nMul, nSub, nLt, nLe, nEq, nCl, nDiv, nRem2, nM1, nM2, nM3, nM4, nM5, nM6, gg_in, gg_rf, gg_T, if_true, if_false, ↓lt_eq, ob_some, b2_some, up1_some, kd_sI, ln_sI, gP_sI, gI_sI, kd_rI, ln_rI, gP_rI, gI_rI, kd_bmp, ln_bmp, gP_bmp, gI_bmp, up_at, i0, i1, RS.f R, em, j1, z2]
  · have z2 : ¬ k = nP m q - 1 := by omega
    by_cases w : m (130 + 645 * q + 85 + k) = m (130 + 645 * q + 85 + k + 1)
    · rw [if_pos (pd.mpr (fun y => by
        rcases y with y | y
        · exact z y
        · exact y w))]
      simp (disch := omega) only [↓reduceIte, Nat.reduceLT, Nat.reduceLeDiff, Nat.reduceEqDiff, ZL, nAdd, nMul, nSub, nLt, nLe, nEq, nCl, nDiv, nRem2, nM1, nM2, nM3, nM4, nM5, nM6, gg_in, gg_rf, gg_T, if_true, if_false, ↓lt_eq, ob_some, b2_some, up1_some, kd_sI, ln_sI, gP_sI, gI_sI, kd_rI, ln_rI, gP_rI, gI_rI, kd_bmp, ln_bmp, gP_bmp, gI_bmp, up_at, i0, i1, RS.f R, em, j1, if_neg z2, if_pos w]
    · rw [if_neg (fun y => pd.mp y (Or.inr w))]
      simp (disch := omega) only [↓reduceIte, Nat.reduceLT, Nat.reduceLeDiff, Nat.reduceEqDiff, ZL, nAdd, nMul, nSub, nLt, nLe, nEq, nCl, nDiv, nRem2, nM1, nM2, nM3, nM4, nM5, nM6, gg_in, gg_rf, gg_T, if_true, if_false, ↓lt_eq, ob_some, b2_some, up1_some, kd_sI, ln_sI, gP_sI, gI_sI, kd_rI, ln_rI, gP_rI, gI_rI, kd_bmp, ln_bmp, gP_bmp, gI_bmp, up_at, i0, i1, RS.f R, em, j1, if_neg z2, if_neg w]
theorem r_gaps (R : RS h) (em : gI h 74 = m) (hq : vP m q) (J : MIp m q) {i k : Nat} (hi : i ≤ k) (hk : k < nP m q) : MX12_gapsOf h 73 (nI (130 + 645 * q)) (nI i) (nI k) = some (nI (gaN m q i k)) := by
  have hb := hq.1
  obtain ⟨j1, j2, j3⟩ := J.n
  have a := (J.bt (k := i) (by omega)).1
  have b := (J.bt hk).1
  have mw : weN m q i ≤ weN m q k := by
    have := we_mono J (a := i) (k - i) (by omega)
    rwa [show i + (k - i) = k by omega] at this
  have e1 := (we_s J hk).2.2
  have e2 := (we_s J (k := i) (by omega)).2.2
  unfold MX12_gapsOf gaN
  rw [e1, e2] at mw ⊢
  simp (disch := omega) only [↓reduceIte, Nat.reduceLT, Nat.reduceLeDiff, Nat.reduceEqDiff, ZL, nAdd, nMul, nSub, nLt, nLe, nEq, nCl, nDiv, nRem2, nM1, nM2, nM3, nM4, nM5, nM6, gg_in, gg_rf, gg_T, if_true, if_false, ↓lt_eq, ob_some, b2_some, up1_some, kd_sI, ln_sI, gP_sI, gI_sI, kd_rI, ln_rI, gP_rI, gI_rI, kd_bmp, ln_bmp, gP_bmp, gI_bmp, up_at, i0, i1, RS.f R, em, a, b]
theorem r_wide (R : RS h) (em : gI h 74 = m) (B : MIb m) (hq : vP m q) (J : MIp m q) {i k : Nat} (hi : i ≤ k) (hk : k < nP m q) : MX12_wide h 73 (nI q) (nI i) (nI k) = some (nI (wiN m q i k)) := by
  have hb := hq.1
  obtain ⟨j1, j2, j3⟩ := J.n
  obtain ⟨f1, f2⟩ := fc_v B hq
  obtain ⟨f, hf⟩ : ∃ f, f = Nn m (70 + q / 5) := ⟨_, rfl⟩
  rw [← hf] at f1 f2
  have hyv := wd_v B (f := f) (c := 26) f2 (by omega)
  have ehy : hyN m q = Nn m (16 + 27 * f + 26) := by unfold hyN; rw [hf]
  have mp : ∀ a, i ≤ a → wpN m q i ≤ wpN m q a := fun a ha => by
    have := wp_mono (m := m) (q := q) (a := i) (a - i)
    rwa [show i + (a - i) = a by omega] at this
  -- the pieces, one behind the other
  have pieces : ∀ n0, n0 ≤ 100 → MX12_wide_54 h 73 (nI k) (nI (130 + 645 * q)) (nI (16 + 27 * f)) (nI n0) (nI i) = some (nI (n0 + (wpN m q (k + 1) - wpN m q i))) := fun n0 hn0 => by
    unfold MX12_wide_54
    refine it_seq2 (fun d => (nI (n0 + (wpN m q (i + d) - wpN m q i)), nI (i + d))) (k + 1 - i) (by simp) (fun d hd => ?_) ?_
    · show BX12_wide_54 h 73 (nI k) (nI (130 + 645 * q)) (nI (16 + 27 * f)) (nI (n0 + (wpN m q (i + d) - wpN m q i))) (nI (i + d)) = _
      obtain ⟨a1, a2, a3, a4, a5, a6⟩ := J.bt (k := i + d) (by omega)
      have w0 := wp_le B J (by omega) (i + d) (by omega)
      have wl := fun x hx => wl_le B J (by omega) (k := i + d) (by omega) x hx
      unfold BX12_wide_54
      rw [if_neg (nI_nlt (by omega) (by omega))]
      unfold MX12_wide_63
      refine Eq.trans (it_seq2 (fun x => (nI (n0 + (wpN m q (i + d) - wpN m q i) + wlN m q (i + d) x), nI x)) (Nn m (130 + 645 * q + 125 + (i + d))) rfl (fun x hx => ?_) ?_) rfl
      · show BX12_wide_63 h 73 (nI k) (nI (130 + 645 * q)) (nI (16 + 27 * f)) (nI (n0 + (wpN m q (i + d) - wpN m q i) + wlN m q (i + d) x)) (nI (i + d)) (nI x) = _
        obtain ⟨c1, c2⟩ := a6 x hx
        have wv := wd_v B (f := f) (c := Nn m (130 + 645 * q + 165 + 12 * (i + d) + x)) f2 (by omega)
        have ew1 : wlN m q (i + d) (x + 1) = wlN m q (i + d) x + Nn m (16 + 27 * f + Nn m (130 + 645 * q + 165 + 12 * (i + d) + x)) := by rw [hf]; rfl
        rw [ew1, ← Nat.add_assoc]
        unfold BX12_wide_63
        simp (disch := omega) only [↓reduceIte, Nat.reduceLT, Nat.reduceLeDiff, Nat.reduceEqDiff, ZL, nAdd, nMul, nSub, nLt, nLe, nEq, nCl, nDiv, nRem2, nM1, nM2, nM3, nM4, nM5, nM6, gg_in, gg_rf, gg_T, if_true, if_false, ↓lt_eq, ob_some, b2_some, up1_some, kd_sI, ln_sI, gP_sI, gI_sI, kd_rI, ln_rI, gP_rI, gI_rI, kd_bmp, ln_bmp, gP_bmp, gI_bmp, up_at, i0, i1, RS.f R, em, a3, c1, wv.1]
      · show BX12_wide_63 h 73 (nI k) (nI (130 + 645 * q)) (nI (16 + 27 * f)) (nI (n0 + (wpN m q (i + d) - wpN m q i) + wlN m q (i + d) (Nn m (130 + 645 * q + 125 + (i + d))))) (nI (i + d)) (nI (Nn m (130 + 645 * q + 125 + (i + d)))) = some (.inr (.inl (nI (n0 + (wpN m q (i + d + 1) - wpN m q i)), nI (i + d + 1))))
        have e : wpN m q (i + d + 1) = wpN m q (i + d) + wlN m q (i + d) (Nn m (130 + 645 * q + 125 + (i + d))) := rfl
        have := mp (i + d) (by omega)
        rw [e, show n0 + (wpN m q (i + d) + wlN m q (i + d) (Nn m (130 + 645 * q + 125 + (i + d))) - wpN m q i) = n0 + (wpN m q (i + d) - wpN m q i) + wlN m q (i + d) (Nn m (130 + 645 * q + 125 + (i + d))) by omega]
        unfold BX12_wide_63
        simp (disch := omega) only [↓reduceIte, Nat.reduceLT, Nat.reduceLeDiff, Nat.reduceEqDiff, ZL, nAdd, nMul, nSub, nLt, nLe, nEq, nCl, nDiv, nRem2, nM1, nM2, nM3, nM4, nM5, nM6, gg_in, gg_rf, gg_T, if_true, if_false, ↓lt_eq, ob_some, b2_some, up1_some, kd_sI, ln_sI, gP_sI, gI_sI, kd_rI, ln_rI, gP_rI, gI_rI, kd_bmp, ln_bmp, gP_bmp, gI_bmp, up_at, i0, i1, RS.f R, em, a3]
    · show BX12_wide_54 h 73 (nI k) (nI (130 + 645 * q)) (nI (16 + 27 * f)) (nI (n0 + (wpN m q (i + (k + 1 - i)) - wpN m q i))) (nI (i + (k + 1 - i))) = _
      rw [show i + (k + 1 - i) = k + 1 by omega]
      unfold BX12_wide_54
      rw [if_pos (nI_lt (by omega) (by omega))]
  have ends := r_endsWord R em hq J hk
  have t49 : ∀ n0, n0 ≤ 100 → MX12_wide_49 h 73 (nI i) (nI k) (nI (130 + 645 * q)) (nI (16 + 27 * f)) (nI n0) = some (nI (n0 + (wpN m q (k + 1) - wpN m q i))) := fun n0 hn => by
    unfold MX12_wide_49
    exact pieces n0 hn
  unfold MX12_wide wiN
  rw [r_part0, ob_some]
  by_cases z : weN m q (k + 1) = weN m q k
  · rw [if_pos z] at ends ⊢
    have := t49 (hyN m q) (by omega)
    rw [Nat.add_comm (hyN m q)] at this
    have e26 : m (16 + 27 * f + 26) = nI (hyN m q) := by rw [ehy]; exact hyv.1
    simp (disch := omega) only [↓reduceIte, Nat.reduceLT, Nat.reduceLeDiff, Nat.reduceEqDiff, ZL, nAdd, nMul, nSub, nLt, nLe, nEq, nCl, nDiv, nRem2, nM1, nM2, nM3, nM4, nM5, nM6, gg_in, gg_rf, gg_T, if_true, if_false, ↓lt_eq, ob_some, b2_some, up1_some, kd_sI, ln_sI, gP_sI, gI_sI, kd_rI, ln_rI, gP_rI, gI_rI, kd_bmp, ln_bmp, gP_bmp, gI_bmp, up_at, i0, i1, RS.f R, em, f1, ends, e26]
    exact this
  · rw [if_neg z] at ends ⊢
    have := t49 0 (by omega)
    rw [Nat.zero_add] at this
    simp (disch := omega) only [↓reduceIte, Nat.reduceLT, Nat.reduceLeDiff, Nat.reduceEqDiff, ZL, nAdd, nMul, nSub, nLt, nLe, nEq, nCl, nDiv, nRem2, nM1, nM2, nM3, nM4, nM5, nM6, gg_in, gg_rf, gg_T, if_true, if_false, ↓lt_eq, ob_some, b2_some, up1_some, kd_sI, ln_sI, gP_sI, gI_sI, kd_rI, ln_rI, gP_rI, gI_rI, kd_bmp, ln_bmp, gP_bmp, gI_bmp, up_at, i0, i1, RS.f R, em, f1, ends, n10]
    rw [Nat.add_zero]
    exact this
end
