/-! a best way in the reference: what it leaves alone -/
section
variable {h h1 h2 h' : Hp} {m : Nat → Int32} {q e me le mo co : Nat}
/-- scratch, but for what plans are kept in -/
def Rj (h h1 : Hp) : Prop := Rk h h1 ∧ (∀ b, 106 ≤ b → b ≤ 108 → gI h1 b = gI h b) ∧ ∀ j, 31 ≤ j → gI h1 73 j = gI h 73 j
theorem rj_tr (a : Rj h h1) (b : Rj h1 h2) : Rj h h2 := ⟨a.1.trans b.1, fun c q1 q2 => (b.2.1 c q1 q2).trans (a.2.1 c q1 q2), fun j hj => (b.2.2 j hj).trans (a.2.2 j hj)⟩
theorem rj_w {S : Nat → Prop} (G : Fr S h h1) (hs : ∀ b, S b → 78 ≤ b ∧ b ≤ 105) : Rj h h1 := ⟨Rk.w G (fun b z => by have := hs b z; omega), fun b q1 q2 => G.2.2.2.2.2.2 b (fun z => by have := hs b z; omega), fun j _ => by rw [G.2.2.2.2.2.2 73 (fun z => by have := hs 73 z; omega)]⟩
theorem rj_f {j : Nat} {v : Int32} (q : j ≠ 0 ∧ j ≠ 4 ∧ j ≠ 6 ∧ j ≠ 9 ∧ j < 31) : Rj h (sI h 73 j v) := ⟨Rk.f ⟨q.1, q.2.1, q.2.2.1, q.2.2.2.1⟩, fun b q1 q2 => by rw [gI_sI, if_neg (by omega)], fun l hl => by rw [gI_sI, if_pos rfl, up_at, if_neg (by omega)]⟩
theorem rg_rj (a : Rg h h1) : Rj h h1 := ⟨a.rk, fun b q1 q2 => a.1.2.2.2.2.2.2 b (fun z => by omega), fun j hj => a.2 j (by omega)⟩
theorem r_facts2 (R : RS h) (em : gI h 74 = m) (B : MIb m) (hq : vP m q) (t : Int32) : ∃ h1, MX12_factsOf h 73 (nI q) t = some h1 ∧ Rj h h1 ∧ gI h1 73 = gI h 73 ∧ RF h1 (fcP m q t) := by
  have hb := hq.1
  have W : ∀ a b : Int32, (if m (70 + q / 5) = nI 1 then nI 1 else nI 0) = a → (if t ≤ m (90 + q / 5) then nI 0 else nI 1) = b → zO a → zO b → ∃ h1, MX12_factsOf_60 (sI h 84 0 a) 73 t (nI (130 + 645 * q)) (m (90 + q / 5)) 84 (nI 1) b = some h1 ∧ Rj h h1 ∧ gI h1 73 = gI h 73 ∧ RF h1 (fcP m q t) := fun a b ha hb za zb => by
    have vb : vp_nar .boolean b = b := by rcases zb with rfl | rfl <;> decide
    obtain ⟨g, hg⟩ : ∃ g, g = sI (sI (sI (sI (sI (sI (sI (sI (sI h 84 0 a) 84 1 b) 84 2 (nI 0)) 85 0 (m (130 + 645 * q))) 85 1 (m (130 + 645 * q + 1))) 85 2 (m (90 + q / 5))) 85 3 t) 85 4 (nI 0)) 85 5 (nI 99) := ⟨_, rfl⟩
    have G : Fr (fun b => b = 84 ∨ b = 85) h g := by
      rw [hg]
      exact ((((((((Fr.sI (Or.inl rfl)).trans (Fr.sI (Or.inl rfl))).trans (Fr.sI (Or.inl rfl))).trans (Fr.sI (Or.inr rfl))).trans (Fr.sI (Or.inr rfl))).trans (Fr.sI (Or.inr rfl))).trans (Fr.sI (Or.inr rfl))).trans (Fr.sI (Or.inr rfl))).trans (Fr.sI (Or.inr rfl))
    refine ⟨g, ?_, rj_w G (fun b z => by omega), G.2.2.2.2.2.2 73 (fun z => by omega), fun j hj => ?_, fun j hj => ?_⟩
    · rw [hg]
      simp (disch := omega) only [MX12_factsOf_60, ↓reduceIte, Nat.reduceLT, Nat.reduceLeDiff, Nat.reduceEqDiff, ZL, nAdd, nMul, nSub, nLt, nLe, nEq, nCl, nDiv, nRem2, nM1, nM2, nM3, nM4, nM5, nM6, gg_in, gg_rf, gg_T, if_true, if_false, ↓lt_eq, ob_some, b2_some, up1_some, kd_sI, ln_sI, gP_sI, gI_sI, kd_rI, ln_rI, gP_rI, gI_rI, kd_bmp, ln_bmp, gP_bmp, gI_bmp, up_at, i0, i1, RS.f R, em, vb, vB0, Nat.add_zero]
    · have e84 : ∀ j, gI g 84 j = if j = 2 then nI 0 else if j = 1 then b else if j = 0 then a else gI h 84 j := fun j => by
        rw [hg, gI_sI, if_neg (show ¬ 84 = 85 by omega), gI_sI, if_neg (show ¬ 84 = 85 by omega), gI_sI, if_neg (show ¬ 84 = 85 by omega), gI_sI, if_neg (show ¬ 84 = 85 by omega), gI_sI, if_neg (show ¬ 84 = 85 by omega), gI_sI, if_neg (show ¬ 84 = 85 by omega), gI_sI, if_pos (Eq.refl 84), up_at, gI_sI, if_pos (Eq.refl 84), up_at, gI_sI, if_pos (Eq.refl 84), up_at]
      rw [e84]
      unfold fcP
      rw [ha, hb]
      rcases (show j = 0 ∨ j = 1 ∨ j = 2 by omega) with rfl | rfl | rfl
      · exact ⟨rfl, za⟩
      · exact ⟨rfl, zb⟩
      · exact ⟨rfl, Or.inl rfl⟩
    · have e85 : ∀ j, gI g 85 j = if j = 5 then nI 99 else if j = 4 then nI 0 else if j = 3 then t else if j = 2 then m (90 + q / 5) else if j = 1 then m (130 + 645 * q + 1) else if j = 0 then m (130 + 645 * q) else gI h 85 j := fun j => by
        rw [hg, gI_sI, if_pos (Eq.refl 85), up_at, gI_sI, if_pos (Eq.refl 85), up_at, gI_sI, if_pos (Eq.refl 85), up_at, gI_sI, if_pos (Eq.refl 85), up_at, gI_sI, if_pos (Eq.refl 85), up_at, gI_sI, if_pos (Eq.refl 85), up_at, gI_sI, if_neg (show ¬ 85 = 84 by omega), gI_sI, if_neg (show ¬ 85 = 84 by omega), gI_sI, if_neg (show ¬ 85 = 84 by omega)]
      rw [e85]
      unfold fcP
      rcases d6 hj with rfl | rfl | rfl | rfl | rfl | rfl <;> rfl
  have K : ∀ a : Int32, (if m (70 + q / 5) = nI 1 then nI 1 else nI 0) = a → zO a → ∃ h1, MX12_factsOf_43 h 73 t (nI (130 + 645 * q)) (m (90 + q / 5)) 84 (nI 0) a = some h1 ∧ Rj h h1 ∧ gI h1 73 = gI h 73 ∧ RF h1 (fcP m q t) := fun a ha za => by
    have va : vp_nar .boolean a = a := by rcases za with rfl | rfl <;> decide
    by_cases z : t ≤ m (90 + q / 5)
    · have := W a (nI 0) ha (if_pos z) za (Or.inl rfl)
      simp (disch := omega) only [MX12_factsOf_43, ↓reduceIte, Nat.reduceLT, Nat.reduceLeDiff, Nat.reduceEqDiff, ZL, nAdd, nMul, nSub, nLt, nLe, nEq, nCl, nDiv, nRem2, nM1, nM2, nM3, nM4, nM5, nM6, gg_in, gg_rf, gg_T, if_true, if_false, ↓lt_eq, ob_some, b2_some, up1_some, kd_sI, ln_sI, gP_sI, gI_sI, kd_rI, ln_rI, gP_rI, gI_rI, kd_bmp, ln_bmp, gP_bmp, gI_bmp, up_at, i0, i1, RS.f R, va, if_pos z]
      exact this
    · have := W a (nI 1) ha (if_neg z) za (Or.inr rfl)
      simp (disch := omega) only [MX12_factsOf_43, ↓reduceIte, Nat.reduceLT, Nat.reduceLeDiff, Nat.reduceEqDiff, ZL, nAdd, nMul, nSub, nLt, nLe, nEq, nCl, nDiv, nRem2, nM1, nM2, nM3, nM4, nM5, nM6, gg_in, gg_rf, gg_T, if_true, if_false, ↓lt_eq, ob_some, b2_some, up1_some, kd_sI, ln_sI, gP_sI, gI_sI, kd_rI, ln_rI, gP_rI, gI_rI, kd_bmp, ln_bmp, gP_bmp, gI_bmp, up_at, i0, i1, RS.f R, va, if_neg z]
      exact this
  have e0 : ∀ a : Int32, (if m (70 + q / 5) = nI 1 then nI 1 else nI 0) = a → MX12_factsOf h 73 (nI q) t = MX12_factsOf_43 h 73 t (nI (130 + 645 * q)) (m (90 + q / 5)) 84 (nI 0) a := fun a ha => by
    unfold MX12_factsOf MX12_part0
    by_cases z : m (70 + q / 5) = nI 1
    · rw [if_pos z] at ha
      subst ha
      simp (disch := omega) only [↓reduceIte, Nat.reduceLT, Nat.reduceLeDiff, Nat.reduceEqDiff, ZL, nAdd, nMul, nSub, nLt, nLe, nEq, nCl, nDiv, nRem2, nM1, nM2, nM3, nM4, nM5, nM6, gg_in, gg_rf, gg_T, if_true, if_false, ↓lt_eq, ob_some, b2_some, up1_some, kd_sI, ln_sI, gP_sI, gI_sI, kd_rI, ln_rI, gP_rI, gI_rI, kd_bmp, ln_bmp, gP_bmp, gI_bmp, up_at, i0, i1, RS.f R, em, if_pos z]
    · rw [if_neg z] at ha
      subst ha
      simp (disch := omega) only [↓reduceIte, Nat.reduceLT, Nat.reduceLeDiff, Nat.reduceEqDiff, ZL, nAdd, nMul, nSub, nLt, nLe, nEq, nCl, nDiv, nRem2, nM1, nM2, nM3, nM4, nM5, nM6, gg_in, gg_rf, gg_T, if_true, if_false, ↓lt_eq, ob_some, b2_some, up1_some, kd_sI, ln_sI, gP_sI, gI_sI, kd_rI, ln_rI, gP_rI, gI_rI, kd_bmp, ln_bmp, gP_bmp, gI_bmp, up_at, i0, i1, RS.f R, em, if_neg z]
  by_cases z : m (70 + q / 5) = nI 1
  · obtain ⟨h1, k⟩ := K (nI 1) (if_pos z) (Or.inr rfl)
    exact ⟨h1, by rw [e0 (nI 1) (if_pos z)]; exact k.1, k.2⟩
  · obtain ⟨h1, k⟩ := K (nI 0) (if_neg z) (Or.inl rfl)
    exact ⟨h1, by rw [e0 (nI 0) (if_neg z)]; exact k.1, k.2⟩
theorem r_tells2 (R : RS h) (em : gI h 74 = m) (I : MIw m) (Z : StM m) (hq : vP m q) (t : Int32) : ∃ h1, MX12_tells h 73 (nI q) t = some h1 ∧ Rj h h1 ∧ RR h1 m (stI m t (Nn m 2)) (fcP m q t) := by
  have he := stI_le (m := m) (x := t) (Nn m 2)
  have b2 : Nn m 2 ≤ 10 := (I.1.f).2.2.1.2
  obtain ⟨h1, k1, K1, -, f1⟩ := r_facts2 R em I.1 hq t
  have R1 := (Rk.rs R K1.1)
  have m1 : gI h1 74 = m := by rw [(Rk.g K1.1) (by omega) (by omega)]; exact em
  have so := r_styleOf R1 m1 I.1 t
  obtain ⟨e, hee⟩ : ∃ e, e = stI m t (Nn m 2) := ⟨_, rfl⟩
  rw [← hee] at he so ⊢
  obtain ⟨F, hF⟩ : ∃ F, F = fcP m q t := ⟨_, rfl⟩
  rw [← hF] at f1 ⊢
  have nr := nR_le I he
  have lle : ∀ w, lrM m e F w ≤ 12 := fun w => by have := lrM_le (m := m) (e := e) (F := F) (w := w); omega
  have l0 : ∀ w, e = 0 → lrM m e F w = 0 := fun w z => by
    have := lrM_le (m := m) (e := e) (F := F) (w := w)
    rw [show nR m e = 0 from if_pos z] at this
    omega
  have lv : ∀ w i, i = 1 ∨ i = 2 → (lrM m e F w ≠ 0 → m (yA e + 2 + 5 * (lrM m e F w - 1) + i) = nI (Nn m (yA e + 2 + 5 * (lrM m e F w - 1) + i))) := fun w i hi z => (rl_v I he lrM_le hi z).1
  have st : ∀ {g : Hp}, Rj h g → RF g F → ∀ w, w < 7 → ∃ g1, MX12_lastRule g 73 (stV e) (nI w) = some (lV (lrM m e F w), g1) ∧ Rj h g1 ∧ RF g1 F ∧ ∀ j, j ≠ 24 → gI g1 73 j = gI g 73 j := fun {g} K f w hw => by
    have Rg1 := (Rk.rs R K.1)
    have mg : gI g 74 = m := by rw [(Rk.g K.1) (by omega) (by omega)]; exact em
    obtain ⟨g1, a1, a2⟩ := r_last Rg1 mg f I Z he hw
    exact ⟨g1, a1, rj_tr K (rg_rj a2), a2.rf f, a2.2⟩
  have wr : ∀ {g : Hp} {j : Nat} {v : Int32}, Rj h g → RF g F → (j ≠ 0 ∧ j ≠ 4 ∧ j ≠ 6 ∧ j ≠ 9 ∧ j < 31) → Rj h (sI g 73 j v) ∧ RF (sI g 73 j v) F := fun {g j v} K f hj => ⟨rj_tr K (rj_f hj), by
    unfold RF
    rw [gI_sI, if_neg (by omega), gI_sI, if_neg (by omega)]
    exact f⟩
  have sd : ∀ {g : Hp}, Rj h g → ∀ w i d, i = 1 ∨ i = 2 → d < 100 → MX12_said g 73 (stV e) (lV (lrM m e F w)) (nI i) (nI d) = some (nI (sdM m e (lrM m e F w) i d)) := fun {g} K w i d hi hd => r_said ((Rk.rs R K.1)) (by rw [(Rk.g K.1) (by omega) (by omega)]; exact em) (by omega) (l0 w) (lle w) (by omega) hd (lv w i hi)
  obtain ⟨g1, a1, K2, f2, u2⟩ := st K1 f1 0 (by omega)
  obtain ⟨K3, f3⟩ := wr (j := 26) (v := lV (lrM m e F 0)) K2 f2 (by omega)
  obtain ⟨K4, f4⟩ := wr (j := 25) (v := nI (sdM m e (lrM m e F 0) 1 60)) K3 f3 (by omega)
  obtain ⟨g2, a2, K5, f5, u5⟩ := st K4 f4 1 (by omega)
  obtain ⟨K6, f6⟩ := wr (j := 27) (v := nI (sdM m e (lrM m e F 1) 1 2)) K5 f5 (by omega)
  obtain ⟨K7, f7⟩ := wr (j := 28) (v := nI (sdM m e (lrM m e F 1) 2 6)) K6 f6 (by omega)
  obtain ⟨g3, a3, K8, f8, u8⟩ := st K7 f7 2 (by omega)
  obtain ⟨K9, f9⟩ := wr (j := 29) (v := nI (sdM m e (lrM m e F 2) 1 25)) K8 f8 (by omega)
  obtain ⟨g4, a4, K10, f10, u10⟩ := st K9 f9 3 (by omega)
  obtain ⟨K11, f11⟩ := wr (j := 30) (v := nI (sdM m e (lrM m e F 3) 1 0)) K10 f10 (by omega)
  have kk : ∀ {g : Hp}, Rj h g → kd g 73 = 11 := fun K => (RS.f ((Rk.rs R K.1))).1
  refine ⟨_, ?_, K11, ?_⟩
  · unfold MX12_tells
    rw [gg_t (RS.f R).1, k1, ob_some, gg_t (kk K1), so, ob_some]
    simp only [ZL]
    rw [a1, b2_some, gg_t (kk K2), lt_eq, gIl, sd K3 0 1 60 (Or.inl rfl) (by omega), ob_some, lt_eq, a2, b2_some, gg_t (kk K5), sd K5 1 1 2 (Or.inl rfl) (by omega), ob_some, lt_eq, sd K6 1 2 6 (Or.inr rfl) (by omega), ob_some, lt_eq, a3, b2_some, gg_t (kk K8), sd K8 2 1 25 (Or.inl rfl) (by omega), ob_some, lt_eq, a4, b2_some, gg_t (kk K10), sd K10 3 1 0 (Or.inl rfl) (by omega), ob_some, lt_eq]
  · have w1 : ∀ (g : Hp) (j l : Nat) (v : Int32), l ≠ j → gI (sI g 73 j v) 73 l = gI g 73 l := fun g j l v hl => by rw [gI_sI, if_pos rfl, up_at, if_neg hl]
    refine ⟨?_, ?_, ?_, ?_, ?_, ?_⟩
    · rw [w1 _ _ _ _ (by omega), u10 _ (by omega), w1 _ _ _ _ (by omega), u8 _ (by omega), w1 _ _ _ _ (by omega), w1 _ _ _ _ (by omega), u5 _ (by omega), gIl]
    · rw [w1 _ _ _ _ (by omega), u10 _ (by omega), w1 _ _ _ _ (by omega), u8 _ (by omega), w1 _ _ _ _ (by omega), w1 _ _ _ _ (by omega), u5 _ (by omega), w1 _ _ _ _ (by omega), gIl]
    · rw [w1 _ _ _ _ (by omega), u10 _ (by omega), w1 _ _ _ _ (by omega), u8 _ (by omega), w1 _ _ _ _ (by omega), gIl]
    · rw [w1 _ _ _ _ (by omega), u10 _ (by omega), w1 _ _ _ _ (by omega), u8 _ (by omega), gIl]
    · rw [w1 _ _ _ _ (by omega), u10 _ (by omega), gIl]
    · rw [gIl]
theorem r_work2 (R : RS h) (em : gI h 74 = m) (I : MIw m) (Z : StM m) (hq : vP m q) (J : MIp m q) (t : Int32) : ∃ h1, MX12_work h 73 (nI q) t = some h1 ∧ Rj h h1 ∧ RR h1 m (stI m t (Nn m 2)) (fcP m q t) ∧ AW h1 (wyT m q t) 0 (nP m q) := by
  obtain ⟨g, k1, K1, rr⟩ := r_tells2 R em I Z hq t
  have P := ps_q (q := q) I t
  have hb := hq.1
  obtain ⟨n, hn⟩ : ∃ n, n = nP m q := ⟨_, rfl⟩
  obtain ⟨j1, j2, j3⟩ := J.n
  have Rg := (Rk.rs R K1.1)
  have mg : gI g 74 = m := by rw [(Rk.g K1.1) (by omega) (by omega)]; exact em
  have Lg : RLn g (pme m q t) (ple m q t) (pmo m q t) (pco m q t) := ⟨rr.1, rr.2.2.1, rr.2.2.2.1, rr.2.2.2.2.1⟩
  obtain ⟨g0, hg0⟩ : ∃ g0, g0 = sI (sI g 87 n (nI 0)) 88 n (nI 0) := ⟨_, rfl⟩
  have G0 : Fr Dr g g0 := by rw [hg0]; exact (Fr.sI (S := Dr) (Or.inl rfl)).trans (Fr.sI (S := Dr) (Or.inr (Or.inl rfl)))
  have e0 : MX12_work h 73 (nI q) t = MX12_work_37 g0 73 (nI q) (nI n) (lV n) := by
    unfold MX12_work
    rw [gg_t (RS.f R).1, k1, ob_some, gg_t (RS.f Rg).1, r_part0, ob_some, hg0, ← lV_m]
    rw [← hn] at j1
    simp (disch := omega) only [↓reduceIte, Nat.reduceLT, Nat.reduceLeDiff, Nat.reduceEqDiff, ZL, nAdd, nMul, nSub, nLt, nLe, nEq, nCl, nDiv, nRem2, nM1, nM2, nM3, nM4, nM5, nM6, gg_in, gg_rf, gg_T, if_true, if_false, ↓lt_eq, ob_some, b2_some, up1_some, kd_sI, ln_sI, gP_sI, gI_sI, kd_rI, ln_rI, gP_rI, gI_rI, kd_bmp, ln_bmp, gP_bmp, gI_bmp, up_at, i0, i1, RS.f Rg, mg, j1]
  rw [e0]
  unfold MX12_work_37
  have K : ∃ r, it (fun s : Int32 × Hp => BX12_work_37 s.2 73 (nI q) (nI n) s.1) (lV n, g0) = some r ∧ (Fr Dr g r ∧ AW r (wyT m q t) 0 n) := by
    refine it_cnt (fun d s => s.1 = lV (n - d) ∧ Fr Dr g s.2 ∧ AW s.2 (wyT m q t) (n - d) n) n (fun d s hd p => ?_) (fun s p => ?_) ⟨rfl, G0, ?_⟩
    · obtain ⟨a, f⟩ := s
      obtain ⟨p1, G, p3⟩ := p
      have p1 : a = lV (n - d) := p1
      have G : Fr Dr g f := G
      have p3 : AW f (wyT m q t) (n - d) n := p3
      subst p1
      have A1 : AW f (wyD m q (pme m q t) (ple m q t) (pmo m q t) (pco m q t)) (n - d - 1 + 1) (nP m q) := by rw [show n - d - 1 + 1 = n - d by omega, ← hn]; exact p3
      have e73 : gI f 73 = gI g 73 := G.2.2.2.2.2.2 73 (fun z => by unfold Dr at z; omega)
      obtain ⟨g1, k1, k2, k3⟩ := r_workAt P (Lg.fr e73) (Rg.fr G) (by rw [G.2.2.2.2.2.2 74 (fun z => by unfold Dr at z; omega)]; exact mg) I.1 hq J (i := n - d - 1) (by omega) A1
      refine ⟨(lV (n - (d + 1)), g1), ?_, rfl, G.trans k2, ?_⟩
      · show BX12_work_37 f 73 (nI q) (nI n) (lV (n - d)) = _
        rw [lV_p (by omega), hn]
        rw [hn] at k1
        exact k1
      · show AW g1 (wyT m q t) (n - (d + 1)) n
        rw [show n - (d + 1) = n - d - 1 by omega, hn]
        rw [hn] at k3
        exact k3
    · obtain ⟨a, f⟩ := s
      obtain ⟨p1, G, p3⟩ := p
      have p1 : a = lV (n - n) := p1
      have p4 : AW f (wyT m q t) 0 n := by
        have p3 : AW f (wyT m q t) (n - n) n := p3
        rw [Nat.sub_self] at p3
        exact p3
      rw [Nat.sub_self] at p1
      subst p1
      exact ⟨f, rfl, G, p4⟩
    · show AW g0 (wyT m q t) (n - 0) n
      intro i hi1 hi2
      have hi : i = n := by omega
      subst hi
      have en : wyT m q t i = some (0, 0, 0) := by rw [hn]; exact wyD_n J
      rw [en, hg0]
      refine ⟨by rw [gI_sI, if_neg (show ¬ 87 = 88 by omega), gIl]; rfl, fun v hv => ?_⟩
      have hv := Option.some.inj hv
      subst hv
      exact ⟨by rw [gIl], fun hlt => absurd hlt (Nat.lt_irrefl _)⟩
  obtain ⟨f, k2, G, k3⟩ := K
  have e73 : gI f 73 = gI g 73 := G.2.2.2.2.2.2 73 (fun z => by unfold Dr at z; omega)
  refine ⟨f, k2, rj_tr K1 (rj_w G (fun b z => by unfold Dr at z; omega)), ?_, by rw [← hn]; exact k3⟩
  unfold RR
  rw [e73]
  exact rr
end
