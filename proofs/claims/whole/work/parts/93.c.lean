/-! a breaker for a part at a minute -/
section
variable {tg : Nat → List Nat} {h h1 h' : Hp} {m : Nat → Int32} {p q r x : Nat}
theorem PtS.cg (S : PtS h p) (e0 : sm h h1 p) (e1 : ∀ k, k ≤ 4 → sm h h1 (gP h p k)) : PtS h1 p := by
  unfold PtS ar at S ⊢
  simp only [e0.1, e0.2.1, e0.2.2.1, e0.2.2.2, (e1 0 (by omega)).1, (e1 1 (by omega)).1, (e1 2 (by omega)).1, (e1 3 (by omega)).1, (e1 4 (by omega)).1, (e1 0 (by omega)).2.1, (e1 1 (by omega)).2.1, (e1 2 (by omega)).2.1, (e1 3 (by omega)).2.1, (e1 4 (by omega)).2.1, (e1 1 (by omega)).2.2.1, (e1 2 (by omega)).2.2.1]
  exact S
theorem PtV.cg (S : PtV h p m q) (e0 : sm h h1 p) (e1 : ∀ k, k ≤ 4 → sm h h1 (gP h p k)) : PtV h1 p m q := by
  unfold PtV at S ⊢
  simp only [e0.2.2.1, e0.2.2.2, (e1 0 (by omega)).2.2.1, (e1 1 (by omega)).2.2.1, (e1 2 (by omega)).2.2.1, (e1 3 (by omega)).2.2.1, (e1 4 (by omega)).2.2.1]
  exact S
/-- the style in force: its cell, its name -/
theorem st_cell (K : Rt tg h r x) (S : RmS h r) (V : RmW h r m) (I : MIw m) {e : Nat} (he : e ≤ Nn m 2) : StyS h (stC h r e) ∧ (∃ T, tg (stC h r e) = T ∧ (T = [4, x] ∨ T = [e - 1, 2, x]) ∧ ∀ j, gP h (stC h r e) j ≠ 0 → tg (gP h (stC h r e) j) = j :: T) ∧ stC h r e ≠ 0 ∧ gI h (stC h r e) 1 = nI (nR m e) ∧ ∃ cd ce, CdA h (stC h r e) (nR m e) cd ce ∧ ∀ i, i < nR m e → EncR m (yA e) i (cd i) ∧ gI h (gP h (stC h r e) 2) i = m (yA e + 2 + 5 * i) ∧ gI h (gP h (stC h r e) 3) i = m (yA e + 2 + 5 * i + 1) ∧ gI h (gP h (stC h r e) 4) i = m (yA e + 2 + 5 * i + 2) := by
  have b4 := S.2.2.2.2.2.2.2.2.2.2.2.2.2.2.1
  by_cases z : e = 0
  · subst z
    have es : stC h r 0 = gP h r 4 := rfl
    have en : nR m 0 = 0 := rfl
    rw [es, en]
    refine ⟨b4.2.1, ⟨[4, x], K.a b4.1, Or.inl rfl, fun j hj => K.o hj⟩, b4.1, b4.2.2.1, fun _ => [], fun _ => 0, ⟨rfl, fun r hr => absurd hr (by omega)⟩, fun i hi => absurd hi (by omega)⟩
  · have es : stC h r e = gP h (gP h r 2) (e - 1) := by unfold stC; rw [if_neg z]
    obtain ⟨y0, V1, V2, cd, ce, c0, H⟩ := V.2.2 (e - 1) (by omega)
    have yS := S.2.2.2.2.2.2.2.2.2.2.2.2.2.2.2.2.2.1 (e - 1) y0
    have en : nR m e = Nn m (yA e + 1) := by unfold nR; rw [if_neg z]
    have i1 := (I.2 (e - 1) (by omega)).2.1.eq (by omega)
    rw [es, en]
    refine ⟨yS, ⟨[e - 1, 2, x], K.o y0, Or.inr rfl, fun j hj => K.q hj⟩, y0, ?_, cd, ce, ⟨c0, fun i hi => ?_⟩, fun i hi => ?_⟩
    · rw [V2]; exact i1.1
    · obtain ⟨-, -, -, h4, h5, h6, h7, h8, h9, -⟩ := H i hi
      exact ⟨h4, h5, h6, h7, h8, h9⟩
    · obtain ⟨h1, h2, h3, -, -, -, -, h8, h9, h10⟩ := H i hi
      exact ⟨⟨h8, h9, h10⟩, h1, h2, h3⟩
theorem c_breakerFor (K : Rt tg h r x) (S : RmS h r) (V : RmW h r m) (I : MIw m) (PS : PtS h p) (PV : PtV h p m q) (J : MIp m q) (A : Pa tg h p x) (hq : vP m q) (t : Int32) : ∃ h1, MX7_breakerFor h r p t = some (gP h r 14, h1) ∧ Sc tg r x h h1 ∧ BrC h1 (gP h r 14) m q ∧ BrR h1 (gP h r 14) m (stI m t (Nn m 2)) (fcP m q t) := by
  have he := stI_le (m := m) (x := t) (Nn m 2)
  have cs := c_styleW K S V I.1 t
  obtain ⟨e, hee⟩ : ∃ e, e = stI m t (Nn m 2) := ⟨_, rfl⟩
  rw [← hee] at he cs ⊢
  obtain ⟨yS, ⟨T, yT, hT, yj⟩, y0, e1, cd, ce, cA, cE⟩ := st_cell K S V I he
  obtain ⟨y, hy⟩ : ∃ y, y = stC h r e := ⟨_, rfl⟩
  rw [← hy] at cs yS yT yj y0 e1 cA cE
  obtain ⟨F, hF⟩ : ∃ F, F = fcP m q t := ⟨_, rfl⟩
  rw [← hF]
  have x15 := S.2.2.2.2.2.2.2.2.2.1
  have x1 := S.2.1
  obtain ⟨b0, bS⟩ := S.2.2.2.2.2.2.2.2.2.2.2.2.2.2.2.1
  obtain ⟨s0, s2, s3, s4, s5, s6, s7, s8⟩ := yS
  have lT : T ≠ [3] ∧ (2 ≤ T.length) ∧ T ≠ [14, x] ∧ T ≠ [15, x] ∧ (∀ j, (7 :: T = [j, 14, x]) = False ∧ (8 :: T = [j, 14, x]) = False) ∧ scT x (7 :: T) ∧ scT x (8 :: T) := by
    rcases hT with rfl | rfl
    · refine ⟨by simp, by simp, by simp, by simp, fun j => ⟨by simp, by simp⟩, by simp [scT], by simp [scT]⟩
    · refine ⟨by simp, by simp, by simp, by simp, fun j => ⟨by simp, by simp⟩, by simp [scT], by simp [scT]⟩
  obtain ⟨lT1, lT2, lT3, lT4, lT5, lT6, lT7⟩ := lT
  have t15 := K.a x15.1
  have t14 := K.a b0
  have t1 := K.a x1.1
  have t148 := K.o bS.2.1.1
  have t149 := K.o bS.2.2.1.1
  have tj : ∀ j, gP h y j ≠ 0 → tg (gP h y j) = j :: T := yj
  have sc15 : scT x (tg (gP h r 15)) := by rw [t15]; simp [scT]
  have sc14 : scT x (tg (gP h r 14)) := by rw [t14]; simp [scT]
  have sc148 : scT x (tg (gP h (gP h r 14) 8)) := by rw [t148]; simp [scT]
  have sc149 : scT x (tg (gP h (gP h r 14) 9)) := by rw [t149]; simp [scT]
  have sc7 : scT x (tg (gP h y 7)) := by rw [tj 7 s7.1]; exact lT6
  have sc8 : scT x (tg (gP h y 8)) := by rw [tj 8 s8.1]; exact lT7
  have np : ∀ c, scT x (tg c) → Nq p c := fun c sc z => A.1 (by rw [z]; exact sc)
  have npk : ∀ c k, k ≤ 4 → scT x (tg c) → Nq (gP h p k) c := fun c k hk sc z => A.2 k hk (by rw [z]; exact sc)
  have nw : ∀ c, scT x (tg c) → Nq (gP h r 1) c := fun c sc z => by
    rw [← z, t1] at sc
    simp [scT] at sc
  have jT : ∀ j l, j ≠ l → gP h y j ≠ 0 → gP h y l ≠ 0 → Nq (gP h y j) (gP h y l) := fun j l n hj hl => ne_t (tg := tg) (by
    rw [tj j hj, tj l hl]
    exact fun z => n (List.cons.inj z).1)
  have sT : ∀ c j, tg c = T → gP h y j ≠ 0 → Nq c (gP h y j) := fun c j hc hj => ne_t (tg := tg) (by
    rw [hc, tj j hj]
    intro z
    have := congrArg List.length z
    simp at this)
  have aT : ∀ c k j, tg c = [k, x] → gP h y j ≠ 0 → Nq c (gP h y j) := fun c k j hc hj => ne_t (tg := tg) (by
    rw [hc, tj j hj]
    intro z
    have := congrArg List.length z
    simp at this
    omega)
  -- facts
  obtain ⟨h1, k1, G1, q1⟩ := c_facts S PS PV t (ne_t (tg := tg) (by rw [K.2.2.1, t15]; simp)) (np _ sc15)
  rw [← hF] at q1
  have F1 : Ft tg (scT x) h h1 := G1.mono (fun b z => by
    have z : b = gP h r 15 := z
    rw [z]
    exact ⟨x15.1, sc15⟩)
  have g1 : ∀ c, Nq c (gP h r 15) → gI h1 c = gI h c := fun c z => G1.2.2.2.2.2.2 c z.n
  have ny15 : Nq y (gP h r 15) := ne_t (tg := tg) (by rw [yT, t15]; exact lT4)
  -- weighing
  have W1 : WgS h1 y (gP h r 15) F := by
    unfold WgS
    rw [G1.1, G1.2.1, G1.2.2.1]
    exact ⟨s0, ⟨s5.2.1, s5.2.2⟩, ⟨s6.2.1, s6.2.2⟩, ⟨s7.2.1, s7.2.2⟩, ⟨s8.2.1, s8.2.2⟩, ⟨x15.2.1, x15.2.2⟩, q1, ⟨jT 5 8 (by omega) s5.1 s8.1, jT 6 8 (by omega) s6.1 s8.1, aT _ 15 8 t15 s8.1, sT y 8 yT s8.1, jT 7 8 (by omega) s7.1 s8.1⟩, jT 5 7 (by omega) s5.1 s7.1, jT 6 7 (by omega) s6.1 s7.1, aT _ 15 7 t15 s7.1, sT y 7 yT s7.1⟩
  have A1 : CdA h1 y (nR m e) cd ce := by
    unfold CdA
    rw [G1.2.2.1, g1 _ (aT _ 15 5 t15 s5.1).symm, g1 _ (aT _ 15 6 t15 s6.1).symm]
    exact cA
  obtain ⟨h2, k2, G2, q2⟩ := c_weigh (nR_le I he) W1 (by rw [g1 y ny15]; exact e1) A1
  rw [G1.2.2.1] at G2 q2
  have F2 : Ft tg (scT x) h1 h2 := G2.mono (fun b z => by
    rcases z with z | z
    · rw [z]; exact ⟨s7.1, sc7⟩
    · rw [z]; exact ⟨s8.1, sc8⟩)
  have g2 : ∀ c, Nq c (gP h y 7) → Nq c (gP h y 8) → gI h2 c = gI h1 c := fun c z7 z8 => G2.2.2.2.2.2.2 c (fun q => by
    rcases q with q | q
    · exact z7.n q
    · exact z8.n q)
  have F12 := F1.trans F2
  have W2 : YW h2 y e m F := by
    unfold YW
    rw [F12.ek, F12.el, F12.gp, g2 y (sT y 7 yT s7.1) (sT y 8 yT s8.1), g1 y ny15, g2 _ (jT 2 7 (by omega) s2.1 s7.1) (jT 2 8 (by omega) s2.1 s8.1), g1 _ (aT _ 15 2 t15 s2.1).symm, g2 _ (jT 3 7 (by omega) s3.1 s7.1) (jT 3 8 (by omega) s3.1 s8.1), g1 _ (aT _ 15 3 t15 s3.1).symm, g2 _ (jT 4 7 (by omega) s4.1 s7.1) (jT 4 8 (by omega) s4.1 s8.1), g1 _ (aT _ 15 4 t15 s4.1).symm]
    refine ⟨s0, ⟨s2.2.1, s2.2.2⟩, ⟨s3.2.1, s3.2.2⟩, ⟨s4.2.1, s4.2.2⟩, ⟨s7.2.1, s7.2.2⟩, e1, nR_le I he, fun i hi => ?_⟩
    obtain ⟨c1, c2, c3, c4⟩ := cE i hi
    exact ⟨c2, c3, c4, by rw [q2 i hi, hM_eq c1]⟩
  -- the rules' numbers
  have nb : ∀ j, gP h y j ≠ 0 → Nq (gP h r 14) (gP h y j) := fun j hj => aT _ 14 j t14 hj
  obtain ⟨h3, k3, G3, q3, q3'⟩ := c_loadRules (b := gP h r 14) W2 (by rw [F12.ek]; exact bS.1) I he (ne_t (tg := tg) (by rw [yT, t14]; exact fun z => lT3 z.symm)) (by rw [F12.gp]; exact nb 2 s2.1) (by rw [F12.gp]; exact nb 3 s3.1) (by rw [F12.gp]; exact nb 4 s4.1) (by rw [F12.gp]; exact nb 7 s7.1)
  have F3 : Ft tg (scT x) h2 h3 := G3.mono (fun b z => by
    have z : b = gP h r 14 := z
    rw [z]
    exact ⟨b0, sc14⟩)
  have F13 := F12.trans F3
  have g3 : ∀ c, Nq c (gP h r 14) → gI h3 c = gI h2 c := fun c z => G3.2.2.2.2.2.2 c z.n
  have n148 : Nq (gP h (gP h r 14) 8) (gP h r 14) := ne_t (tg := tg) (by rw [t148, t14]; simp)
  have n149 : Nq (gP h (gP h r 14) 9) (gP h r 14) := ne_t (tg := tg) (by rw [t149, t14]; simp)
  have bz : ∀ j, j = 8 ∨ j = 9 → gI h3 (gP h (gP h r 14) j) = gI h (gP h (gP h r 14) j) := fun j hj => by
    have tz : tg (gP h (gP h r 14) j) = [j, 14, x] := by
      rcases hj with rfl | rfl
      · exact t148
      · exact t149
    have nz : Nq (gP h (gP h r 14) j) (gP h r 14) := ne_t (tg := tg) (by rw [tz, t14]; simp)
    rw [g3 _ nz, g2 _ (ne_t (tg := tg) (by rw [tz, tj 7 s7.1]; intro z; have := (lT5 j).1; rw [z] at this; exact this.mp rfl)) (ne_t (tg := tg) (by rw [tz, tj 8 s8.1]; intro z; have := (lT5 j).2; rw [z] at this; exact this.mp rfl)), g1 _ (ne_t (tg := tg) (by rw [tz, t15]; simp))]
  have bS3 : BrS h3 (gP h r 14) := by
    obtain ⟨c1, c2, c3, c4, c5, c6, c7, c8, c9⟩ := bS
    unfold BrS ar
    rw [F13.ek, F13.el, F13.gp, bz 8 (Or.inl rfl), bz 9 (Or.inr rfl)]
    exact ⟨c1, c2, c3, c4, c5, c6, c7, c8, c9⟩
  -- the copy
  have PS3 := PS.cg (F13.same A.1) (fun k hk => F13.same (A.2 k hk))
  have PV3 := PV.cg (F13.same A.1) (fun k hk => F13.same (A.2 k hk))
  have w1 : ¬ scT x (tg (gP h r 1)) := by rw [t1]; simp [scT]
  obtain ⟨h4, k4, G4, q4, q4', z8, z9⟩ := c_loadCopy (w := gP h r 1) (b := gP h r 14) PS3 PV3 J I.1 hq bS3 (by rw [F13.ek, F13.el]; exact x1.2) (by rw [(F13.same w1).2.2.1]; exact V.2.1) (fun c hc => by
      rw [F13.gp] at hc ⊢
      have sc : scT x (tg c) := by
        rcases hc with rfl | rfl | rfl
        · exact sc14
        · exact sc148
        · exact sc149
      exact ⟨np c sc, npk c 0 (by omega) sc, npk c 1 (by omega) sc, npk c 2 (by omega) sc, nw c sc⟩) (by rw [F13.gp]; exact n148.symm) (by rw [F13.gp]; exact n149.symm) (by rw [F13.gp]; exact ne_t (tg := tg) (by rw [t148, t149]; simp))
  rw [F13.gp] at G4 z8 z9
  have F4 : Ft tg (scT x) h3 h4 := G4.mono (fun b z => by
    rcases z with z | z | z
    · rw [z]; exact ⟨b0, sc14⟩
    · rw [z]; exact ⟨bS.2.1.1, sc148⟩
    · rw [z]; exact ⟨bS.2.2.1.1, sc149⟩)
  have F14 := F13.trans F4
  refine ⟨h4, ?_, ⟨F14, z8, z9⟩, q4, ?_⟩
  · unfold MX7_breakerFor
    rw [gg_t S.1, cs, b2_some, gg_t S.1, k1, ob_some, F1.ek, F1.gp, gg_t S.1, gg_t s0, k2, ob_some, F12.ek, F12.gp, gg_t S.1, gg_t bS.1, k3, ob_some, F13.ek, F13.gp, gg_t S.1, gg_t bS.1, k4, ob_some, F14.ek, F14.gp, gg_t S.1]
  · obtain ⟨u0, u1, u2, u3, u4, u5⟩ := q3
    unfold BrR
    rw [q4' 0 (by omega) (by omega), q4' 1 (by omega) (by omega), q4' 2 (by omega) (by omega), q4' 3 (by omega) (by omega), q4' 4 (by omega) (by omega), q4' 5 (by omega) (by omega)]
    exact ⟨u0, u1, u2, u3, u4, u5⟩
end
