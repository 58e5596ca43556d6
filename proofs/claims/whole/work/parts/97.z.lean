/-! pay: class -/
/-- what the conditions are told of a slug -/
def fcS (m : Nat → Int32) (g j : Nat) : Int32 := if j = 2 then (if m (g + 7) = nI 0 then nI 0 else nI 1) else if j = 7 then m (g + 3) else if j = 8 then m (g + 1) else fcP m (Nn m g) (m (g + 2)) j
noncomputable def pyE (m : Nat → Int32) (g : Nat) : Nat := stI m (m (g + 2)) (Nn m 2)
noncomputable def pyV (m : Nat → Int32) (g : Nat) : Int32 := if lrM m (pyE m g) (fcS m g) 5 = 0 then jmax (m (g + 3)) (nI (sdM m (pyE m g) (lrM m (pyE m g) (fcS m g) 3) 1 0)) * nI (sdM m (pyE m g) (lrM m (pyE m g) (fcS m g) 4) 1 0) else nI 0
noncomputable def pyS (m : Nat → Int32) (v a b : Int32) : Nat → Int32
  | 0 => nI 0
  | s + 1 => if m (64630 + 852 * s + 1) = v then (if m (64630 + 852 * s + 2) < a then pyS m v a b s else if b < m (64630 + 852 * s + 2) then pyS m v a b s else pyS m v a b s + pyV m (64630 + 852 * s)) else pyS m v a b s
section
variable {tg : Nat → List Nat} {h h1 h' : Hp} {m k t F : Nat → Int32} {i n f : Int32} {r x q g c p e s : Nat}
theorem c_factsS (S : RmS h r) (PS : PtS h p) (V : PtV h p m (Nn m g)) (cS : SlS h c) (cV : SlV h c m g) (zc : oN m (g + 7) 1) (n1 : Nq r (gP h r 15)) (n2 : Nq p (gP h r 15)) (n3 : Nq c (gP h r 15)) : ∃ h1, MX7_factsOfSlug h r c p = some h1 ∧ (Fr (fun b => b = gP h r 15) h h1 ∧ ∀ j, j < 9 → gI h1 (gP h r 15) j = fcS m g j) := by
  obtain ⟨h4, k1, G, q1⟩ := c_facts S PS V (m (g + 2)) n1 n2
  obtain ⟨v5, v8, v9, v3, v10, v11, v12, v14, -⟩ := cV
  obtain ⟨x0, x1, x2⟩ := S.2.2.2.2.2.2.2.2.2.1
  have gc : gI h4 c = gI h c := G.2.2.2.2.2.2 c n3.n
  obtain ⟨A, hA⟩ : ∃ A, A = gP h r 15 := ⟨_, rfl⟩
  rw [← hA] at n1 n2 n3 G q1 x1 x2
  have nA : ∀ (g0 : Hp) (j : Nat) (v : Int32) (l : Nat), gI (sI g0 A j v) c l = gI g0 c l := fun g0 j v l => by rw [gI_sI, if_neg n3.n]
  have W : ∀ a : Int32, (if m (g + 7) = nI 0 then nI 0 else nI 1) = a → ∃ h1, MX7_factsOfSlug_26 h4 r c A (nI 2) a = some h1 ∧ (Fr (fun b => b = A) h h1 ∧ ∀ j, j < 9 → gI h1 A j = fcS m g j) := fun a ha => by
    refine ⟨sI (sI (sI h4 A 2 a) A 7 (m (g + 3))) A 8 (m (g + 1)), ?_, frs (frs (frs G)), fun j hj => ?_⟩
    · unfold MX7_factsOfSlug_26
      have e3 : gI h c 3 = m (g + 3) := v3
      have e8 : gI h c 8 = m (g + 1) := v8
      have eA : gP h4 r 15 = A := by rw [G.2.2.1]; exact hA.symm
      rw [G.1, G.2.1, gg_t x1]
      simp (disch := omega) only [ZL, nAdd, nMul, nSub, nLt, nLe, nEq, nCl, nDiv, nRem2, gg_in, x2, lt_eq]
      rw [gg_t S.1, gg_t cS.1, eA, gg_t x1, gg_in (by omega) (by omega), nA, gc, e3, nA, nA, gc, e8, gg_in (by omega) (by omega)]
    · unfold fcS
      rw [ha]
      simp only [gI2]
      rcases d9 hj with rfl | rfl | rfl | rfl | rfl | rfl | rfl | rfl | rfl
      all_goals simp (disch := omega) only [i0, i1, and_self, if_true]
      all_goals first | done | exact q1 _ (by omega)
  unfold MX7_factsOfSlug
  have e14 : gI h4 c 14 = m (g + 7) := by rw [gc]; exact v14
  have kr : kd h4 r = 6 := by rw [G.1]; exact S.1
  have kc : kd h4 c = 7 := by rw [G.1]; exact cS.1
  have eA : gP h4 r 15 = A := by rw [G.2.2.1]; exact hA.symm
  rw [gg_t cS.1, gg_t S.1, v9, k1, ob_some, gg_t kr, gg_t kc, e14, eA, ← hA]
  simp only [ZL]
  by_cases z : m (g + 7) = nI 0
  · rw [if_pos z]
    exact W (nI 0) (if_pos z)
  · rw [if_neg z]
    exact W (nI 1) (if_neg z)
/-- a style is weighed for facts that lie in the room's row -/
theorem c_wAt (K : Rt tg h r x) (S : RmS h r) (V : RmW h r m) (I : MIw m) (he : e ≤ Nn m 2) (G1 : Fr (fun b => b = gP h r 15) h h1) (q1 : ∀ j, j < 9 → gI h1 (gP h r 15) j = F j) : ∃ h2, MX9_weigh h1 (stC h r e) (gP h r 15) = some h2 ∧ Sc tg r x h h2 ∧ YW h2 (stC h r e) e m F := by
  obtain ⟨yS, ⟨T, yT, hT, yj⟩, y0, e1, cd, ce, cA, cE⟩ := st_cell K S V I he
  obtain ⟨y, hy⟩ : ∃ y, y = stC h r e := ⟨_, rfl⟩
  rw [← hy] at yS yT yj y0 e1 cA cE ⊢
  have x15 := S.2.2.2.2.2.2.2.2.2.1
  obtain ⟨b0, bS⟩ := S.2.2.2.2.2.2.2.2.2.2.2.2.2.2.2.1
  obtain ⟨s0, s2, s3, s4, s5, s6, s7, s8⟩ := yS
  have lT : T ≠ [3] ∧ (2 ≤ T.length) ∧ T ≠ [14, x] ∧ T ≠ [15, x] ∧ (∀ j, (7 :: T = [j, 14, x]) = False ∧ (8 :: T = [j, 14, x]) = False) ∧ scT x (7 :: T) ∧ scT x (8 :: T) := by
    rcases hT with rfl | rfl
    · refine ⟨by simp, by simp, by simp, by simp, fun j => ⟨by simp, by simp⟩, by simp [scT], by simp [scT]⟩
    · refine ⟨by simp, by simp, by simp, by simp, fun j => ⟨by simp, by simp⟩, by simp [scT], by simp [scT]⟩
  obtain ⟨lT1, lT2, lT3, lT4, lT5, lT6, lT7⟩ := lT
  have t15 := K.a x15.1
  have t148 := K.o bS.2.1.1
  have t149 := K.o bS.2.2.1.1
  have tj : ∀ j, gP h y j ≠ 0 → tg (gP h y j) = j :: T := yj
  have sc15 : scT x (tg (gP h r 15)) := by rw [t15]; simp [scT]
  have sc7 : scT x (tg (gP h y 7)) := by rw [tj 7 s7.1]; exact lT6
  have sc8 : scT x (tg (gP h y 8)) := by rw [tj 8 s8.1]; exact lT7
  have jT : ∀ j l, j ≠ l → gP h y j ≠ 0 → gP h y l ≠ 0 → Nq (gP h y j) (gP h y l) := fun j l n hj hl => ne_t (tg := tg) (by
    rw [tj j hj, tj l hl]
    exact fun z => n (List.cons.inj z).1)
  have sT : ∀ c j, tg c = T → gP h y j ≠ 0 → Nq c (gP h y j) := fun c j hc hj => ne_t (tg := tg) (by
    rw [hc, tj j hj]
    intro z
    have := congrArg List.length z
    simp at this)
  have aT : ∀ c k j, tg c = [k, x] → gP h y j ≠ 0 → Nq c (gP h y j) := fun c k j hc hj => ne_t (tg := tg) (by
    rw [hc, tj j hj]
    intro z
    have := congrArg List.length z
    simp at this
    omega)
  have F1 : Ft tg (scT x) h h1 := G1.mono (fun b z => by
    have z : b = gP h r 15 := z
    rw [z]
    exact ⟨x15.1, sc15⟩)
  have g1 : ∀ c, Nq c (gP h r 15) → gI h1 c = gI h c := fun c z => G1.2.2.2.2.2.2 c z.n
  have ny15 : Nq y (gP h r 15) := ne_t (tg := tg) (by rw [yT, t15]; exact lT4)
  have W1 : WgS h1 y (gP h r 15) F := by
    unfold WgS
    rw [G1.1, G1.2.1, G1.2.2.1]
    exact ⟨s0, ⟨s5.2.1, s5.2.2⟩, ⟨s6.2.1, s6.2.2⟩, ⟨s7.2.1, s7.2.2⟩, ⟨s8.2.1, s8.2.2⟩, ⟨x15.2.1, x15.2.2⟩, q1, ⟨jT 5 8 (by omega) s5.1 s8.1, jT 6 8 (by omega) s6.1 s8.1, aT _ 15 8 t15 s8.1, sT y 8 yT s8.1, jT 7 8 (by omega) s7.1 s8.1⟩, jT 5 7 (by omega) s5.1 s7.1, jT 6 7 (by omega) s6.1 s7.1, aT _ 15 7 t15 s7.1, sT y 7 yT s7.1⟩
  have A1 : CdA h1 y (nR m e) cd ce := by
    unfold CdA
    rw [G1.2.2.1, g1 _ (aT _ 15 5 t15 s5.1).symm, g1 _ (aT _ 15 6 t15 s6.1).symm]
    exact cA
  obtain ⟨h2, k2, G2, q2⟩ := c_weigh (nR_le I he) W1 (by rw [g1 y ny15]; exact e1) A1
  rw [G1.2.2.1] at G2 q2
  have F2 : Ft tg (scT x) h1 h2 := G2.mono (fun b z => by
    rcases z with z | z
    · rw [z]; exact ⟨s7.1, sc7⟩
    · rw [z]; exact ⟨s8.1, sc8⟩)
  have g2 : ∀ c, Nq c (gP h y 7) → Nq c (gP h y 8) → gI h2 c = gI h1 c := fun c z7 z8 => G2.2.2.2.2.2.2 c (fun q => by
    rcases q with q | q
    · exact z7.n q
    · exact z8.n q)
  have F12 := F1.trans F2
  have W2 : YW h2 y e m F := by
    unfold YW
    rw [F12.ek, F12.el, F12.gp, g2 y (sT y 7 yT s7.1) (sT y 8 yT s8.1), g1 y ny15, g2 _ (jT 2 7 (by omega) s2.1 s7.1) (jT 2 8 (by omega) s2.1 s8.1), g1 _ (aT _ 15 2 t15 s2.1).symm, g2 _ (jT 3 7 (by omega) s3.1 s7.1) (jT 3 8 (by omega) s3.1 s8.1), g1 _ (aT _ 15 3 t15 s3.1).symm, g2 _ (jT 4 7 (by omega) s4.1 s7.1) (jT 4 8 (by omega) s4.1 s8.1), g1 _ (aT _ 15 4 t15 s4.1).symm]
    refine ⟨s0, ⟨s2.2.1, s2.2.2⟩, ⟨s3.2.1, s3.2.2⟩, ⟨s4.2.1, s4.2.2⟩, ⟨s7.2.1, s7.2.2⟩, e1, nR_le I he, fun i hi => ?_⟩
    obtain ⟨c1, c2, c3, c4⟩ := cE i hi
    exact ⟨c2, c3, c4, by rw [q2 i hi, hM_eq c1]⟩
  have bz : ∀ j, j = 8 ∨ j = 9 → gI h2 (gP h (gP h r 14) j) = gI h (gP h (gP h r 14) j) := fun j hj => by
    have tz : tg (gP h (gP h r 14) j) = [j, 14, x] := by
      rcases hj with rfl | rfl
      · exact t148
      · exact t149
    rw [g2 _ (ne_t (tg := tg) (by rw [tz, tj 7 s7.1]; intro z; have := (lT5 j).1; rw [z] at this; exact this.mp rfl)) (ne_t (tg := tg) (by rw [tz, tj 8 s8.1]; intro z; have := (lT5 j).2; rw [z] at this; exact this.mp rfl)), g1 _ (ne_t (tg := tg) (by rw [tz, t15]; simp))]
  exact ⟨h2, k2, ⟨F12, by rw [bz 8 (Or.inl rfl)]; exact S.n.2.1.1, by rw [bz 9 (Or.inr rfl)]; exact S.n.2.1.2⟩, W2⟩
theorem c_pySl (K : Rt tg h r x) (S : RmS h r) (V : RmV h r m) (I : MI m) (hs : s < Nn m 4) : ∃ h1, MX7_payOfSlug h r (gP h (gP h r 10) s) = some (pyV m (64630 + 852 * s), h1) ∧ Sc tg r x h h1 := by
  obtain ⟨c, hc, -, c0, cS, cV⟩ := c_findSlug_t S V I.1 hs
  rw [← hc]
  obtain ⟨g, hg⟩ : ∃ g, g = 64630 + 852 * s := ⟨_, rfl⟩
  have J := I.2.2.1 s hs
  rw [← hg] at cV J ⊢
  obtain ⟨e0, -⟩ := J.1.eq (by omega)
  obtain ⟨p, hp, ep, p0, PS, PV⟩ := c_findPart_t S V I.1 J.2.1
  have he := stI_le (m := m) (x := m (g + 2)) (Nn m 2)
  have cs := c_styleW K S V.rmw I.1 (m (g + 2))
  have x15 := S.2.2.2.2.2.2.2.2.2.1
  have t15 := K.a x15.1
  have tp := K.o (k := 5) (j := Nn m g) (by rw [← hp]; exact p0)
  rw [← hp] at tp
  have tc := K.o (k := 10) (j := s) (by rw [← hc]; exact c0)
  rw [← hc] at tc
  obtain ⟨h4, k4, G4, q4⟩ := c_factsS S PS PV cS cV J.2.2.2.2.2.2.2.2.2.1 (ne_t (tg := tg) (by rw [K.2.2.1, t15]; simp)) (ne_t (tg := tg) (by rw [tp, t15]; simp)) (ne_t (tg := tg) (by rw [tc, t15]; simp))
  obtain ⟨e, hee⟩ : ∃ e, e = stI m (m (g + 2)) (Nn m 2) := ⟨_, rfl⟩
  rw [← hee] at he cs
  obtain ⟨h5, k5, sc, W⟩ := c_wAt (F := fcS m g) K S V.rmw I.w he G4 q4
  refine ⟨h5, ?_, sc⟩
  have hE : pyE m g = e := hee.symm
  unfold pyV
  rw [hE]
  have ky := W.1
  obtain ⟨y, hy⟩ : ∃ y, y = stC h r e := ⟨_, rfl⟩
  rw [← hy] at cs k5 W ky
  have kr4 : kd h4 r = 6 := by rw [G4.1]; exact S.1
  have ky4 : kd h4 y = 8 := by rw [G4.1, ← sc.1.ek]; exact ky
  have e15 : gP h4 r 15 = gP h r 15 := by rw [G4.2.2.1]
  have kc5 : kd h5 c = 7 := by rw [sc.1.ek]; exact cS.1
  have c3 : gI h5 c 3 = m (g + 3) := by
    rw [(sc.1.same (b := c) (by rw [tc]; simp [scT])).2.2.1]
    exact cV.2.2.2.1
  have lle := fun w => lrM_le (m := m) (e := e) (F := fcS m g) (w := w)
  have n12 := nR_le I.w he
  have b12 : ∀ w, lrM m e (fcS m g) w < 2147483648 := fun w => by
    have := lle w
    omega
  have lv := fun w (z : lrM m e (fcS m g) w ≠ 0) => (rl_v I.w he (lle w) (Or.inl rfl : (1 : Nat) = 1 ∨ (1 : Nat) = 2) z).1
  unfold MX7_payOfSlug
  rw [gg_t cS.1, gg_t S.1, cV.1, e0, ep, ob_some, if_neg p0, cV.2.2.1, cs, b2_some, gg_t S.1, k4, ob_some, gg_t kr4, gg_t ky4, e15, k5, ob_some, gg_t ky]
  simp only [ZL]
  rw [W.last (w := 4) (by omega), ob_some, W.last (w := 5) (by omega)]
  have lm : ∀ w, (lV (lrM m e (fcS m g) w) = -nI 1) = (lrM m e (fcS m g) w = 0) := fun w => lV_eqm (b12 w)
  by_cases z4 : lrM m e (fcS m g) 4 = 0
  · rw [if_pos (by rw [lm]; exact z4), z4]
    have z : sdM m e 0 1 0 = 0 := if_pos rfl
    rw [z, show nI 0 = (0 : Int32) from rfl, Int32.mul_zero]
    by_cases z5 : lrM m e (fcS m g) 5 = 0
    · rw [if_pos z5]
    · rw [if_neg z5]
  · rw [if_neg (by rw [lm]; exact z4), ob_some]
    by_cases z5 : lrM m e (fcS m g) 5 = 0
    · rw [if_pos (by rw [lm]; exact z5), if_pos z5, W.last (w := 3) (by omega), ob_some, gg_t kc5, c3]
      have s3 := c_sel (β := Int32 × Hp) (c := lrM m e (fcS m g) 3) (i := 1) (d := 0) W (lle 3) (Or.inl rfl) (lv 3) (fun z => MX7_payOfSlug_90 h5 y (lV (lrM m e (fcS m g) 4)) (m (g + 3)) z)
      have s4 := c_sel (β := Int32 × Hp) (c := lrM m e (fcS m g) 4) (i := 1) (d := 0) W (lle 4) (Or.inl rfl) (lv 4) (fun z => some (jmax (m (g + 3)) (nI (sdM m e (lrM m e (fcS m g) 3) 1 0)) * z, h5))
      rw [if_neg (show ¬ lV (lrM m e (fcS m g) 4) = -1 from by rw [show (-1 : Int32) = -nI 1 from by decide, lm]; exact z4)] at s4
      rw [← s4]
      have s5 : (fun z => MX7_payOfSlug_90 h5 y (lV (lrM m e (fcS m g) 4)) (m (g + 3)) z) (nI (sdM m e (lrM m e (fcS m g) 3) 1 0)) = gg (kd h5 (gP h5 y (2 + 1)) = 20) (gg (inB (lV (lrM m e (fcS m g) 4)) (ln h5 (gP h5 y (2 + 1))) = true) (some (jmax (m (g + 3)) (nI (sdM m e (lrM m e (fcS m g) 3) 1 0)) * gI h5 (gP h5 y (2 + 1)) (lV (lrM m e (fcS m g) 4)).toNatClampNeg, h5))) := by
        show MX7_payOfSlug_90 h5 y (lV (lrM m e (fcS m g) 4)) (m (g + 3)) (nI (sdM m e (lrM m e (fcS m g) 3) 1 0)) = _
        unfold MX7_payOfSlug_90
        rw [gg_t ky]
      rw [← s5]
      simp only [ZL] at s3
      exact s3
    · rw [if_neg (by rw [lm]; exact z5), if_neg z5]
theorem c_payOf (K : Rt tg h r x) (S : RmS h r) (V : RmV h r m) (I : MI m) (v a b : Int32) : ∃ h1, MX7_payOf h r v a b = some (pyS m v a b (Nn m 4) / nI 10, h1) ∧ Sc tg r x h h1 := by
  obtain ⟨-, -, -, -, ⟨b4, b4'⟩, -⟩ := I.1.f
  obtain ⟨L, hL⟩ : ∃ L, L = Nn m 4 := ⟨_, rfl⟩
  rw [← hL] at b4 b4'
  unfold MX7_payOf MX7_payOf_6
  have K0 : ∃ z, it (fun s : Int32 × Int32 × Hp => BX7_payOf_6 s.2.2 r v a b s.1 s.2.1) (nI 0, nI 0, h) = some z ∧ (z.1 = pyS m v a b L / nI 10 ∧ Sc tg r x h z.2) := by
    refine it_cnt (fun j s => s.1 = pyS m v a b j ∧ s.2.1 = nI j ∧ Sc tg r x h s.2.2) L (fun j s hj pp => ?_) (fun s pp => ?_) ⟨rfl, rfl, Sc.rfl S⟩
    · obtain ⟨w, u, g⟩ := s
      obtain ⟨p1, p2, sc⟩ := pp
      replace p1 : w = pyS m v a b j := p1
      replace p2 : u = nI j := p2
      replace sc : Sc tg r x h g := sc
      subst p1 p2
      obtain ⟨Kg, Sg, Vg, eg, ek, ei⟩ := rq_sc K S V sc
      obtain ⟨c, hc, -, c0, cS, cV⟩ := c_findSlug_t Sg Vg I.1 (k := j) (by omega)
      have eo := c_ownSlug Sg (s := j) (by omega) (by rw [← hc]; exact c0)
      rw [← hc] at eo
      have g11 : gI g r 11 = nI L := Vg.2.2.2.2.1.trans b4
      have nl : (nI L ≤ nI j) = False := eq_false (nI_ge hj (by omega))
      have st : BX7_payOf_6 g r v a b (pyS m v a b j) (nI j) = if m (64630 + 852 * j + 1) = v then (if m (64630 + 852 * j + 2) < a then some (.inl (pyS m v a b j, nI (j + 1), g)) else if b < m (64630 + 852 * j + 2) then some (.inl (pyS m v a b j, nI (j + 1), g)) else b2 (MX7_payOfSlug g r c) fun (t13) (h12 : Hp) => some (.inl (pyS m v a b j + t13, nI (j + 1), h12))) else some (.inl (pyS m v a b j, nI (j + 1), g)) := by
        unfold BX7_payOf_6
        rw [gg_t Sg.1, g11, if_neg (by rw [nl]; exact id), eo, b2_some, gg_t cS.1, cV.2.1, cV.2.2.1, gg_t Sg.1]
        simp only [ZL, nAdd]
      by_cases z1 : m (64630 + 852 * j + 1) = v
      · by_cases z2 : m (64630 + 852 * j + 2) < a
        · refine ⟨(pyS m v a b j, nI (j + 1), g), ?_, ?_, rfl, sc⟩
          · show BX7_payOf_6 g r v a b (pyS m v a b j) (nI j) = _
            rw [st, if_pos z1, if_pos z2]
          · show pyS m v a b j = pyS m v a b (j + 1)
            rw [pyS, if_pos z1, if_pos z2]
        · by_cases z3 : b < m (64630 + 852 * j + 2)
          · refine ⟨(pyS m v a b j, nI (j + 1), g), ?_, ?_, rfl, sc⟩
            · show BX7_payOf_6 g r v a b (pyS m v a b j) (nI j) = _
              rw [st, if_pos z1, if_neg z2, if_pos z3]
            · show pyS m v a b j = pyS m v a b (j + 1)
              rw [pyS, if_pos z1, if_neg z2, if_pos z3]
          · obtain ⟨g1, y1, y2⟩ := c_pySl Kg Sg Vg I (s := j) (by omega)
            rw [← hc] at y1
            refine ⟨(pyS m v a b j + pyV m (64630 + 852 * j), nI (j + 1), g1), ?_, ?_, rfl, sc.trans y2⟩
            · show BX7_payOf_6 g r v a b (pyS m v a b j) (nI j) = _
              rw [st, if_pos z1, if_neg z2, if_neg z3, y1, b2_some]
            · show pyS m v a b j + pyV m (64630 + 852 * j) = pyS m v a b (j + 1)
              rw [pyS, if_pos z1, if_neg z2, if_neg z3]
      · refine ⟨(pyS m v a b j, nI (j + 1), g), ?_, ?_, rfl, sc⟩
        · show BX7_payOf_6 g r v a b (pyS m v a b j) (nI j) = _
          rw [st, if_neg z1]
        · show pyS m v a b j = pyS m v a b (j + 1)
          rw [pyS, if_neg z1]
    · obtain ⟨w, u, g⟩ := s
      obtain ⟨p1, p2, sc⟩ := pp
      replace p1 : w = pyS m v a b L := p1
      replace p2 : u = nI L := p2
      replace sc : Sc tg r x h g := sc
      subst p1 p2
      obtain ⟨Kg, Sg, Vg, eg, ek, ei⟩ := rq_sc K S V sc
      refine ⟨(pyS m v a b L / nI 10, g), ?_, rfl, sc⟩
      show BX7_payOf_6 g r v a b (pyS m v a b L) (nI L) = _
      have g11 : gI g r 11 = nI L := Vg.2.2.2.2.1.trans b4
      unfold BX7_payOf_6 MX7_payOf_67
      rw [gg_t Sg.1, g11, if_pos (nI_le (Nat.le_refl _) (by omega)), up1_some]
      rfl
  obtain ⟨⟨w, g⟩, k1, k2, k3⟩ := K0
  replace k2 : w = pyS m v a b L / nI 10 := k2
  exact ⟨g, by simp only [ZL]; rw [k1, k2, hL], k3⟩
end
/-! pay: reference; the pair -/
section
variable {tg : Nat → List Nat} {h h1 h' : Hp} {m k t F : Nat → Int32} {i n f : Int32} {r x q g c p e s : Nat}
theorem r_pySl {w v a b : Int32} {j : Nat} (R : RS h) (em : gI h 74 = m) (I : MI m) (Z : StM m) (hs : s < Nn m 4) (z1 : m (64630 + 852 * s + 1) = v) (z2 : ¬ m (64630 + 852 * s + 2) < a) (z3 : ¬ b < m (64630 + 852 * s + 2)) : ∃ h1, BX12_pay_32 h 73 v a b w (nI s) = some (.inl (w + pyV m (64630 + 852 * s), nI (s + 1), h1)) ∧ Rk h h1 := by
  obtain ⟨-, -, ⟨-, f2'⟩, -, ⟨b4, b4'⟩, -⟩ := I.1.f
  have J := I.2.2.1 s hs
  obtain ⟨g, hg⟩ : ∃ g, g = 64630 + 852 * s := ⟨_, rfl⟩
  rw [← hg] at J z1 z2 z3 ⊢
  obtain ⟨e0, -⟩ := J.1.eq (by omega)
  have zc := J.2.2.2.2.2.2.2.2.2.1
  have he := stI_le (m := m) (x := m (g + 2)) (Nn m 2)
  have so := r_styleOf R em I.1 (m (g + 2))
  obtain ⟨e, hee⟩ : ∃ e, e = stI m (m (g + 2)) (Nn m 2) := ⟨_, rfl⟩
  rw [← hee] at he so
  have hE : pyE m g = e := hee.symm
  unfold pyV
  rw [hE]
  obtain ⟨h29, k29, K29, -, f29⟩ := r_facts R em I.1 J.2.1 (m (g + 2))
  have R29 := K29.rs R
  have m29 : gI h29 74 = m := by rw [K29.g (by omega) (by omega)]; exact em
  have nr := nR_le I.w he
  have lle : ∀ w, lrM m e (fcS m g) w ≤ 12 := fun w => by have := lrM_le (m := m) (e := e) (F := fcS m g) (w := w); omega
  have l0 : ∀ w, e = 0 → lrM m e (fcS m g) w = 0 := fun w z => by
    have := lrM_le (m := m) (e := e) (F := fcS m g) (w := w)
    rw [show nR m e = 0 from if_pos z] at this
    omega
  have lv : ∀ w, lrM m e (fcS m g) w ≠ 0 → m (yA e + 2 + 5 * (lrM m e (fcS m g) w - 1) + 1) = nI (Nn m (yA e + 2 + 5 * (lrM m e (fcS m g) w - 1) + 1)) := fun w z => (rl_v I.w he lrM_le (Or.inl rfl) z).1
  obtain ⟨bv, hbv⟩ : ∃ bv : Int32, bv = if m (g + 7) = nI 0 then nI 0 else nI 1 := ⟨_, rfl⟩
  have zb : zO bv := by
    rw [hbv]
    by_cases z : m (g + 7) = nI 0
    · rw [if_pos z]; exact Or.inl rfl
    · rw [if_neg z]; exact Or.inr rfl
  have vb : vp_nar .boolean bv = bv := by rcases zb with z | z <;> (rw [z]; decide)
  obtain ⟨h52, h52e⟩ : ∃ h52, h52 = sI (sI (sI h29 84 2 bv) 85 4 (m (g + 3))) 85 5 v := ⟨_, rfl⟩
  have K52 : Rk h29 h52 := by
    rw [h52e]
    exact ((Rk.s (by omega) (by omega)).trans (Rk.s (by omega) (by omega))).trans (Rk.s (by omega) (by omega))
  have R52 := K52.rs R29
  have m52 : gI h52 74 = m := by rw [K52.g (by omega) (by omega)]; exact m29
  have f52 : RF h52 (fcS m g) := by
    obtain ⟨a1, a2⟩ := f29
    rw [h52e]
    refine ⟨fun j hj => ?_, fun j hj => ?_⟩
    · obtain ⟨c1, c2⟩ := a1 j hj
      rw [gI2, if_neg (by omega), gI2, if_neg (by omega), gI2]
      unfold fcS
      rcases (show j = 0 ∨ j = 1 ∨ j = 2 by omega) with rfl | rfl | rfl
      · rw [if_neg (by omega), if_neg (by omega), if_neg (by omega), if_neg (by omega)]
        exact ⟨c1, c2⟩
      · rw [if_neg (by omega), if_neg (by omega), if_neg (by omega), if_neg (by omega)]
        exact ⟨c1, c2⟩
      · rw [if_pos ⟨rfl, rfl⟩, if_pos rfl, ← hbv]
        exact ⟨rfl, zb⟩
    · have c1 := a2 j hj
      rw [gI2, gI2, gI2, if_neg (show ¬ (85 = 84 ∧ j = 2) by omega)]
      unfold fcS
      rcases d6 hj with rfl | rfl | rfl | rfl | rfl | rfl
      · rw [if_neg (by omega), if_neg (by omega), if_neg (by omega), if_neg (by omega), if_neg (by omega)]; exact c1
      · rw [if_neg (by omega), if_neg (by omega), if_neg (by omega), if_neg (by omega), if_neg (by omega)]; exact c1
      · rw [if_neg (by omega), if_neg (by omega), if_neg (by omega), if_neg (by omega), if_neg (by omega)]; exact c1
      · rw [if_neg (by omega), if_neg (by omega), if_neg (by omega), if_neg (by omega), if_neg (by omega)]; exact c1
      · rw [if_neg (by omega), if_pos ⟨rfl, rfl⟩, if_neg (by omega), if_pos (by omega)]
      · rw [if_pos ⟨rfl, rfl⟩, if_neg (by omega), if_neg (by omega), if_pos (by omega)]; exact z1.symm
  have st : ∀ {g0 : Hp}, Rk h g0 → RF g0 (fcS m g) → ∀ w, w < 7 → ∃ g1, MX12_lastRule g0 73 (stV e) (nI w) = some (lV (lrM m e (fcS m g) w), g1) ∧ Rk h g1 ∧ RF g1 (fcS m g) := fun {g0} K f w hw => by
    have Rg1 := K.rs R
    have mg : gI g0 74 = m := by rw [K.g (by omega) (by omega)]; exact em
    obtain ⟨g1, a1, a2⟩ := r_last Rg1 mg f I.w Z he hw
    exact ⟨g1, a1, K.trans a2.rk, a2.rf f⟩
  have sd : ∀ {g0 : Hp}, Rk h g0 → ∀ w, MX12_said g0 73 (stV e) (lV (lrM m e (fcS m g) w)) (nI 1) (nI 0) = some (nI (sdM m e (lrM m e (fcS m g) w) 1 0)) := fun {g0} K w => r_said (K.rs R) (by rw [K.g (by omega) (by omega)]; exact em) (by omega) (l0 w) (lle w) (by omega) (by omega) (lv w)
  have kk : ∀ {g0 : Hp}, Rk h g0 → kd g0 73 = 11 := fun K => (RS.f (K.rs R)).1
  have K2 := K29.trans K52
  obtain ⟨h58, a5, K5, f5⟩ := st K2 f52 5 (by omega)
  obtain ⟨h65, a3, K3, f3⟩ := st K5 f5 3 (by omega)
  obtain ⟨h71, a4, K4, f4⟩ := st K3 f3 4 (by omega)
  have R58 := K5.rs R
  have m58 : gI h58 74 = m := by rw [K5.g (by omega) (by omega)]; exact em
  have lm : ∀ w, (lV (lrM m e (fcS m g) w) = -nI 1) = (lrM m e (fcS m g) w = 0) := fun w => lV_eqm (by have := lle w; omega)
  have e29 : MX12_pay_144 h29 73 v a b w (nI s) (nI g) (stV e) 84 (nI 2) bv = if lrM m e (fcS m g) 5 = 0 then some (.inl (w + jmax (m (g + 3)) (nI (sdM m e (lrM m e (fcS m g) 3) 1 0)) * nI (sdM m e (lrM m e (fcS m g) 4) 1 0), nI (s + 1), h71)) else some (.inl (w, nI (s + 1), h58)) := by
    unfold MX12_pay_144
    have l3 : gI (sI h29 84 2 bv) 74 (g + 3) = m (g + 3) := by rw [gI2, if_neg (by omega), m29]
    simp (disch := omega) only [ZL, nAdd, nMul, nSub, nLt, nLe, nEq, nCl, nDiv, nRem2, RS.f R29, gg_rf, gg_T, gg_in, lt_eq, vb]
    rw [l3, ← h52e, a5, b2_some]
    by_cases z5 : lrM m e (fcS m g) 5 = 0
    · rw [if_pos (by rw [lm]; exact z5), if_pos z5, gg_t (kk K5), (RS.f R58).2.1, gg_t (RS.f R58).2.2.1, (RS.f R58).2.2.2.1, gg_in (by omega) (by omega), m58, a3, b2_some, gg_t (kk K3), sd K3 3, ob_some, a4, b2_some, gg_t (kk K4), sd K4 4, ob_some]
    · rw [if_neg (by rw [lm]; exact z5), if_neg z5]
  have bx : BX12_pay_32 h 73 v a b w (nI s) = MX12_pay_144 h29 73 v a b w (nI s) (nI g) (stV e) 84 (nI 2) bv := by
    have nl : (nI (Nn m 4) ≤ nI s) = False := eq_false (nI_ge hs (by omega))
    have ii : MX12_isIn h (m (g + 2)) a b = some (nI 1) := by rw [r_isIn, if_neg z2, if_neg z3]
    have m4 : gI h 74 4 = nI (Nn m 4) := by rw [em]; exact b4
    have m1 : gI h 74 (g + 1) = v := by rw [em]; exact z1
    have m2 : gI h 74 (g + 2) = m (g + 2) := by rw [em]
    have m0 : gI h 74 g = nI (Nn m g) := by rw [em]; exact e0
    have m7 : gI h29 74 (g + 7) = m (g + 7) := by rw [m29]
    unfold BX12_pay_32
    simp only [ZL]
    rw [gg_t (RS.f R).1, (RS.f R).2.1, gg_t (RS.f R).2.2.1, (RS.f R).2.2.2.1, gg_in (by omega) (by omega), nCl (by omega), m4, if_neg (by rw [nl]; exact id), r_slug0, ob_some, ← hg]
    simp only [nAdd, Nat.add_zero]
    rw [gg_in (by omega) (by omega), nCl (by omega), m1, if_pos rfl, gg_in (by omega) (by omega), nCl (by omega), m2, ii, ob_some, if_neg (by rw [n10]; exact id), so, ob_some, gg_in (by omega) (by omega), nCl (by omega), m0, k29, ob_some, gg_t (kk K29), (RS.f R29).2.1, gg_t (RS.f R29).2.2.1, (RS.f R29).2.2.2.1, gg_in (by omega) (by omega), nCl (by omega), m7]
    have e21 : gP h29 73 21 = 84 := by simp only [RS.f R29]
    rw [e21]
    obtain ⟨y, hy, ey⟩ := zc
    rcases (show y = 0 ∨ y = 1 by omega) with rfl | rfl
    · rw [if_neg (by rw [ey, n01]; exact id), hbv, if_pos ey]
    · rw [if_pos ey, hbv, if_neg (by rw [ey, n10]; exact id)]
  by_cases z5 : lrM m e (fcS m g) 5 = 0
  · rw [if_pos z5] at e29 ⊢
    exact ⟨h71, by rw [bx, e29], K4⟩
  · rw [if_neg z5] at e29 ⊢
    exact ⟨h58, by rw [bx, e29, show nI 0 = (0 : Int32) from rfl, Int32.add_zero], K5⟩
theorem r_pay (R : RS h) (em : gI h 74 = m) (I : MI m) (Z : StM m) (v a b : Int32) : ∃ h1, MX12_pay_32 h 73 v a b (nI 0) (nI 0) = some (pyS m v a b (Nn m 4) / nI 10, h1) ∧ Rk h h1 := by
  obtain ⟨-, -, -, -, ⟨b4, b4'⟩, -⟩ := I.1.f
  obtain ⟨L, hL⟩ : ∃ L, L = Nn m 4 := ⟨_, rfl⟩
  unfold MX12_pay_32
  have K0 : ∃ z, it (fun s : Int32 × Int32 × Hp => BX12_pay_32 s.2.2 73 v a b s.1 s.2.1) (nI 0, nI 0, h) = some z ∧ (z.1 = pyS m v a b L / nI 10 ∧ Rk h z.2) := by
    refine it_cnt (fun j s => s.1 = pyS m v a b j ∧ s.2.1 = nI j ∧ Rk h s.2.2) L (fun j s hj pp => ?_) (fun s pp => ?_) ⟨rfl, rfl, Rk.rfl⟩
    · obtain ⟨w, u, g⟩ := s
      obtain ⟨p1, p2, sc⟩ := pp
      replace p1 : w = pyS m v a b j := p1
      replace p2 : u = nI j := p2
      replace sc : Rk h g := sc
      subst p1 p2
      have R1 := sc.rs R
      have m1 : gI g 74 = m := by rw [sc.g (by omega) (by omega)]; exact em
      have nl : (nI L ≤ nI j) = False := eq_false (nI_ge hj (by omega))
      have m4 : gI g 74 4 = nI L := by rw [m1, hL]; exact b4
      have st : BX12_pay_32 g 73 v a b (pyS m v a b j) (nI j) = some (.inl (pyS m v a b j, nI (j + 1), g)) ∨ (m (64630 + 852 * j + 1) = v ∧ ¬ m (64630 + 852 * j + 2) < a ∧ ¬ b < m (64630 + 852 * j + 2)) := by
        by_cases z : m (64630 + 852 * j + 1) = v ∧ ¬ m (64630 + 852 * j + 2) < a ∧ ¬ b < m (64630 + 852 * j + 2)
        · exact Or.inr z
        · refine Or.inl ?_
          have q1 : gI g 74 (64630 + 852 * j + 1) = m (64630 + 852 * j + 1) := by rw [m1]
          have q2 : gI g 74 (64630 + 852 * j + 2) = m (64630 + 852 * j + 2) := by rw [m1]
          unfold BX12_pay_32
          simp only [ZL]
          rw [gg_t (RS.f R1).1, (RS.f R1).2.1, gg_t (RS.f R1).2.2.1, (RS.f R1).2.2.2.1, gg_in (by omega) (by omega), nCl (by omega), m4, if_neg (by rw [nl]; exact id), r_slug0, ob_some]
          simp only [nAdd]
          rw [gg_in (by omega) (by omega), nCl (by omega), q1]
          by_cases z1 : m (64630 + 852 * j + 1) = v
          · rw [if_pos z1, gg_in (by omega) (by omega), nCl (by omega), q2, r_isIn]
            by_cases z2 : m (64630 + 852 * j + 2) < a
            · rw [if_pos z2, ob_some, if_pos rfl]
            · by_cases z3 : b < m (64630 + 852 * j + 2)
              · rw [if_neg z2, if_pos z3, ob_some, if_pos rfl]
              · exact absurd ⟨z1, z2, z3⟩ z
          · rw [if_neg z1]
      by_cases z : m (64630 + 852 * j + 1) = v ∧ ¬ m (64630 + 852 * j + 2) < a ∧ ¬ b < m (64630 + 852 * j + 2)
      · obtain ⟨z1, z2, z3⟩ := z
        obtain ⟨g1, y1, y2⟩ := r_pySl (w := pyS m v a b j) R1 m1 I Z (s := j) (by omega) z1 z2 z3 (j := 0)
        refine ⟨(pyS m v a b j + pyV m (64630 + 852 * j), nI (j + 1), g1), y1, ?_, rfl, sc.trans y2⟩
        show pyS m v a b j + pyV m (64630 + 852 * j) = pyS m v a b (j + 1)
        rw [pyS, if_pos z1, if_neg z2, if_neg z3]
      · rcases st with st | st
        · refine ⟨(pyS m v a b j, nI (j + 1), g), st, ?_, rfl, sc⟩
          show pyS m v a b j = pyS m v a b (j + 1)
          rw [pyS]
          by_cases z1 : m (64630 + 852 * j + 1) = v
          · rw [if_pos z1]
            by_cases z2 : m (64630 + 852 * j + 2) < a
            · rw [if_pos z2]
            · rw [if_neg z2]
              by_cases z3 : b < m (64630 + 852 * j + 2)
              · rw [if_pos z3]
              · exact absurd ⟨z1, z2, z3⟩ z
          · rw [if_neg z1]
        · exact absurd st z
    · obtain ⟨w, u, g⟩ := s
      obtain ⟨p1, p2, sc⟩ := pp
      replace p1 : w = pyS m v a b L := p1
      replace p2 : u = nI L := p2
      replace sc : Rk h g := sc
      subst p1 p2
      have R1 := sc.rs R
      have m1 : gI g 74 = m := by rw [sc.g (by omega) (by omega)]; exact em
      have m4 : gI g 74 4 = nI L := by rw [m1, hL]; exact b4
      refine ⟨(pyS m v a b L / nI 10, g), ?_, rfl, sc⟩
      show BX12_pay_32 g 73 v a b (pyS m v a b L) (nI L) = _
      unfold BX12_pay_32 MX12_pay_239
      simp only [ZL]
      rw [gg_t (RS.f R1).1, (RS.f R1).2.1, gg_t (RS.f R1).2.2.1, (RS.f R1).2.2.2.1, gg_in (by omega) (by omega), nCl (by omega), m4, if_pos (nI_le (Nat.le_refl _) (by omega)), up1_some]
  obtain ⟨⟨w, g⟩, k1, k2, k3⟩ := K0
  replace k2 : w = pyS m v a b L / nI 10 := k2
  exact ⟨g, by rw [k1, k2, hL], k3⟩
theorem p_pay (C : CSt tg h m k i t n f) (R : RSt h m k i t n f) (v a b : Int32) : Pr (cm [1]) Gq h (MX11_pay h 1 v a b) (fun h' => MX12_pay h' 73 v a b) := by
  obtain ⟨O, X, X2, S, V, D, DV, I, T, Im, Tr⟩ := id C
  have E1 : ∀ h' c, RSt h' m k i t n f → c ≤ 1 → MX12_pay_14 h' 73 v a b 73 (nI c) = if c = 0 then MX12_pay_32 (sI h' 73 0 (nI 0)) 73 v a b (nI 0) (nI 0) else some (nI 0, sI h' 73 0 (nI c)) := fun h' c R' hc => by
    unfold MX12_pay_14
    rcases (show c = 0 ∨ c = 1 by omega) with rfl | rfl
    · rw [if_pos rfl]
      simp (disch := omega) only [↓reduceIte, Nat.reduceLT, Nat.reduceLeDiff, Nat.reduceEqDiff, ZL, nAdd, nMul, nSub, nLt, nLe, nEq, nCl, nDiv, nRem2, nM1, nM2, nM3, nM4, nM5, nM6, gg_in, gg_rf, gg_T, if_true, if_false, ↓lt_eq, ob_some, b2_some, up1_some, kd_sI, ln_sI, gP_sI, gI_sI, kd_rI, ln_rI, gP_rI, gI_rI, kd_bmp, ln_bmp, gP_bmp, gI_bmp, up_at, i0, i1, RS.f R'.1]
    · rw [if_neg (by omega)]
      simp (disch := omega) only [↓reduceIte, Nat.reduceLT, Nat.reduceLeDiff, Nat.reduceEqDiff, ZL, nAdd, nMul, nSub, nLt, nLe, nEq, nCl, nDiv, nRem2, nM1, nM2, nM3, nM4, nM5, nM6, gg_in, gg_rf, gg_T, if_true, if_false, ↓lt_eq, ob_some, b2_some, up1_some, kd_sI, ln_sI, gP_sI, gI_sI, kd_rI, ln_rI, gP_rI, gI_rI, kd_bmp, ln_bmp, gP_bmp, gI_bmp, up_at, i0, i1, RS.f R'.1]
  rcases ni_d v (Nn m 3) with hv | ⟨q, hq, rfl⟩
  · refine Pr.thr C R 1 1 rfl (by omega) (by omega) ?_ fun h' R' => ⟨nI 0, ?_⟩
    · unfold MX11_pay
      rw [gg_t X.1, X5 X, gg_t S.1, c_findMachine_f S V I.1 hv, ob_some, if_pos rfl]
    · unfold MX12_pay
      rw [gg_t (RS.f R'.1).1, r_isMachine_f R'.1 R'.2.1 I.1 hv, ob_some, if_pos (by decide), show (1 : Int32) = nI 1 from rfl, E1 h' 1 R' (by omega), if_neg (by omega)]
  · obtain ⟨c, hc, ec, c0, cS, cV⟩ := c_findMachine_t S V I.1 hq
    obtain ⟨h1, k1, sc⟩ := c_payOf C.rt S V I (nI q) a b
    refine Pr.sc C R (pyS m (nI q) a b (Nn m 4) / nI 10) ?_ sc fun h' R' => ?_
    · unfold MX11_pay
      rw [gg_t X.1, X5 X, gg_t S.1, ec, ob_some, if_neg c0, k1, b2_some]
    · obtain ⟨h2, u1, u2⟩ := r_pay (R'.th (v := nI 0)).1 (R'.th (v := nI 0)).2.1 I V.stm (nI q) a b
      refine ⟨h2, ?_, th_fr.trans u2.fr, u2.st R'.th, ?_⟩
      · unfold MX12_pay
        rw [gg_t (RS.f R'.1).1, r_isMachine_t R'.1 R'.2.1 I.1 hq, ob_some, if_neg (by decide), show (0 : Int32) = nI 0 from rfl, E1 h' 0 R' (by omega), if_pos rfl, u1]
      · rw [u2.2.1, th_get]
end
