/-! brass: the pair -/
section
variable {tg : Nat → List Nat} {h h1 h' : Hp} {m m' k t : Nat → Int32} {i n f w : Int32} {r x s c q : Nat}
theorem c_isBr {b : Nat} (hb : b ≤ 40) : MX11_isBrasses h (nI b) = some (nI 1) := by
  unfold MX11_isBrasses
  have a1 : (nI b < nI 0) = False := eq_false (nI_pos (by omega))
  simp (disch := omega) only [ZL, nLt, a1, if_false]
  rw [if_neg (by omega)]
theorem c_isBr_f {v : Int32} (hv : ∀ j, j < 41 → v ≠ nI j) : MX11_isBrasses h v = some (nI 0) := by
  unfold MX11_isBrasses
  rcases ni_c (by omega) hv with z | ⟨z1, z2, z3⟩
  · rw [if_pos (show v < 0 from z)]
    exact Eq.refl _
  · rw [if_neg (show ¬ v < 0 from z1), if_pos (show 40 < v from ?_)]
    · exact Eq.refl _
    · rw [Int32.le_iff_toInt_le, nI_toInt (by omega)] at z2
      rw [show (40 : Int32) = nI 40 from Eq.refl _, Int32.lt_iff_toInt_lt, nI_toInt (by omega)]
      omega
theorem c_isSi {b : Nat} (hb : b < 27) : MX11_isSign h (nI b) = some (nI 1) := by
  unfold MX11_isSign
  have a1 : (nI b < nI 0) = False := eq_false (nI_pos (by omega))
  simp (disch := omega) only [ZL, nLe, a1, if_false]
  rw [if_neg (by omega)]
theorem c_isSi_f {v : Int32} (hv : ∀ j, j < 27 → v ≠ nI j) : MX11_isSign h v = some (nI 0) := by
  unfold MX11_isSign
  rcases ni_c (by omega) hv with z | ⟨z1, z2, z3⟩
  · rw [if_pos (show v < 0 from z)]
    exact Eq.refl _
  · rw [if_neg (show ¬ v < 0 from z1), if_pos (show 27 ≤ v from z2)]
    exact Eq.refl _
theorem br_w {T d : Nat} : nI T - nI d + nI 1 = nI (T + 1) - nI d := by
  rw [← nAdd, Int32.sub_eq_add_neg, Int32.sub_eq_add_neg, Int32.add_assoc, Int32.add_assoc, Int32.add_comm (-nI d) (nI 1)]
theorem mk_ne {q k2 s y : Nat} (hs : s < 27) (h1 : 320230 + 183 * k2 + 27 ≤ y) (h2 : y < 320230 + 183 * k2 + 183) : y ≠ 320230 + 183 * q + s := fun e => by
  rcases Nat.lt_trichotomy k2 q with z | z | z <;> omega
theorem p_brass (C : CSt tg h m k i t n f) (R : RSt h m k i t n f) (v u z : Int32) : Pr (cm [1, 2]) Gq h (MX11_brass h 1 v u z) (fun h' => MX12_brass h' 73 v u z) := by
  obtain ⟨O, X, X2, S, V, D, DV, I, T, Im, Tr⟩ := id C
  obtain ⟨-, -, t3, -, -, -, t19, -⟩ := tgs O X
  obtain ⟨⟨b0, b0'⟩, -, -, ⟨b3, b3'⟩, -⟩ := I.1.f
  rcases ni_d v (Nn m 3) with hv | ⟨q, hq, rfl⟩
  · refine Pr.thr C R 1 1 rfl (by omega) (by omega) ?_ fun h' R' => ⟨nI 0, ?_⟩
    · unfold MX11_brass
      rw [gg_t X.1, X5 X, gg_t S.1, c_findMachine_f S V I.1 hv, ob_some, if_pos rfl]
    · unfold MX12_brass MX12_brass_19
      rw [gg_t (RS.f R'.1).1, r_isMachine_f R'.1 R'.2.1 I.1 hv, ob_some, if_pos (by decide)]
      simp (disch := omega) only [MX12_brass_38, ↓reduceIte, Nat.reduceLT, Nat.reduceLeDiff, Nat.reduceEqDiff, ZL, nAdd, nMul, nSub, nLt, nLe, nEq, nCl, nDiv, nRem2, nM1, nM2, nM3, nM4, nM5, nM6, gg_in, gg_rf, gg_T, if_true, if_false, ↓lt_eq, ob_some, b2_some, up1_some, kd_sI, ln_sI, gP_sI, gI_sI, kd_rI, ln_rI, gP_rI, gI_rI, kd_bmp, ln_bmp, gP_bmp, gI_bmp, up_at, i0, i1, RS.f R'.1]
  · obtain ⟨c, hc, ec, c0, cS, cV⟩ := c_findMachine_t S V I.1 hq
    rcases ni_d u 27 with hu | ⟨s, hs, rfl⟩
    · refine Pr.thr C R 1 1 rfl (by omega) (by omega) ?_ fun h' R' => ⟨nI 0, ?_⟩
      · unfold MX11_brass
        rw [gg_t X.1, X5 X, gg_t S.1, ec, ob_some, if_neg c0, c_isSi_f hu, ob_some, if_pos (show nI 0 = 0 from Eq.refl _)]
      · unfold MX12_brass MX12_brass_19
        rw [gg_t (RS.f R'.1).1, r_isMachine_t R'.1 R'.2.1 I.1 hq, ob_some, if_neg (by decide)]
        simp (disch := omega) only [r_isIn_f (b := 26) (by omega) hu, MX12_brass_38, ↓reduceIte, Nat.reduceLT, Nat.reduceLeDiff, Nat.reduceEqDiff, ZL, nAdd, nMul, nSub, nLt, nLe, nEq, nCl, nDiv, nRem2, nM1, nM2, nM3, nM4, nM5, nM6, gg_in, gg_rf, gg_T, if_true, if_false, ↓lt_eq, ob_some, b2_some, up1_some, kd_sI, ln_sI, gP_sI, gI_sI, kd_rI, ln_rI, gP_rI, gI_rI, kd_bmp, ln_bmp, gP_bmp, gI_bmp, up_at, i0, i1, RS.f R'.1]
    · rcases ni_d z 41 with hz | ⟨b, hb, rfl⟩
      · refine Pr.thr C R 2 2 rfl (by omega) (by omega) ?_ fun h' R' => ⟨nI 0, ?_⟩
        · unfold MX11_brass
          rw [gg_t X.1, X5 X, gg_t S.1, ec, ob_some, if_neg c0, c_isSi hs, ob_some, if_neg (by decide), c_isBr_f hz, ob_some, if_pos (show nI 0 = 0 from Eq.refl _)]
        · unfold MX12_brass
          rw [gg_t (RS.f R'.1).1, r_isMachine_t R'.1 R'.2.1 I.1 hq, ob_some, if_neg (by decide)]
          simp (disch := omega) only [r_isIn_t, r_isIn_f (b := 40) (by omega) hz, MX12_brass_38, ↓reduceIte, Nat.reduceLT, Nat.reduceLeDiff, Nat.reduceEqDiff, ZL, nAdd, nMul, nSub, nLt, nLe, nEq, nCl, nDiv, nRem2, nM1, nM2, nM3, nM4, nM5, nM6, gg_in, gg_rf, gg_T, if_true, if_false, ↓lt_eq, ob_some, b2_some, up1_some, kd_sI, ln_sI, gP_sI, gI_sI, kd_rI, ln_rI, gP_rI, gI_rI, kd_bmp, ln_bmp, gP_bmp, gI_bmp, up_at, i0, i1, RS.f R'.1]
      · have hcz : gP h (gP h 19 8) q ≠ 0 := by rw [← hc]; exact c0
        obtain ⟨ct, c3⟩ := ma_t O X S hcz
        rw [← hc] at ct c3
        have hI := I.2.2.2.1 q hq
        have A0 := cS.2.1
        have a0t := tgc O A0.1 c3
        rw [ct] at a0t
        have n0 := ne_o O c3 cS.2.1.1
        have n7 := ne_f O c3 cS.2.1.1 cS.2.2.1.1 (by omega)
        have n8 := ne_f O c3 cS.2.1.1 cS.2.2.2.1.1 (by omega)
        have n9 := ne_f O c3 cS.2.1.1 cS.2.2.2.2.1.1 (by omega)
        have n10 := ne_f O c3 cS.2.1.1 cS.2.2.2.2.2.1.1 (by omega)
        have F1 : Fr (fun y => y = gP h c 0) h (sI h (gP h c 0) s (nI b)) := Fr.sI rfl
        have sf := obj_sm (s0 := q) (F := 8) O t3 t19 (by omega) (show 19 ≠ 0 by omega) F1 (fun y hy => by
          have hy : y = gP h c 0 := hy
          subst hy
          exact ⟨A0.1, by rw [a0t, t19]; exact List.suffix_cons _ _⟩)
        have mo : ∀ j, j ≠ 320230 + 183 * q + s → va_up m (320230 + 183 * q + s) (nI b) j = m j := fun j hj => by simp only [up_at, if_neg hj]
        obtain ⟨M, hM⟩ : ∃ M, M = va_up m (320230 + 183 * q + s) (nI b) := ⟨_, Eq.refl _⟩
        rw [← hM] at mo
        have ms : M (320230 + 183 * q + s) = nI b := by rw [hM, up_at, if_pos (Eq.refl _)]
        obtain ⟨g, hg⟩ : ∃ g, g = sI h (gP h c 0) s (nI b) := ⟨_, Eq.refl _⟩
        rw [← hg] at F1 sf
        have Sg : RmS g 19 := S.ma F1 sf (by
          rw [← hc, hg]
          obtain ⟨s1, s2, s3, s4, s5, s6, s7, s8⟩ := cS
          refine ⟨s1, s2, s3, s4, s5, s6, ?_, fun j => ?_⟩
          · rw [gI_sI, if_neg n0]
            exact s7
          · show zO (gI (sI h (gP h c 0) s (nI b)) (gP h c 10) j)
            rw [gI_sI, if_neg (fun z => n10 z.symm)]
            exact s8 j)
        have Vg : RmV g 19 M := RmV.ma I V F1 sf (by omega) (fun j hj => mo j (by omega)) fun _ => by
          rw [← hc, hg]
          obtain ⟨v0, v1, v2, v3, v4, v5, v6, v7⟩ := cV
          have e29 := Nn.c (mo (320230 + 183 * q + 29) (by omega))
          have j30 := (hI.2.2.2.1.eq (by omega)).2
          unfold MaV
          rw [e29]
          simp only [gP_sI]
          refine ⟨fun j hj => ?_, ?_, ?_, ?_, ?_, ?_, ?_, fun j hj => ?_⟩
          · rw [gI2]
            by_cases zj : j = s
            · subst zj
              rw [if_pos ⟨Eq.refl _, Eq.refl _⟩, ms]
            · rw [if_neg (fun e => zj e.2), mo _ (by omega)]; exact v0 j hj
          · rw [gI_sI, if_neg n0, mo _ (by omega)]; exact v1
          · rw [gI_sI, if_neg n0, mo _ (by omega)]; exact v2
          · rw [gI_sI, if_neg n0, mo _ (by omega)]; exact v3
          · rw [gI_sI, if_neg n0, mo _ (by omega)]; exact v4
          · rw [gI_sI, if_neg n0, mo _ (by omega)]; exact v5
          · rw [gI_sI, if_neg n0, mo _ (by omega)]; exact v6
          · have jb := (hI.2.2.2.2 j hj).2.1.1
            have e0 := mo (320230 + 183 * q + 33 + 5 * j) (by omega)
            rw [gI_sI, if_neg (fun z => n7 z.symm), gI_sI, if_neg (fun z => n8 z.symm), gI_sI, if_neg (fun z => n10 z.symm), gI_sI, if_neg (fun z => n9 z.symm), Nn.c e0, e0, mo (320230 + 183 * q + 33 + 5 * j + 1) (by omega), mo (320230 + 183 * q + 33 + 5 * j + 2) (by omega), mo (320230 + 183 * q + 33 + 5 * j + 3) (by omega), mo (320230 + 183 * q + 33 + 5 * j + 4) (by omega), mo (130 + 645 * Nn m (320230 + 183 * q + 33 + 5 * j) + 3) (by omega), mo (130 + 645 * Nn m (320230 + 183 * q + 33 + 5 * j) + 4) (by omega)]
            exact v7 j hj
        have mk : ∀ k2 y, 320230 + 183 * k2 + 27 ≤ y → y < 320230 + 183 * k2 + 183 → M y = m y := fun k2 y h1 h2 => mo y (mk_ne hs h1 h2)
        have Ig : MI M := MI.mch I hq (fun j hj => mo j (by omega)) fun k2 hk2 => by
          have I2 := I.2.2.2.1 k2 hk2
          obtain ⟨a0, a1, a2, a3, a4⟩ := I2
          have h30 := (a3.eq (by omega)).2
          refine ⟨fun j hj => ?_, a1.c (mk k2 _ (by omega) (by omega)), a2.c (mk k2 _ (by omega) (by omega)), a3.c (mk k2 _ (by omega) (by omega)), fun j hj => ?_⟩
          · by_cases zj : 320230 + 183 * k2 + j = 320230 + 183 * q + s
            · exact ⟨b, by omega, by rw [zj, ms]⟩
            · exact (a0 j hj).c (mo _ zj)
          · rw [Nn.c (mk k2 _ (by omega) (by omega))] at hj
            obtain ⟨c1, c2, c3', c4, c5, c6, c7, c8⟩ := a4 j hj
            have jb := c2.1
            have e0 := mk k2 (320230 + 183 * k2 + 33 + 5 * j) (by omega) (by omega)
            rw [Nn.c e0, Nn.c (mk k2 (320230 + 183 * k2 + 33 + 5 * j + 1) (by omega) (by omega)), Nn.c (mk k2 (320230 + 183 * k2 + 33 + 5 * j + 2) (by omega) (by omega)), mk k2 (320230 + 183 * k2 + 33 + 5 * j + 1) (by omega) (by omega), mk k2 (320230 + 183 * k2 + 33 + 5 * j + 4) (by omega) (by omega), mo (130 + 645 * Nn m (320230 + 183 * k2 + 33 + 5 * j) + 2) (by omega), mo (130 + 645 * Nn m (320230 + 183 * k2 + 33 + 5 * j) + 3) (by omega), Nn.c (mo (130 + 645 * Nn m (320230 + 183 * k2 + 33 + 5 * j) + 4) (by omega)), Nn.c (mo 3 (by omega)), e0]
            refine ⟨c1.c e0, c2.c (mo _ (by omega)) (fun _ => mo _ (by omega)), c3'.c (mk k2 _ (by omega) (by omega)), c4.c (mk k2 _ (by omega) (by omega)), c5.c (mk k2 _ (by omega) (by omega)), c6.c (mk k2 _ (by omega) (by omega)), c7, fun hf => ?_⟩
            obtain ⟨d1, d2, d3, d4⟩ := c8 hf
            refine ⟨d1, d2, d3, fun k' hk' j' hj' => ?_⟩
            have h30' := ((I.2.2.2.1 k' hk').2.2.2.1.eq (by omega)).2
            rw [Nn.c (mk k' (320230 + 183 * k' + 29) (by omega) (by omega))] at hj'
            rw [mk k' (320230 + 183 * k' + 33 + 5 * j' + 4) (by omega) (by omega), mk k' (320230 + 183 * k' + 33 + 5 * j') (by omega) (by omega)]
            exact d4 k' hk' j' hj'
        have Kg : Rt tg g 19 5 := C.rt.fr F1
        obtain ⟨d, hd, ed⟩ : ∃ d, d ≤ 9 ∧ m (320230 + 183 * q + 27) = nI d := hI.2.1
        have Md : M (320230 + 183 * q + 27) = nI d := by rw [mo _ (by omega)]; exact ed
        obtain ⟨h2, y1, y2, y3⟩ := c_countOut (k := q) (w := nI (Nn m 0 + 1) - nI d) (T := Nn m 0) Kg Sg Vg Ig
        have sc := sc16 Kg Sg y2
        have n4 : Nn M 4 = Nn m 4 := Nn.c (mo 4 (by omega))
        have n3 : Nn M 3 = Nn m 3 := Nn.c (mo 3 (by omega))
        have a16 := Sg.2.2.2.2.2.2.2.2.2.2.1
        refine Pr.room (h1 := h2) (m' := M) (D := fun y => y = gP h c 0 ∨ (y ≠ 0 ∧ scT 5 (tg y))) C R (jmax (nI 0) (nI b - nI (ouN M q (nI (Nn m 0 + 1) - nI d) (Nn m 0) s (Nn M 4)))) ?_ ((F1.mono (fun y hy => Or.inl hy)).trans (Fr.mono sc.1 (fun y hy => Or.inr hy))) (fun y hy => ?_) (sc.rs Kg Sg) (sc.rv Kg Vg) Ig (fun j hj => mo j (by unfold rgDk at hj; omega)) fun h' R' => ?_
        · have X1 : kd h2 1 = 10 := by rw [y2.1, F1.1]; exact X.1
          have X19 : gP h2 1 5 = 19 := by rw [y2.2.2.1, F1.2.2.1]; exact X5 X
          have g0 : gI g 19 0 = nI (Nn m 0) := by rw [Vg.1, mo 0 (by omega)]; exact b0
          have g1 : gI g c 1 = nI d := by rw [hg, gI_sI, if_neg n0]; exact cV.2.1.trans ed
          have s2 := sc.rs Kg Sg
          have a2 := s2.2.2.2.2.2.2.2.2.2.2.1
          unfold MX11_brass
          rw [gg_t X.1, X5 X, gg_t S.1, ec, ob_some, if_neg c0, c_isSi hs, ob_some, if_neg (by decide), c_isBr (by omega), ob_some, if_neg (by decide), gg_t cS.1, gg_t A0.2.1, A0.2.2, gg_in (by omega) (by omega), nCl (by omega), lt_eq, ← hg, g0, g1]
          simp only [ZL]
          rw [br_w, y1, ob_some, gg_t X1, X19, gg_t s2.1, gg_t a2.2.1, a2.2.2, gg_in (by omega) (by omega), y2.2.2.1, y3 s hs]
        · rcases hy with hy | hy
          · have hy : y = gP h c 0 := hy
            subst hy
            exact ⟨A0.1, by rw [a0t]; exact List.suffix_append [0, q, 8] [5]⟩
          · exact ⟨hy.1, hy.2.sf⟩
        · have R1 : RSt (sI (sI h' 73 0 (nI 0)) 74 (320230 + 183 * q + s) (nI b)) M k i t n f := by
            rw [hM]
            exact R'.th.m1
          refine ⟨sI (sI h' 73 0 (nI 0)) 74 (320230 + 183 * q + s) (nI b), ?_, th_fr.trans fr74, R1, ?_⟩
          · have th := r_there (k := q) (T := Nn m 0) R1.1 R1.2.1 Ig (by omega) hs (by omega)
            rw [ms, Md] at th
            have m0 : M 0 = nI (Nn m 0) := by rw [mo 0 (by omega)]; exact b0
            rw [hM] at m0
            unfold MX12_brass
            rw [gg_t (RS.f R'.1).1, r_isMachine_t R'.1 R'.2.1 I.1 hq, ob_some, if_neg (by decide)]
            simp (disch := omega) only [r_isIn_t, MX12_brass_38, MX12_machine0, ↓reduceIte, Nat.reduceLT, Nat.reduceLeDiff, Nat.reduceEqDiff, ZL, nAdd, nMul, nSub, nLt, nLe, nEq, nCl, nDiv, nRem2, nM1, nM2, nM3, nM4, nM5, nM6, gg_in, gg_rf, gg_T, if_true, if_false, ↓lt_eq, ob_some, b2_some, up1_some, kd_sI, ln_sI, gP_sI, gI_sI, kd_rI, ln_rI, gP_rI, gI_rI, kd_bmp, ln_bmp, gP_bmp, gI_bmp, up_at, i0, i1, RS.f R'.1, R'.2.1, b0, th]
          · simp (disch := omega) only [↓reduceIte, Nat.reduceLT, Nat.reduceLeDiff, Nat.reduceEqDiff, ZL, nAdd, nMul, nSub, nLt, nLe, nEq, nCl, nDiv, nRem2, nM1, nM2, nM3, nM4, nM5, nM6, gg_in, gg_rf, gg_T, if_true, if_false, ↓lt_eq, ob_some, b2_some, up1_some, kd_sI, ln_sI, gP_sI, gI_sI, kd_rI, ln_rI, gP_rI, gI_rI, kd_bmp, ln_bmp, gP_bmp, gI_bmp, up_at, i0, i1]
end
