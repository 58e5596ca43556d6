/-! a job is added: class; again -/
section
variable {tg : Nat → List Nat} {h h1 h' : Hp} {m M kk t : Nat → Int32} {i f w bv : Int32} {r x s c k n q a b fr e : Nat}
theorem vbz : ∀ fr, fr < 2 → vp_nar .boolean (nI fr) = nI fr := by decide
theorem c_addJob (cS : MaS h c) (h3 : gI h c 3 = nI n) (n30 : n < 30) (hfr : fr < 2) (n7 : c ≠ gP h c 7) (n8 : c ≠ gP h c 8) (n9 : c ≠ gP h c 9) (n10 : c ≠ gP h c 10) : MX4_addJob h c (nI q) (nI a) bv (nI fr) = some (jbH h c n q a bv fr) := by
  obtain ⟨s1, ⟨s2, s2a, s2b⟩, ⟨s3, s3a, s3b⟩, ⟨s4, s4a, s4b⟩, ⟨s5, s5a, s5b⟩, ⟨s6, s6a, s6b⟩, s7, s8⟩ := cS
  have y := vbz fr hfr
  unfold MX4_addJob jbH
  simp (disch := omega) only [↓reduceIte, Nat.reduceLT, Nat.reduceLeDiff, Nat.reduceEqDiff, ZL, nAdd, nMul, nSub, nLt, nLe, nEq, nCl, nDiv, nRem2, nM1, nM2, nM3, nM4, nM5, nM6, gg_in, gg_rf, gg_T, if_true, if_false, ↓lt_eq, ob_some, b2_some, up1_some, kd_sI, ln_sI, gP_sI, gI_sI, kd_rI, ln_rI, gP_rI, gI_rI, kd_bmp, ln_bmp, gP_bmp, gI_bmp, up_at, i0, i1, s1, h3, s3a, s3b, s4a, s4b, s5a, s5b, s6a, s6b, y, n30]
theorem ma_add (C : CSt tg h m kk i t w f) (hk : k < Nn m 3) (hn : n = Nn m (320230 + 183 * k + 29)) (n30 : n < 30) (vq : vP m q) (hfr : fr ≤ 1) (he : e ≤ 1) (hbv : bv = if e = 1 then (if m (130 + 645 * q + 3) = nI 1 then m (130 + 645 * q + 4) else -1) else nI b) : ∃ c, c = gP h (gP h 19 8) k ∧ MX7_findMachine h 19 (nI k) = some c ∧ c ≠ 0 ∧ kd h c = 3 ∧ gI h c 3 = nI n ∧ ∃ h1, MX4_addJob h c (nI q) (nI a) bv (nI fr) = some h1 ∧ gI h1 c 3 = nI (n + 1) ∧ Fr (fun y => y ≠ 0 ∧ [k, 8, 5] <:+ tg y) h h1 ∧ RmS h1 19 ∧ RmV h1 19 (jbM m k n q a b fr e) := by
  obtain ⟨O, X, X2, S, V, D, DV, I, T, Im, Tr⟩ := id C
  obtain ⟨-, -, t3, -, -, -, t19, -⟩ := tgs O X
  obtain ⟨-, -, -, ⟨b3, b3'⟩, -⟩ := I.1.f
  obtain ⟨c, hc, ec, c0, cS, cV⟩ := c_findMachine_t S V I.1 hk
  have hcz : gP h (gP h 19 8) k ≠ 0 := by rw [← hc]; exact c0
  obtain ⟨ct, c3⟩ := ma_t O X S hcz
  rw [← hc] at ct c3
  have hI := I.2.2.2.1 k hk
  obtain ⟨e29, l29⟩ := hI.2.2.2.1.eq (by omega)
  rw [← hn] at e29
  have g3 : gI h c 3 = nI n := cV.2.2.2.1.trans e29
  have n0 := ne_o O c3 cS.2.1.1
  have n7 := ne_o O c3 cS.2.2.1.1
  have n8 := ne_o O c3 cS.2.2.2.1.1
  have n9 := ne_o O c3 cS.2.2.2.2.1.1
  have n10 := ne_o O c3 cS.2.2.2.2.2.1.1
  have p07 := ne_f O c3 cS.2.1.1 cS.2.2.1.1 (by omega)
  have p08 := ne_f O c3 cS.2.1.1 cS.2.2.2.1.1 (by omega)
  have p09 := ne_f O c3 cS.2.1.1 cS.2.2.2.2.1.1 (by omega)
  have p010 := ne_f O c3 cS.2.1.1 cS.2.2.2.2.2.1.1 (by omega)
  have p78 := ne_f O c3 cS.2.2.1.1 cS.2.2.2.1.1 (by omega)
  have p79 := ne_f O c3 cS.2.2.1.1 cS.2.2.2.2.1.1 (by omega)
  have p710 := ne_f O c3 cS.2.2.1.1 cS.2.2.2.2.2.1.1 (by omega)
  have p89 := ne_f O c3 cS.2.2.2.1.1 cS.2.2.2.2.1.1 (by omega)
  have p810 := ne_f O c3 cS.2.2.2.1.1 cS.2.2.2.2.2.1.1 (by omega)
  have p910 := ne_f O c3 cS.2.2.2.2.1.1 cS.2.2.2.2.2.1.1 (by omega)
  have tz : ∀ j, gP h c j ≠ 0 → gP h c j ≠ 0 ∧ [k, 8, 5] <:+ tg (gP h c j) := fun j hj => ⟨hj, by
    rw [tgc O hj c3, ct]
    exact List.suffix_cons _ _⟩
  have F1 : Fr (fun y => y ≠ 0 ∧ [k, 8, 5] <:+ tg y) h (jbH h c n q a bv fr) := by
    unfold jbH
    exact ((((Fr.sI (S := fun y => y ≠ 0 ∧ [k, 8, 5] <:+ tg y) (tz 7 cS.2.2.1.1)).trans (Fr.sI (S := fun y => y ≠ 0 ∧ [k, 8, 5] <:+ tg y) (tz 8 cS.2.2.2.1.1))).trans (Fr.sI (S := fun y => y ≠ 0 ∧ [k, 8, 5] <:+ tg y) (tz 9 cS.2.2.2.2.1.1))).trans (Fr.sI (S := fun y => y ≠ 0 ∧ [k, 8, 5] <:+ tg y) (tz 10 cS.2.2.2.2.2.1.1))).trans (Fr.sI (S := fun y => y ≠ 0 ∧ [k, 8, 5] <:+ tg y) ⟨c0, by rw [ct]; exact List.suffix_refl _⟩)
  have sf := obj_sm (s0 := k) (F := 8) O t3 t19 (by omega) (show 19 ≠ 0 by omega) F1 (fun y hy => by rw [t19]; exact hy)
  refine ⟨c, hc, ec, c0, cS.1, g3, jbH h c n q a bv fr, c_addJob cS g3 n30 (by omega) n7 n8 n9 n10, ?_, F1, S.ma F1 sf ?_, RmV.ma I V F1 sf (by omega) (fun j hj => jb_out (by omega) (by omega)) fun _ => ?_⟩
  · unfold jbH
    simp (disch := omega) only [gI2, i0, i1, and_self, if_true]
  · rw [← hc]
    obtain ⟨s1, s2, s3, s4, s5, s6, s7, s8⟩ := cS
    refine ⟨s1, s2, s3, s4, s5, s6, ?_, fun j => ?_⟩
    · unfold jbH
      simp (disch := omega) only [gI2, i0, i1, and_self, if_true]
      exact s7
    · unfold jbH
      simp only [gP_sI]
      by_cases z : j = n
      · subst z
        simp (disch := omega) only [gI2, i0, i1, and_self, if_true]
        rcases (show fr = 0 ∨ fr = 1 by omega) with rfl | rfl
        · exact Or.inl rfl
        · exact Or.inr rfl
      · simp (disch := omega) only [gI2, i0, i1, and_self, if_true]
        exact s8 j
  · rw [← hc]
    obtain ⟨v0, v1, v2, v3, v4, v5, v6, v7⟩ := cV
    obtain ⟨F29, F0, F1', F2, F3, F4⟩ := jb_f (m := m) (k := k) (q := q) (a := a) (b := b) (fr := fr) (e := e) n30
    have vb := vq.1
    have N29 : Nn (jbM m k n q a b fr e) (320230 + 183 * k + 29) = n + 1 := by unfold Nn; rw [F29, nCl (by omega)]
    unfold MaV
    rw [N29]
    unfold jbH
    simp only [gP_sI]
    refine ⟨fun j hj => ?_, ?_, ?_, ?_, ?_, ?_, ?_, fun j hj => ?_⟩
    · rw [jb_out (by omega) (by omega)]
      simp (disch := omega) only [gI2, i0, i1, and_self, if_true]
      exact v0 j hj
    · rw [jb_out (by omega) (by omega)]
      simp (disch := omega) only [gI2, i0, i1, and_self, if_true]
      exact v1
    · rw [jb_out (by omega) (by omega)]
      simp (disch := omega) only [gI2, i0, i1, and_self, if_true]
      exact v2
    · rw [F29]
      simp (disch := omega) only [gI2, i0, i1, and_self, if_true]
    · rw [jb_out (by omega) (by omega)]
      simp (disch := omega) only [gI2, i0, i1, and_self, if_true]
      exact v4
    · rw [jb_out (by omega) (by omega)]
      simp (disch := omega) only [gI2, i0, i1, and_self, if_true]
      exact v5
    · rw [jb_out (by omega) (by omega)]
      simp (disch := omega) only [gI2, i0, i1, and_self, if_true]
      exact v6
    · by_cases z : j = n
      · subst z
        have N0 : Nn (jbM m k j q a b fr e) (320230 + 183 * k + 33 + 5 * j) = q := by unfold Nn; rw [F0, nCl (by omega)]
        rw [N0, F0, F1', F2, F3, F4, jb_out (y := 130 + 645 * q + 3) (by omega) (by omega), jb_out (y := 130 + 645 * q + 4) (by omega) (by omega)]
        simp (disch := omega) only [gI2, i0, i1, and_self, if_true]
        refine ⟨trivial, trivial, trivial, ?_⟩
        rw [hbv]
        rcases (show e = 0 ∨ e = 1 by omega) with rfl | rfl
        · exact Eq.refl _
        · exact Eq.refl _
      · have hj2 : j < Nn m (320230 + 183 * k + 29) := by omega
        have jb := (hI.2.2.2.2 j hj2).2.1.1
        have e0 : jbM m k n q a b fr e (320230 + 183 * k + 33 + 5 * j) = m (320230 + 183 * k + 33 + 5 * j) := jb_out (by omega) (by omega)
        rw [Nn.c e0, e0, jb_out (y := 320230 + 183 * k + 33 + 5 * j + 1) (by omega) (by omega), jb_out (y := 320230 + 183 * k + 33 + 5 * j + 2) (by omega) (by omega), jb_out (y := 320230 + 183 * k + 33 + 5 * j + 3) (by omega) (by omega), jb_out (y := 320230 + 183 * k + 33 + 5 * j + 4) (by omega) (by omega), jb_out (y := 130 + 645 * Nn m (320230 + 183 * k + 33 + 5 * j) + 3) (by omega) (by omega), jb_out (y := 130 + 645 * Nn m (320230 + 183 * k + 33 + 5 * j) + 4) (by omega) (by omega)]
        simp (disch := omega) only [gI2, i0, i1, and_self, if_true]
        exact v7 j hj2
end
