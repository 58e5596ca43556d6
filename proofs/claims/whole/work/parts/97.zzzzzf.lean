/-! correct: the best way in the reference, of a part's copy alone -/
/-! out of 97.a -/
section
variable {h h1 h' : Hp} {m : Nat → Int32} {q e me le mo co : Nat}
theorem r_endsWordX (R : RS h) (em : gI h 74 = m) (hq : vP m q) (J : MIx m q) {k : Nat} (hk : k < nP m q) : MX12_endsWord h 73 (nI (130 + 645 * q)) (nI k) = some (if weN m q (k + 1) = weN m q k then nI 0 else nI 1) := by
  obtain ⟨j1, j2, j3⟩ := J.n
  have hb := hq.1
  have pd := pd_iffX J hk
  unfold MX12_endsWord
  by_cases z : k + 1 = nP m q
  · rw [if_neg (fun w => pd.mp w (Or.inl z))]
    have z2 : k = nP m q - 1 := by omega
    simp (disch := omega) only [↓reduceIte, Nat.reduceLT, Nat.reduceLeDiff, Nat.reduceEqDiff, ZL, nAdd, nMul, nSub, nLt, nLe, nEq, nCl, nDiv, nRem2, nM1, nM2, nM3, nM4, nM5, nM6, gg_in, gg_rf, gg_T, if_true, if_false, ↓lt_eq, ob_some, b2_some, up1_some, kd_sI, ln_sI, gP_sI, gI_sI, kd_rI, ln_rI, gP_rI, gI_rI, kd_bmp, ln_bmp, gP_bmp, gI_bmp, up_at, i0, i1, RS.f R, em, j1, z2]
  · have z2 : ¬ k = nP m q - 1 := by omega
    by_cases w : m (130 + 645 * q + 85 + k) = m (130 + 645 * q + 85 + k + 1)
    · rw [if_pos (pd.mpr (fun y => by
        rcases y with y | y
        · exact z y
        · exact y w))]
      simp (disch := omega) only [↓reduceIte, Nat.reduceLT, Nat.reduceLeDiff, Nat.reduceEqDiff, ZL, nAdd, nMul, nSub, nLt, nLe, nEq, nCl, nDiv, nRem2, nM1, nM2, nM3, nM4, nM5, nM6, gg_in, gg_rf, gg_T, if_true, if_false, ↓lt_eq, ob_some, b2_some, up1_some, kd_sI, ln_sI, gP_sI, gI_sI, kd_rI, ln_rI, gP_rI, gI_rI, kd_bmp, ln_bmp, gP_bmp, gI_bmp, up_at, i0, i1, RS.f R, em, j1, if_neg z2, if_pos w]
    · rw [if_neg (fun y => pd.mp y (Or.inr w))]
      simp (disch := omega) only [↓reduceIte, Nat.reduceLT, Nat.reduceLeDiff, Nat.reduceEqDiff, ZL, nAdd, nMul, nSub, nLt, nLe, nEq, nCl, nDiv, nRem2, nM1, nM2, nM3, nM4, nM5, nM6, gg_in, gg_rf, gg_T, if_true, if_false, ↓lt_eq, ob_some, b2_some, up1_some, kd_sI, ln_sI, gP_sI, gI_sI, kd_rI, ln_rI, gP_rI, gI_rI, kd_bmp, ln_bmp, gP_bmp, gI_bmp, up_at, i0, i1, RS.f R, em, j1, if_neg z2, if_neg w]
theorem r_gapsX (R : RS h) (em : gI h 74 = m) (hq : vP m q) (J : MIx m q) {i k : Nat} (hi : i ≤ k) (hk : k < nP m q) : MX12_gapsOf h 73 (nI (130 + 645 * q)) (nI i) (nI k) = some (nI (gaN m q i k)) := by
  have hb := hq.1
  obtain ⟨j1, j2, j3⟩ := J.n
  have a := (J.bt (k := i) (by omega)).1
  have b := (J.bt hk).1
  have mw : weN m q i ≤ weN m q k := by
    have := we_monoX J (a := i) (k - i) (by omega)
    rwa [show i + (k - i) = k by omega] at this
  have e1 := (we_sX J hk).2.2
  have e2 := (we_sX J (k := i) (by omega)).2.2
  unfold MX12_gapsOf gaN
  rw [e1, e2] at mw ⊢
  simp (disch := omega) only [↓reduceIte, Nat.reduceLT, Nat.reduceLeDiff, Nat.reduceEqDiff, ZL, nAdd, nMul, nSub, nLt, nLe, nEq, nCl, nDiv, nRem2, nM1, nM2, nM3, nM4, nM5, nM6, gg_in, gg_rf, gg_T, if_true, if_false, ↓lt_eq, ob_some, b2_some, up1_some, kd_sI, ln_sI, gP_sI, gI_sI, kd_rI, ln_rI, gP_rI, gI_rI, kd_bmp, ln_bmp, gP_bmp, gI_bmp, up_at, i0, i1, RS.f R, em, a, b]
theorem r_wideX (R : RS h) (em : gI h 74 = m) (B : MIb m) (hq : vP m q) (J : MIx m q) {i k : Nat} (hi : i ≤ k) (hk : k < nP m q) : MX12_wide h 73 (nI q) (nI i) (nI k) = some (nI (wiN m q i k)) := by
  have hb := hq.1
  obtain ⟨j1, j2, j3⟩ := J.n
  obtain ⟨f1, f2⟩ := fc_v B hq
  obtain ⟨f, hf⟩ : ∃ f, f = Nn m (70 + q / 5) := ⟨_, rfl⟩
  rw [← hf] at f1 f2
  have hyv := wd_v B (f := f) (c := 26) f2 (by omega)
  have ehy : hyN m q = Nn m (16 + 27 * f + 26) := by unfold hyN; rw [hf]
  have mp : ∀ a, i ≤ a → wpN m q i ≤ wpN m q a := fun a ha => by
    have := wp_mono (m := m) (q := q) (a := i) (a - i)
    rwa [show i + (a - i) = a by omega] at this
  -- the pieces, one behind the other
  have pieces : ∀ n0, n0 ≤ 100 → MX12_wide_54 h 73 (nI k) (nI (130 + 645 * q)) (nI (16 + 27 * f)) (nI n0) (nI i) = some (nI (n0 + (wpN m q (k + 1) - wpN m q i))) := fun n0 hn0 => by
    unfold MX12_wide_54
    refine it_seq2 (fun d => (nI (n0 + (wpN m q (i + d) - wpN m q i)), nI (i + d))) (k + 1 - i) (by simp) (fun d hd => ?_) ?_
    · show BX12_wide_54 h 73 (nI k) (nI (130 + 645 * q)) (nI (16 + 27 * f)) (nI (n0 + (wpN m q (i + d) - wpN m q i))) (nI (i + d)) = _
      obtain ⟨a1, a2, a3, a4, a5, a6⟩ := J.bt (k := i + d) (by omega)
      have w0 := wp_leX B J (by omega) (i + d) (by omega)
      have wl := fun x hx => wl_leX B J (by omega) (k := i + d) (by omega) x hx
      unfold BX12_wide_54
      rw [if_neg (nI_nlt (by omega) (by omega))]
      unfold MX12_wide_63
      refine Eq.trans (it_seq2 (fun x => (nI (n0 + (wpN m q (i + d) - wpN m q i) + wlN m q (i + d) x), nI x)) (Nn m (130 + 645 * q + 125 + (i + d))) rfl (fun x hx => ?_) ?_) rfl
      · show BX12_wide_63 h 73 (nI k) (nI (130 + 645 * q)) (nI (16 + 27 * f)) (nI (n0 + (wpN m q (i + d) - wpN m q i) + wlN m q (i + d) x)) (nI (i + d)) (nI x) = _
        obtain ⟨c1, c2⟩ := a6 x hx
        have wv := wd_v B (f := f) (c := Nn m (130 + 645 * q + 165 + 12 * (i + d) + x)) f2 (by omega)
        have ew1 : wlN m q (i + d) (x + 1) = wlN m q (i + d) x + Nn m (16 + 27 * f + Nn m (130 + 645 * q + 165 + 12 * (i + d) + x)) := by rw [hf]; rfl
        rw [ew1, ← Nat.add_assoc]
        unfold BX12_wide_63
        simp (disch := omega) only [↓reduceIte, Nat.reduceLT, Nat.reduceLeDiff, Nat.reduceEqDiff, ZL, nAdd, nMul, nSub, nLt, nLe, nEq, nCl, nDiv, nRem2, nM1, nM2, nM3, nM4, nM5, nM6, gg_in, gg_rf, gg_T, if_true, if_false, ↓lt_eq, ob_some, b2_some, up1_some, kd_sI, ln_sI, gP_sI, gI_sI, kd_rI, ln_rI, gP_rI, gI_rI, kd_bmp, ln_bmp, gP_bmp, gI_bmp, up_at, i0, i1, RS.f R, em, a3, c1, wv.1]
      · show BX12_wide_63 h 73 (nI k) (nI (130 + 645 * q)) (nI (16 + 27 * f)) (nI (n0 + (wpN m q (i + d) - wpN m q i) + wlN m q (i + d) (Nn m (130 + 645 * q + 125 + (i + d))))) (nI (i + d)) (nI (Nn m (130 + 645 * q + 125 + (i + d)))) = some (.inr (.inl (nI (n0 + (wpN m q (i + d + 1) - wpN m q i)), nI (i + d + 1))))
        have e : wpN m q (i + d + 1) = wpN m q (i + d) + wlN m q (i + d) (Nn m (130 + 645 * q + 125 + (i + d))) := rfl
        have := mp (i + d) (by omega)
        rw [e, show n0 + (wpN m q (i + d) + wlN m q (i + d) (Nn m (130 + 645 * q + 125 + (i + d))) - wpN m q i) = n0 + (wpN m q (i + d) - wpN m q i) + wlN m q (i + d) (Nn m (130 + 645 * q + 125 + (i + d))) by omega]
        unfold BX12_wide_63
        simp (disch := omega) only [↓reduceIte, Nat.reduceLT, Nat.reduceLeDiff, Nat.reduceEqDiff, ZL, nAdd, nMul, nSub, nLt, nLe, nEq, nCl, nDiv, nRem2, nM1, nM2, nM3, nM4, nM5, nM6, gg_in, gg_rf, gg_T, if_true, if_false, ↓lt_eq, ob_some, b2_some, up1_some, kd_sI, ln_sI, gP_sI, gI_sI, kd_rI, ln_rI, gP_rI, gI_rI, kd_bmp, ln_bmp, gP_bmp, gI_bmp, up_at, i0, i1, RS.f R, em, a3]
    · show BX12_wide_54 h 73 (nI k) (nI (130 + 645 * q)) (nI (16 + 27 * f)) (nI (n0 + (wpN m q (i + (k + 1 - i)) - wpN m q i))) (nI (i + (k + 1 - i))) = _
      rw [show i + (k + 1 - i) = k + 1 by omega]
      unfold BX12_wide_54
      rw [if_pos (nI_lt (by omega) (by omega))]
  have ends := r_endsWordX R em hq J hk
  have t49 : ∀ n0, n0 ≤ 100 → MX12_wide_49 h 73 (nI i) (nI k) (nI (130 + 645 * q)) (nI (16 + 27 * f)) (nI n0) = some (nI (n0 + (wpN m q (k + 1) - wpN m q i))) := fun n0 hn => by
    unfold MX12_wide_49
    exact pieces n0 hn
  unfold MX12_wide wiN
  rw [r_part0, ob_some]
  by_cases z : weN m q (k + 1) = weN m q k
  · rw [if_pos z] at ends ⊢
    have := t49 (hyN m q) (by omega)
    rw [Nat.add_comm (hyN m q)] at this
    have e26 : m (16 + 27 * f + 26) = nI (hyN m q) := by rw [ehy]; exact hyv.1
    simp (disch := omega) only [↓reduceIte, Nat.reduceLT, Nat.reduceLeDiff, Nat.reduceEqDiff, ZL, nAdd, nMul, nSub, nLt, nLe, nEq, nCl, nDiv, nRem2, nM1, nM2, nM3, nM4, nM5, nM6, gg_in, gg_rf, gg_T, if_true, if_false, ↓lt_eq, ob_some, b2_some, up1_some, kd_sI, ln_sI, gP_sI, gI_sI, kd_rI, ln_rI, gP_rI, gI_rI, kd_bmp, ln_bmp, gP_bmp, gI_bmp, up_at, i0, i1, RS.f R, em, f1, ends, e26]
    exact this
  · rw [if_neg z] at ends ⊢
    have := t49 0 (by omega)
    rw [Nat.zero_add] at this
    simp (disch := omega) only [↓reduceIte, Nat.reduceLT, Nat.reduceLeDiff, Nat.reduceEqDiff, ZL, nAdd, nMul, nSub, nLt, nLe, nEq, nCl, nDiv, nRem2, nM1, nM2, nM3, nM4, nM5, nM6, gg_in, gg_rf, gg_T, if_true, if_false, ↓lt_eq, ob_some, b2_some, up1_some, kd_sI, ln_sI, gP_sI, gI_sI, kd_rI, ln_rI, gP_rI, gI_rI, kd_bmp, ln_bmp, gP_bmp, gI_bmp, up_at, i0, i1, RS.f R, em, f1, ends, n10]
    rw [Nat.add_zero]
    exact this
end
/-! out of 97.b -/
section
variable {h h1 h' : Hp} {m : Nat → Int32} {q e me le mo co : Nat}
theorem r_tightX (P : Ps me le mo co) (L : RLn h me le mo co) (R : RS h) (em : gI h 74 = m) (B : MIb m) (hq : vP m q) (J : MIx m q) {i k : Nat} (hi : i ≤ k) (hk : k < nP m q) : MX12_tight h 73 (nI q) (nI i) (nI k) = some (nI (tiN m q le i k)) := by
  unfold MX12_tight tiN
  rw [gg_t (RS.f R).1, r_wideX R em B hq J hi hk, ob_some, r_part0, ob_some, r_gapsX R em hq J hi hk, ob_some, L.2.1, nMul, nAdd, Nat.mul_comm le]
theorem r_isLastX (R : RS h) (em : gI h 74 = m) (hq : vP m q) (J : MIx m q) {k : Nat} (hk : k < nP m q) : MX12_isLast h 73 (nI q) (nI k) = some (if k + 1 = nP m q then nI 1 else nI 0) := by
  have hb := hq.1
  obtain ⟨j1, j2, j3⟩ := J.n
  unfold MX12_isLast
  rw [gg_t (RS.f R).1, r_part0, ob_some]
  by_cases z : k + 1 = nP m q
  · rw [if_pos z]
    have z2 : k = nP m q - 1 := by omega
    simp (disch := omega) only [↓reduceIte, Nat.reduceLT, Nat.reduceLeDiff, Nat.reduceEqDiff, ZL, nAdd, nMul, nSub, nLt, nLe, nEq, nCl, nDiv, nRem2, nM1, nM2, nM3, nM4, nM5, nM6, gg_in, gg_rf, gg_T, if_true, if_false, ↓lt_eq, ob_some, b2_some, up1_some, kd_sI, ln_sI, gP_sI, gI_sI, kd_rI, ln_rI, gP_rI, gI_rI, kd_bmp, ln_bmp, gP_bmp, gI_bmp, up_at, i0, i1, RS.f R, em, j1, z2]
  · rw [if_neg z]
    have z2 : ¬ k = nP m q - 1 := by omega
    simp (disch := omega) only [↓reduceIte, Nat.reduceLT, Nat.reduceLeDiff, Nat.reduceEqDiff, ZL, nAdd, nMul, nSub, nLt, nLe, nEq, nCl, nDiv, nRem2, nM1, nM2, nM3, nM4, nM5, nM6, gg_in, gg_rf, gg_T, if_true, if_false, ↓lt_eq, ob_some, b2_some, up1_some, kd_sI, ln_sI, gP_sI, gI_sI, kd_rI, ln_rI, gP_rI, gI_rI, kd_bmp, ln_bmp, gP_bmp, gI_bmp, up_at, i0, i1, RS.f R, em, j1, if_neg z2]
theorem r_isStandingX (P : Ps me le mo co) (L : RLn h me le mo co) (R : RS h) (em : gI h 74 = m) (B : MIb m) (hq : vP m q) (J : MIx m q) {i k : Nat} (hi : i ≤ k) (hk : k < nP m q) : MX12_isStanding h 73 (nI q) (nI i) (nI k) = some (bI (sdB m q me le mo i k)) := by
  have ht := r_tightX P L R em B hq J hi hk
  have hl := r_isLastX R em hq J hk
  have hw := r_wideX R em B hq J hi hk
  have hg := r_gapsX R em hq J hi hk
  obtain ⟨p1, p2, p3, p4, p5, p6⟩ := P
  have tl := ti_leX B hq J (a := i) (le := le) hk (by omega)
  have gl := ga_leX J (a := i) hk
  have wl := wi_leX B hq J (a := i) hk
  have g2 : gaN m q i k * mo ≤ 24 * 40 := Nat.mul_le_mul gl p5
  obtain ⟨c1, c2, c3, c4⟩ := L
  unfold MX12_isStanding sdB
  rw [gg_t (RS.f R).1, ht, ob_some, c1]
  by_cases z1 : tiN m q le i k ≤ me
  · rw [if_pos (nI_le z1 (by omega)), hl, ob_some, decide_eq_true z1, Bool.true_and]
    by_cases z2 : k + 1 = nP m q
    · rw [if_pos z2, decide_eq_true z2, Bool.true_or, bIT, if_neg (by decide)]
      rfl
    · rw [if_neg z2, decide_eq_false z2, Bool.false_or, if_pos (show nI 0 = 0 from rfl), hw, ob_some, r_part0, ob_some, hg, ob_some, c3, nMul, nAdd, Nat.mul_comm mo]
      by_cases z3 : me ≤ wiN m q i k + gaN m q i k * mo
      · rw [if_neg (nI_nlt z3 (by omega)), decide_eq_true z3, bIT]
        rfl
      · rw [if_pos (nI_lt (by omega) (by omega)), decide_eq_false z3, bIF]
        rfl
  · rw [if_neg (nI_ge (by omega) (by omega)), decide_eq_false z1, Bool.false_and, bIF]
    rfl
theorem r_badnessX (P : Ps me le mo co) (L : RLn h me le mo co) (R : RS h) (em : gI h 74 = m) (B : MIb m) (hq : vP m q) (J : MIx m q) {i k : Nat} (hi : i ≤ k) (hk : k < nP m q) (hs : sdB m q me le mo i k = true) : MX12_badness h 73 (nI q) (nI i) (nI k) = some (nI (bdN m q me le co i k)) := by
  have ht := r_tightX P L R em B hq J hi hk
  have hl := r_isLastX R em hq J hk
  have he := r_endsWordX R em hq J hk
  have z1 : tiN m q le i k ≤ me := by
    unfold sdB at hs
    rw [Bool.and_eq_true] at hs
    exact of_decide_eq_true hs.1
  obtain ⟨c1, c2, c3, c4⟩ := L
  unfold MX12_badness bdN
  rw [gg_t (RS.f R).1, hl, ob_some]
  by_cases z2 : k + 1 = nP m q
  · rw [if_pos z2, if_pos z2, if_neg (by decide)]
    rfl
  · rw [if_neg z2, if_neg z2, if_pos (show nI 0 = 0 from rfl), ht, ob_some, r_part0, ob_some, he, ob_some, c1, c4, pk_sub z1, nMul]
    unfold MX12_badness_50
    by_cases z3 : weN m q (k + 1) = weN m q k
    · rw [if_pos z3, if_pos z3, if_pos (show nI 0 = 0 from rfl), nAdd]
    · rw [if_neg z3, if_neg z3, if_neg (by decide)]
      rw [show (0 : Int32) = nI 0 from rfl, nAdd]
theorem r_workAtX (P : Ps me le mo co) (L : RLn h me le mo co) (R : RS h) (em : gI h 74 = m) (B : MIb m) (hq : vP m q) (J : MIx m q) {i : Nat} (hi : i < nP m q) (A : AW h (wyD m q me le mo co) (i + 1) (nP m q)) : ∃ h1, BX12_work_37 h 73 (nI q) (nI (nP m q)) (nI i) = some (.inl (lV i, h1)) ∧ Fr Dr h h1 ∧ AW h1 (wyD m q me le mo co) i (nP m q) := by
  obtain ⟨S, hS⟩ : ∃ S : Nat → Nat → Bool, S = fun a j => sdB m q me le mo a (j - 1) := ⟨_, rfl⟩
  obtain ⟨c, hc⟩ : ∃ c : Nat → Nat → Nat, c = fun a j => bdN m q me le co a (j - 1) := ⟨_, rfl⟩
  obtain ⟨n, hn⟩ : ∃ n, n = nP m q := ⟨_, rfl⟩
  have j40 := (J.n).2.1
  have eD : wyD m q me le mo co = dpv S c n := by rw [hS, hc, hn]; rfl
  rw [eD, ← hn] at A ⊢
  rw [← hn] at hi j40
  obtain ⟨T, hT⟩ : ∃ T, T = dpv S c n := ⟨_, rfl⟩
  rw [← hT] at A ⊢
  have cb : ∀ a j, c a j ≤ 160999 := fun a j => by rw [hc]; exact bd_le P.2.1 P.2.2.2.2.2
  have Tb : ∀ j v, j ≤ n → T j = some v → v.1 ≤ 6439960 ∧ v.2.1 ≤ 40 := fun j v hj hv => by
    rw [hT] at hv
    obtain ⟨b1, b2, -⟩ := dpv_b j40 cb (n - j) j (by omega) v hv
    omega
  obtain ⟨g0, hg0⟩ : ∃ g, g = sI h 87 i (-nI 1) := ⟨_, rfl⟩
  have G0 : Fr Dr h g0 := by rw [hg0]; exact Fr.sI (Or.inl rfl)
  have e0 : BX12_work_37 h 73 (nI q) (nI n) (nI i) = MX12_work_53 g0 73 (nI q) (nI n) (nI i) (nI n) := by
    unfold BX12_work_37
    rw [hg0]
    simp (disch := omega) only [↓reduceIte, Nat.reduceLT, Nat.reduceLeDiff, Nat.reduceEqDiff, ZL, nAdd, nMul, nSub, nLt, nLe, nEq, nCl, nDiv, nRem2, nM1, nM2, nM3, nM4, nM5, nM6, gg_in, gg_rf, gg_T, if_true, if_false, ↓lt_eq, ob_some, b2_some, up1_some, kd_sI, ln_sI, gP_sI, gI_sI, kd_rI, ln_rI, gP_rI, gI_rI, kd_bmp, ln_bmp, gP_bmp, gI_bmp, up_at, i0, i1, RS.f R]
  rw [e0]
  unfold MX12_work_53
  have K : ∃ r, it (fun s : Int32 × Hp => BX12_work_53 s.2 73 (nI q) (nI n) (nI i) s.1) (nI n, g0) = some r ∧ (∃ h1, r = .inl (lV i, h1) ∧ Fr Dr h h1 ∧ AW h1 T i n) := by
    refine it_cnt (fun d s => s.1 = nI (n - d) ∧ Fr Dr h s.2 ∧ AW s.2 T (i + 1) n ∧ gI s.2 87 i = enBd (dpJ S c T n i d) ∧ ∀ v, dpJ S c T n i d = some v → gI s.2 88 i = nI v.2.1 ∧ gI s.2 89 i = nI v.2.2) (n - i) (fun d s hd p => ?_) (fun s p => ?_) ⟨rfl, G0, ?_, ?_, fun v hv => absurd hv (by simp [dpJ])⟩
    · obtain ⟨a, g⟩ := s
      obtain ⟨p1, G, p3, p4, p5⟩ := p
      have p1 : a = nI (n - d) := p1
      have G : Fr Dr h g := G
      have p3 : AW g T (i + 1) n := p3
      have p4 : gI g 87 i = enBd (dpJ S c T n i d) := p4
      have p5 : ∀ v, dpJ S c T n i d = some v → gI g 88 i = nI v.2.1 ∧ gI g 89 i = nI v.2.2 := p5
      subst p1
      have Rg := R.fr G
      have e73 : gI g 73 = gI h 73 := G.2.2.2.2.2.2 73 (fun z => by unfold Dr at z; omega)
      have Lg := L.fr e73
      have mg : gI g 74 = m := by rw [G.2.2.2.2.2.2 74 (fun z => by unfold Dr at z; omega)]; exact em
      have st := r_isStandingX P Lg Rg mg B hq J (i := i) (k := n - d - 1) (by omega) (by omega)
      have bd := r_badnessX P Lg Rg mg B hq J (i := i) (k := n - d - 1) (by omega) (by omega)
      have eS : S i (n - d) = sdB m q me le mo i (n - d - 1) := by rw [hS]
      have ec : c i (n - d) = bdN m q me le co i (n - d - 1) := by rw [hc]
      rw [← eS] at st bd
      rw [← ec] at bd
      have es : dpJ S c T n i (d + 1) = dpU S c T i (n - d) (dpJ S c T n i d) := rfl
      obtain ⟨r1, r2⟩ := p3 (n - d) (by omega) (by omega)
      have wr : ∀ B1 L1 : Nat, (fun s' : Int32 × Hp => s'.1 = nI (n - (d + 1)) ∧ Fr Dr h s'.2 ∧ AW s'.2 T (i + 1) n ∧ gI s'.2 87 i = enBd (some (B1, L1, n - d)) ∧ ∀ v, some (B1, L1, n - d) = some v → gI s'.2 88 i = nI v.2.1 ∧ gI s'.2 89 i = nI v.2.2) (nI (n - (d + 1)), sI (sI (sI g 87 i (nI B1)) 88 i (nI L1)) 89 i (nI (n - d))) := fun B1 L1 => by
        refine ⟨rfl, ((G.trans (Fr.sI (Or.inl rfl))).trans (Fr.sI (Or.inr (Or.inl rfl)))).trans (Fr.sI (Or.inr (Or.inr rfl))), fun j hj1 hj2 => ?_, ?_, fun v hv => ?_⟩
        · have := p3 j hj1 hj2
          show gI (sI (sI (sI g 87 i (nI B1)) 88 i (nI L1)) 89 i (nI (n - d))) 87 j = _ ∧ ∀ v, T j = some v → gI (sI (sI (sI g 87 i (nI B1)) 88 i (nI L1)) 89 i (nI (n - d))) 88 j = _ ∧ (j < n → gI (sI (sI (sI g 87 i (nI B1)) 88 i (nI L1)) 89 i (nI (n - d))) 89 j = _)
          have q87 : gI (sI (sI (sI g 87 i (nI B1)) 88 i (nI L1)) 89 i (nI (n - d))) 87 j = gI g 87 j := by rw [gI_sI, if_neg (show ¬ 87 = 89 by omega), gI_sI, if_neg (show ¬ 87 = 88 by omega), gI_sI, if_pos (Eq.refl 87), up_at, if_neg (by omega)]
          have q88 : gI (sI (sI (sI g 87 i (nI B1)) 88 i (nI L1)) 89 i (nI (n - d))) 88 j = gI g 88 j := by rw [gI_sI, if_neg (show ¬ 88 = 89 by omega), gI_sI, if_pos (Eq.refl 88), up_at, if_neg (by omega), gI_sI, if_neg (show ¬ 88 = 87 by omega)]
          have q89 : gI (sI (sI (sI g 87 i (nI B1)) 88 i (nI L1)) 89 i (nI (n - d))) 89 j = gI g 89 j := by rw [gI_sI, if_pos (Eq.refl 89), up_at, if_neg (by omega), gI_sI, if_neg (show ¬ 89 = 88 by omega), gI_sI, if_neg (show ¬ 89 = 87 by omega)]
          rw [q87, q88, q89]
          exact this
        · show gI (sI (sI (sI g 87 i (nI B1)) 88 i (nI L1)) 89 i (nI (n - d))) 87 i = nI B1
          rw [gI_sI, if_neg (show ¬ 87 = 89 by omega), gI_sI, if_neg (show ¬ 87 = 88 by omega), gIl]
        · have hv := Option.some.inj hv
          subst hv
          show gI (sI (sI (sI g 87 i (nI B1)) 88 i (nI L1)) 89 i (nI (n - d))) 88 i = nI L1 ∧ gI (sI (sI (sI g 87 i (nI B1)) 88 i (nI L1)) 89 i (nI (n - d))) 89 i = nI (n - d)
          rw [gI_sI, if_neg (show ¬ 88 = 89 by omega), gIl, gIl]
          exact ⟨rfl, rfl⟩
      have lm : nI (n - d) + -nI 1 = nI (n - (d + 1)) := by rw [lV_s, lV_p (by omega)]; exact congrArg nI (by omega)
      have w170 : ∀ B1 L1 : Nat, MX12_work_170 g 73 (nI q) (nI n) (nI i) (nI (n - d)) (nI B1) (nI L1) = some (.inl (nI (n - (d + 1)), sI (sI (sI g 87 i (nI B1)) 88 i (nI L1)) 89 i (nI (n - d)))) := fun B1 L1 => by
        unfold MX12_work_170
        simp (disch := omega) only [↓reduceIte, Nat.reduceLT, Nat.reduceLeDiff, Nat.reduceEqDiff, ZL, nAdd, nMul, nSub, nLt, nLe, nEq, nCl, nDiv, nRem2, nM1, nM2, nM3, nM4, nM5, nM6, gg_in, gg_rf, gg_T, if_true, if_false, ↓lt_eq, ob_some, b2_some, up1_some, kd_sI, ln_sI, gP_sI, gI_sI, kd_rI, ln_rI, gP_rI, gI_rI, kd_bmp, ln_bmp, gP_bmp, gI_bmp, up_at, i0, i1, RS.f Rg, lm]
      have keep : dpJ S c T n i (d + 1) = dpJ S c T n i d → (fun s' : Int32 × Hp => s'.1 = nI (n - (d + 1)) ∧ Fr Dr h s'.2 ∧ AW s'.2 T (i + 1) n ∧ gI s'.2 87 i = enBd (dpJ S c T n i (d + 1)) ∧ ∀ v, dpJ S c T n i (d + 1) = some v → gI s'.2 88 i = nI v.2.1 ∧ gI s'.2 89 i = nI v.2.2) (nI (n - (d + 1)), g) := fun e => by
        rw [e]
        exact ⟨rfl, G, p3, p4, p5⟩
      show ∃ s', BX12_work_53 g 73 (nI q) (nI n) (nI i) (nI (n - d)) = some (.inl s') ∧ _
      have pre : BX12_work_53 g 73 (nI q) (nI n) (nI i) (nI (n - d)) = if enBd (T (n - d)) = -nI 1 then some (.inl (nI (n - (d + 1)), g)) else (if bI (S i (n - d)) = nI 0 then some (.inl (nI (n - (d + 1)), g)) else Option.bind (MX12_badness g 73 (nI q) (nI i) (nI (n - d - 1))) fun t41 => (if gI g 87 i = -nI 1 then MX12_work_170 g 73 (nI q) (nI n) (nI i) (nI (n - d)) (enBd (T (n - d)) + t41) (gI g 88 (n - d) + nI 1) else (if gI g 87 i < enBd (T (n - d)) + t41 then some (.inl (nI (n - (d + 1)), g)) else (if enBd (T (n - d)) + t41 = gI g 87 i then (if gI g 88 (n - d) + nI 1 < gI g 88 i then MX12_work_170 g 73 (nI q) (nI n) (nI i) (nI (n - d)) (enBd (T (n - d)) + t41) (gI g 88 (n - d) + nI 1) else some (.inl (nI (n - (d + 1)), g))) else MX12_work_170 g 73 (nI q) (nI n) (nI i) (nI (n - d)) (enBd (T (n - d)) + t41) (gI g 88 (n - d) + nI 1))))) := by
        have f87 : gI g 87 (n - d) = enBd (T (n - d)) := r1
        obtain ⟨k1, -⟩ := RS.f Rg
        unfold BX12_work_53
        rw [if_neg (nI_ge (by omega) (by omega)), gg_t k1]
        simp only [ZL, lm]
        rw [pk_sub (show 1 ≤ n - d by omega), st, ob_some]
        simp (disch := omega) only [RS.f Rg, gg_rf, gg_T, gg_in, nCl, f87]
      rw [pre]
      cases ht : T (n - d) with
      | none =>
        rw [if_pos (show enBd none = -nI 1 from rfl)]
        exact ⟨_, rfl, keep (by rw [es]; unfold dpU; rw [ht])⟩
      | some w =>
        obtain ⟨t1, t2⟩ := Tb (n - d) w (by omega) ht
        rw [show enBd (some w) = nI w.1 from rfl, if_neg (by rw [nM6 (by omega)]; exact id)]
        by_cases zS : S i (n - d) = true
        · rw [if_neg (by rw [zS]; decide), bd zS, ob_some]
          have cB := cb i (n - d)
          have r3 := (r2 w ht).1
          rw [r3, nAdd, nAdd]
          cases hcur : dpJ S c T n i d with
          | none =>
            rw [hcur] at p4
            rw [p4, if_pos (show enBd none = -nI 1 from rfl), w170]
            have e2 : dpJ S c T n i (d + 1) = some (w.1 + c i (n - d), w.2.1 + 1, n - d) := by
              rw [es, hcur]
              unfold dpU
              rw [ht]
              exact if_pos zS
            refine ⟨_, rfl, ?_⟩
            rw [e2]
            exact wr _ _
          | some v =>
            rw [hcur] at p4
            obtain ⟨v1, v2⟩ := p5 v hcur
            have hB := dpJ_B (S := S) (c := c) (T := T) (n := n) (i := i) d (by omega)
            rw [hcur] at hB
            obtain ⟨hb1, -, ⟨x, hb3, hb4, hb5⟩, -⟩ := hB
            have hb1 : n - d < v.2.2 ∧ v.2.2 ≤ n := hb1
            obtain ⟨x1, x2⟩ := Tb v.2.2 x hb1.2 hb3
            have x3 := cb i v.2.2
            have e2 : dpJ S c T n i (d + 1) = if v.1 < w.1 + c i (n - d) ∨ (v.1 = w.1 + c i (n - d) ∧ v.2.1 ≤ w.2.1 + 1) then some v else some (w.1 + c i (n - d), w.2.1 + 1, n - d) := by
              rw [es, hcur]
              unfold dpU
              rw [ht]
              exact if_pos zS
            rw [p4, show enBd (some v) = nI v.1 from rfl, if_neg (by rw [nM6 (by omega)]; exact id), v1]
            by_cases z1 : v.1 < w.1 + c i (n - d)
            · rw [if_pos (nI_lt z1 (by omega))]
              refine ⟨_, rfl, keep ?_⟩
              rw [e2, hcur, if_pos (Or.inl z1)]
            · rw [if_neg (nI_nlt (by omega) (by omega))]
              by_cases z2 : w.1 + c i (n - d) = v.1
              · rw [if_pos (by rw [z2])]
                by_cases z3 : w.2.1 + 1 < v.2.1
                · rw [if_pos (nI_lt z3 (by omega)), w170]
                  refine ⟨_, rfl, ?_⟩
                  rw [e2, if_neg (by omega)]
                  exact wr _ _
                · rw [if_neg (nI_nlt (by omega) (by omega))]
                  refine ⟨_, rfl, keep ?_⟩
                  rw [e2, hcur, if_pos (Or.inr ⟨z2.symm, by omega⟩)]
              · rw [if_neg (by rw [nEq (by omega) (by omega)]; exact z2), w170]
                refine ⟨_, rfl, ?_⟩
                rw [e2, if_neg (by omega)]
                exact wr _ _
        · have zF : S i (n - d) = false := by
            cases h9 : S i (n - d) with
            | true => exact absurd h9 zS
            | false => rfl
          rw [if_pos (by rw [zF]; rfl)]
          refine ⟨_, rfl, keep ?_⟩
          rw [es]
          unfold dpU
          rw [ht]
          exact if_neg zS
    · obtain ⟨a, g⟩ := s
      obtain ⟨p1, G, p3, p4, p5⟩ := p
      have p1 : a = nI (n - (n - i)) := p1
      have G : Fr Dr h g := G
      have p3 : AW g T (i + 1) n := p3
      have eA : T i = dpJ S c T n i (n - i) := by rw [hT]; exact dpv_i hi
      have u4 : gI g 87 i = enBd (T i) := by rw [eA]; exact p4
      have u5 : ∀ v, T i = some v → gI g 88 i = nI v.2.1 ∧ gI g 89 i = nI v.2.2 := by rw [eA]; exact p5
      rw [show n - (n - i) = i by omega] at p1
      subst p1
      refine ⟨.inl (lV i, g), ?_, g, rfl, G, fun j hj1 hj2 => ?_⟩
      · show BX12_work_53 g 73 (nI q) (nI n) (nI i) (nI i) = _
        unfold BX12_work_53
        rw [if_pos (nI_le (Nat.le_refl _) (by omega)), show nI i + (-1 : Int32) = lV i from lV_s i]
      · by_cases z : j = i
        · subst z
          exact ⟨u4, fun v hv => ⟨(u5 v hv).1, fun _ => (u5 v hv).2⟩⟩
        · exact p3 j (by omega) hj2
    · show AW g0 T (i + 1) n
      intro j hj1 hj2
      have := A j hj1 hj2
      have q87 : gI g0 87 j = gI h 87 j := by rw [hg0, gI_sI, if_pos (Eq.refl 87), up_at, if_neg (by omega)]
      have q88 : gI g0 88 = gI h 88 := by rw [hg0, gI_sI, if_neg (show ¬ 88 = 87 by omega)]
      have q89 : gI g0 89 = gI h 89 := by rw [hg0, gI_sI, if_neg (show ¬ 89 = 87 by omega)]
      rw [q87, q88, q89]
      exact this
    · show gI g0 87 i = _
      rw [hg0, gIl]
      rfl
  obtain ⟨r, k1, h1, k2, k3, k4⟩ := K
  exact ⟨h1, by rw [k1, k2], k3, k4⟩
end
/-! out of 97.zzzra -/
section
variable {h h1 h2 h' : Hp} {m : Nat → Int32} {q e me le mo co : Nat}
/-- scratch, but for what plans are kept in -/
def Rq (h h1 : Hp) : Prop := Rk h h1 ∧ (∀ b, 93 ≤ b → b ≤ 108 → gI h1 b = gI h b) ∧ ∀ j, 31 ≤ j → gI h1 73 j = gI h 73 j
theorem rq_tr (a : Rq h h1) (b : Rq h1 h2) : Rq h h2 := ⟨a.1.trans b.1, fun c q1 q2 => (b.2.1 c q1 q2).trans (a.2.1 c q1 q2), fun j hj => (b.2.2 j hj).trans (a.2.2 j hj)⟩
theorem rq_w {S : Nat → Prop} (G : Fr S h h1) (hs : ∀ b, S b → 78 ≤ b ∧ b ≤ 92) : Rq h h1 := ⟨Rk.w G (fun b z => by have := hs b z; omega), fun b q1 q2 => G.2.2.2.2.2.2 b (fun z => by have := hs b z; omega), fun j _ => by rw [G.2.2.2.2.2.2 73 (fun z => by have := hs 73 z; omega)]⟩
theorem rq_f {j : Nat} {v : Int32} (q : j ≠ 0 ∧ j ≠ 4 ∧ j ≠ 6 ∧ j ≠ 9 ∧ j < 31) : Rq h (sI h 73 j v) := ⟨Rk.f ⟨q.1, q.2.1, q.2.2.1, q.2.2.2.1⟩, fun b q1 q2 => by rw [gI_sI, if_neg (by omega)], fun l hl => by rw [gI_sI, if_pos rfl, up_at, if_neg (by omega)]⟩
theorem rg_rq (a : Rg h h1) : Rq h h1 := ⟨a.rk, fun b q1 q2 => a.1.2.2.2.2.2.2 b (fun z => by omega), fun j hj => a.2 j (by omega)⟩
theorem r_facts3 (R : RS h) (em : gI h 74 = m) (B : MIb m) (hq : vP m q) (t : Int32) : ∃ h1, MX12_factsOf h 73 (nI q) t = some h1 ∧ Rq h h1 ∧ gI h1 73 = gI h 73 ∧ RF h1 (fcP m q t) := by
  have hb := hq.1
  have W : ∀ a b : Int32, (if m (70 + q / 5) = nI 1 then nI 1 else nI 0) = a → (if t ≤ m (90 + q / 5) then nI 0 else nI 1) = b → zO a → zO b → ∃ h1, MX12_factsOf_60 (sI h 84 0 a) 73 t (nI (130 + 645 * q)) (m (90 + q / 5)) 84 (nI 1) b = some h1 ∧ Rq h h1 ∧ gI h1 73 = gI h 73 ∧ RF h1 (fcP m q t) := fun a b ha hb za zb => by
    have vb : vp_nar .boolean b = b := by rcases zb with rfl | rfl <;> decide
    obtain ⟨g, hg⟩ : ∃ g, g = sI (sI (sI (sI (sI (sI (sI (sI (sI h 84 0 a) 84 1 b) 84 2 (nI 0)) 85 0 (m (130 + 645 * q))) 85 1 (m (130 + 645 * q + 1))) 85 2 (m (90 + q / 5))) 85 3 t) 85 4 (nI 0)) 85 5 (nI 99) := ⟨_, rfl⟩
    have G : Fr (fun b => b = 84 ∨ b = 85) h g := by
      rw [hg]
      exact ((((((((Fr.sI (Or.inl rfl)).trans (Fr.sI (Or.inl rfl))).trans (Fr.sI (Or.inl rfl))).trans (Fr.sI (Or.inr rfl))).trans (Fr.sI (Or.inr rfl))).trans (Fr.sI (Or.inr rfl))).trans (Fr.sI (Or.inr rfl))).trans (Fr.sI (Or.inr rfl))).trans (Fr.sI (Or.inr rfl))
    refine ⟨g, ?_, rq_w G (fun b z => by omega), G.2.2.2.2.2.2 73 (fun z => by omega), fun j hj => ?_, fun j hj => ?_⟩
    · rw [hg]
      simp (disch := omega) only [MX12_factsOf_60, ↓reduceIte, Nat.reduceLT, Nat.reduceLeDiff, Nat.reduceEqDiff, ZL, nAdd, nMul, nSub, nLt, nLe, nEq, nCl, nDiv, nRem2, nM1, nM2, nM3, nM4, nM5, nM6, gg_in, gg_rf, gg_T, if_true, if_false, ↓lt_eq, ob_some, b2_some, up1_some, kd_sI, ln_sI, gP_sI, gI_sI, kd_rI, ln_rI, gP_rI, gI_rI, kd_bmp, ln_bmp, gP_bmp, gI_bmp, up_at, i0, i1, RS.f R, em, vb, vB0, Nat.add_zero]
    · have e84 : ∀ j, gI g 84 j = if j = 2 then nI 0 else if j = 1 then b else if j = 0 then a else gI h 84 j := fun j => by
        rw [hg, gI_sI, if_neg (show ¬ 84 = 85 by omega), gI_sI, if_neg (show ¬ 84 = 85 by omega), gI_sI, if_neg (show ¬ 84 = 85 by omega), gI_sI, if_neg (show ¬ 84 = 85 by omega), gI_sI, if_neg (show ¬ 84 = 85 by omega), gI_sI, if_neg (show ¬ 84 = 85 by omega), gI_sI, if_pos (Eq.refl 84), up_at, gI_sI, if_pos (Eq.refl 84), up_at, gI_sI, if_pos (Eq.refl 84), up_at]
      rw [e84]
      unfold fcP
      rw [ha, hb]
      rcases (show j = 0 ∨ j = 1 ∨ j = 2 by omega) with rfl | rfl | rfl
      · exact ⟨rfl, za⟩
      · exact ⟨rfl, zb⟩
      · exact ⟨rfl, Or.inl rfl⟩
    · have e85 : ∀ j, gI g 85 j = if j = 5 then nI 99 else if j = 4 then nI 0 else if j = 3 then t else if j = 2 then m (90 + q / 5) else if j = 1 then m (130 + 645 * q + 1) else if j = 0 then m (130 + 645 * q) else gI h 85 j := fun j => by
        rw [hg, gI_sI, if_pos (Eq.refl 85), up_at, gI_sI, if_pos (Eq.refl 85), up_at, gI_sI, if_pos (Eq.refl 85), up_at, gI_sI, if_pos (Eq.refl 85), up_at, gI_sI, if_pos (Eq.refl 85), up_at, gI_sI, if_pos (Eq.refl 85), up_at, gI_sI, if_neg (show ¬ 85 = 84 by omega), gI_sI, if_neg (show ¬ 85 = 84 by omega), gI_sI, if_neg (show ¬ 85 = 84 by omega)]
      rw [e85]
      unfold fcP
      rcases d6 hj with rfl | rfl | rfl | rfl | rfl | rfl <;> rfl
  have K : ∀ a : Int32, (if m (70 + q / 5) = nI 1 then nI 1 else nI 0) = a → zO a → ∃ h1, MX12_factsOf_43 h 73 t (nI (130 + 645 * q)) (m (90 + q / 5)) 84 (nI 0) a = some h1 ∧ Rq h h1 ∧ gI h1 73 = gI h 73 ∧ RF h1 (fcP m q t) := fun a ha za => by
    have va : vp_nar .boolean a = a := by rcases za with rfl | rfl <;> decide
    by_cases z : t ≤ m (90 + q / 5)
    · have := W a (nI 0) ha (if_pos z) za (Or.inl rfl)
      simp (disch := omega) only [MX12_factsOf_43, ↓reduceIte, Nat.reduceLT, Nat.reduceLeDiff, Nat.reduceEqDiff, ZL, nAdd, nMul, nSub, nLt, nLe, nEq, nCl, nDiv, nRem2, nM1, nM2, nM3, nM4, nM5, nM6, gg_in, gg_rf, gg_T, if_true, if_false, ↓lt_eq, ob_some, b2_some, up1_some, kd_sI, ln_sI, gP_sI, gI_sI, kd_rI, ln_rI, gP_rI, gI_rI, kd_bmp, ln_bmp, gP_bmp, gI_bmp, up_at, i0, i1, RS.f R, va, if_pos z]
      exact this
    · have := W a (nI 1) ha (if_neg z) za (Or.inr rfl)
      simp (disch := omega) only [MX12_factsOf_43, ↓reduceIte, Nat.reduceLT, Nat.reduceLeDiff, Nat.reduceEqDiff, ZL, nAdd, nMul, nSub, nLt, nLe, nEq, nCl, nDiv, nRem2, nM1, nM2, nM3, nM4, nM5, nM6, gg_in, gg_rf, gg_T, if_true, if_false, ↓lt_eq, ob_some, b2_some, up1_some, kd_sI, ln_sI, gP_sI, gI_sI, kd_rI, ln_rI, gP_rI, gI_rI, kd_bmp, ln_bmp, gP_bmp, gI_bmp, up_at, i0, i1, RS.f R, va, if_neg z]
      exact this
  have e0 : ∀ a : Int32, (if m (70 + q / 5) = nI 1 then nI 1 else nI 0) = a → MX12_factsOf h 73 (nI q) t = MX12_factsOf_43 h 73 t (nI (130 + 645 * q)) (m (90 + q / 5)) 84 (nI 0) a := fun a ha => by
    unfold MX12_factsOf MX12_part0
    by_cases z : m (70 + q / 5) = nI 1
    · rw [if_pos z] at ha
      subst ha
      simp (disch := omega) only [↓reduceIte, Nat.reduceLT, Nat.reduceLeDiff, Nat.reduceEqDiff, ZL, nAdd, nMul, nSub, nLt, nLe, nEq, nCl, nDiv, nRem2, nM1, nM2, nM3, nM4, nM5, nM6, gg_in, gg_rf, gg_T, if_true, if_false, ↓lt_eq, ob_some, b2_some, up1_some, kd_sI, ln_sI, gP_sI, gI_sI, kd_rI, ln_rI, gP_rI, gI_rI, kd_bmp, ln_bmp, gP_bmp, gI_bmp, up_at, i0, i1, RS.f R, em, if_pos z]
    · rw [if_neg z] at ha
      subst ha
      simp (disch := omega) only [↓reduceIte, Nat.reduceLT, Nat.reduceLeDiff, Nat.reduceEqDiff, ZL, nAdd, nMul, nSub, nLt, nLe, nEq, nCl, nDiv, nRem2, nM1, nM2, nM3, nM4, nM5, nM6, gg_in, gg_rf, gg_T, if_true, if_false, ↓lt_eq, ob_some, b2_some, up1_some, kd_sI, ln_sI, gP_sI, gI_sI, kd_rI, ln_rI, gP_rI, gI_rI, kd_bmp, ln_bmp, gP_bmp, gI_bmp, up_at, i0, i1, RS.f R, em, if_neg z]
  by_cases z : m (70 + q / 5) = nI 1
  · obtain ⟨h1, k⟩ := K (nI 1) (if_pos z) (Or.inr rfl)
    exact ⟨h1, by rw [e0 (nI 1) (if_pos z)]; exact k.1, k.2⟩
  · obtain ⟨h1, k⟩ := K (nI 0) (if_neg z) (Or.inl rfl)
    exact ⟨h1, by rw [e0 (nI 0) (if_neg z)]; exact k.1, k.2⟩
theorem r_tells3 (R : RS h) (em : gI h 74 = m) (I : MIw m) (Z : StM m) (hq : vP m q) (t : Int32) : ∃ h1, MX12_tells h 73 (nI q) t = some h1 ∧ Rq h h1 ∧ RR h1 m (stI m t (Nn m 2)) (fcP m q t) := by
  have he := stI_le (m := m) (x := t) (Nn m 2)
  have b2 : Nn m 2 ≤ 10 := (I.1.f).2.2.1.2
  obtain ⟨h1, k1, K1, -, f1⟩ := r_facts3 R em I.1 hq t
  have R1 := (Rk.rs R K1.1)
  have m1 : gI h1 74 = m := by rw [(Rk.g K1.1) (by omega) (by omega)]; exact em
  have so := r_styleOf R1 m1 I.1 t
  obtain ⟨e, hee⟩ : ∃ e, e = stI m t (Nn m 2) := ⟨_, rfl⟩
  rw [← hee] at he so ⊢
  obtain ⟨F, hF⟩ : ∃ F, F = fcP m q t := ⟨_, rfl⟩
  rw [← hF] at f1 ⊢
  have nr := nR_le I he
  have lle : ∀ w, lrM m e F w ≤ 12 := fun w => by have := lrM_le (m := m) (e := e) (F := F) (w := w); omega
  have l0 : ∀ w, e = 0 → lrM m e F w = 0 := fun w z => by
    have := lrM_le (m := m) (e := e) (F := F) (w := w)
    rw [show nR m e = 0 from if_pos z] at this
    omega
  have lv : ∀ w i, i = 1 ∨ i = 2 → (lrM m e F w ≠ 0 → m (yA e + 2 + 5 * (lrM m e F w - 1) + i) = nI (Nn m (yA e + 2 + 5 * (lrM m e F w - 1) + i))) := fun w i hi z => (rl_v I he lrM_le hi z).1
  have st : ∀ {g : Hp}, Rq h g → RF g F → ∀ w, w < 7 → ∃ g1, MX12_lastRule g 73 (stV e) (nI w) = some (lV (lrM m e F w), g1) ∧ Rq h g1 ∧ RF g1 F ∧ ∀ j, j ≠ 24 → gI g1 73 j = gI g 73 j := fun {g} K f w hw => by
    have Rg1 := (Rk.rs R K.1)
    have mg : gI g 74 = m := by rw [(Rk.g K.1) (by omega) (by omega)]; exact em
    obtain ⟨g1, a1, a2⟩ := r_last Rg1 mg f I Z he hw
    exact ⟨g1, a1, rq_tr K (rg_rq a2), a2.rf f, a2.2⟩
  have wr : ∀ {g : Hp} {j : Nat} {v : Int32}, Rq h g → RF g F → (j ≠ 0 ∧ j ≠ 4 ∧ j ≠ 6 ∧ j ≠ 9 ∧ j < 31) → Rq h (sI g 73 j v) ∧ RF (sI g 73 j v) F := fun {g j v} K f hj => ⟨rq_tr K (rq_f hj), by
    unfold RF
    rw [gI_sI, if_neg (by omega), gI_sI, if_neg (by omega)]
    exact f⟩
  have sd : ∀ {g : Hp}, Rq h g → ∀ w i d, i = 1 ∨ i = 2 → d < 100 → MX12_said g 73 (stV e) (lV (lrM m e F w)) (nI i) (nI d) = some (nI (sdM m e (lrM m e F w) i d)) := fun {g} K w i d hi hd => r_said ((Rk.rs R K.1)) (by rw [(Rk.g K.1) (by omega) (by omega)]; exact em) (by omega) (l0 w) (lle w) (by omega) hd (lv w i hi)
  obtain ⟨g1, a1, K2, f2, u2⟩ := st K1 f1 0 (by omega)
  obtain ⟨K3, f3⟩ := wr (j := 26) (v := lV (lrM m e F 0)) K2 f2 (by omega)
  obtain ⟨K4, f4⟩ := wr (j := 25) (v := nI (sdM m e (lrM m e F 0) 1 60)) K3 f3 (by omega)
  obtain ⟨g2, a2, K5, f5, u5⟩ := st K4 f4 1 (by omega)
  obtain ⟨K6, f6⟩ := wr (j := 27) (v := nI (sdM m e (lrM m e F 1) 1 2)) K5 f5 (by omega)
  obtain ⟨K7, f7⟩ := wr (j := 28) (v := nI (sdM m e (lrM m e F 1) 2 6)) K6 f6 (by omega)
  obtain ⟨g3, a3, K8, f8, u8⟩ := st K7 f7 2 (by omega)
  obtain ⟨K9, f9⟩ := wr (j := 29) (v := nI (sdM m e (lrM m e F 2) 1 25)) K8 f8 (by omega)
  obtain ⟨g4, a4, K10, f10, u10⟩ := st K9 f9 3 (by omega)
  obtain ⟨K11, f11⟩ := wr (j := 30) (v := nI (sdM m e (lrM m e F 3) 1 0)) K10 f10 (by omega)
  have kk : ∀ {g : Hp}, Rq h g → kd g 73 = 11 := fun K => (RS.f ((Rk.rs R K.1))).1
  refine ⟨_, ?_, K11, ?_⟩
  · unfold MX12_tells
    rw [gg_t (RS.f R).1, k1, ob_some, gg_t (kk K1), so, ob_some]
    simp only [ZL]
    rw [a1, b2_some, gg_t (kk K2), lt_eq, gIl, sd K3 0 1 60 (Or.inl rfl) (by omega), ob_some, lt_eq, a2, b2_some, gg_t (kk K5), sd K5 1 1 2 (Or.inl rfl) (by omega), ob_some, lt_eq, sd K6 1 2 6 (Or.inr rfl) (by omega), ob_some, lt_eq, a3, b2_some, gg_t (kk K8), sd K8 2 1 25 (Or.inl rfl) (by omega), ob_some, lt_eq, a4, b2_some, gg_t (kk K10), sd K10 3 1 0 (Or.inl rfl) (by omega), ob_some, lt_eq]
  · have w1 : ∀ (g : Hp) (j l : Nat) (v : Int32), l ≠ j → gI (sI g 73 j v) 73 l = gI g 73 l := fun g j l v hl => by rw [gI_sI, if_pos rfl, up_at, if_neg hl]
    refine ⟨?_, ?_, ?_, ?_, ?_, ?_⟩
    · rw [w1 _ _ _ _ (by omega), u10 _ (by omega), w1 _ _ _ _ (by omega), u8 _ (by omega), w1 _ _ _ _ (by omega), w1 _ _ _ _ (by omega), u5 _ (by omega), gIl]
    · rw [w1 _ _ _ _ (by omega), u10 _ (by omega), w1 _ _ _ _ (by omega), u8 _ (by omega), w1 _ _ _ _ (by omega), w1 _ _ _ _ (by omega), u5 _ (by omega), w1 _ _ _ _ (by omega), gIl]
    · rw [w1 _ _ _ _ (by omega), u10 _ (by omega), w1 _ _ _ _ (by omega), u8 _ (by omega), w1 _ _ _ _ (by omega), gIl]
    · rw [w1 _ _ _ _ (by omega), u10 _ (by omega), w1 _ _ _ _ (by omega), u8 _ (by omega), gIl]
    · rw [w1 _ _ _ _ (by omega), u10 _ (by omega), gIl]
    · rw [gIl]
theorem r_work3 (R : RS h) (em : gI h 74 = m) (I : MIw m) (Z : StM m) (hq : vP m q) (J : MIx m q) (t : Int32) : ∃ h1, MX12_work h 73 (nI q) t = some h1 ∧ Rq h h1 ∧ RR h1 m (stI m t (Nn m 2)) (fcP m q t) ∧ AW h1 (wyT m q t) 0 (nP m q) := by
  obtain ⟨g, k1, K1, rr⟩ := r_tells3 R em I Z hq t
  have P := ps_q (q := q) I t
  have hb := hq.1
  obtain ⟨n, hn⟩ : ∃ n, n = nP m q := ⟨_, rfl⟩
  obtain ⟨j1, j2, j3⟩ := J.n
  have Rg := (Rk.rs R K1.1)
  have mg : gI g 74 = m := by rw [(Rk.g K1.1) (by omega) (by omega)]; exact em
  have Lg : RLn g (pme m q t) (ple m q t) (pmo m q t) (pco m q t) := ⟨rr.1, rr.2.2.1, rr.2.2.2.1, rr.2.2.2.2.1⟩
  obtain ⟨g0, hg0⟩ : ∃ g0, g0 = sI (sI g 87 n (nI 0)) 88 n (nI 0) := ⟨_, rfl⟩
  have G0 : Fr Dr g g0 := by rw [hg0]; exact (Fr.sI (S := Dr) (Or.inl rfl)).trans (Fr.sI (S := Dr) (Or.inr (Or.inl rfl)))
  have e0 : MX12_work h 73 (nI q) t = MX12_work_37 g0 73 (nI q) (nI n) (lV n) := by
    unfold MX12_work
    rw [gg_t (RS.f R).1, k1, ob_some, gg_t (RS.f Rg).1, r_part0, ob_some, hg0, ← lV_m]
    rw [← hn] at j1
    simp (disch := omega) only [↓reduceIte, Nat.reduceLT, Nat.reduceLeDiff, Nat.reduceEqDiff, ZL, nAdd, nMul, nSub, nLt, nLe, nEq, nCl, nDiv, nRem2, nM1, nM2, nM3, nM4, nM5, nM6, gg_in, gg_rf, gg_T, if_true, if_false, ↓lt_eq, ob_some, b2_some, up1_some, kd_sI, ln_sI, gP_sI, gI_sI, kd_rI, ln_rI, gP_rI, gI_rI, kd_bmp, ln_bmp, gP_bmp, gI_bmp, up_at, i0, i1, RS.f Rg, mg, j1]
  rw [e0]
  unfold MX12_work_37
  have K : ∃ r, it (fun s : Int32 × Hp => BX12_work_37 s.2 73 (nI q) (nI n) s.1) (lV n, g0) = some r ∧ (Fr Dr g r ∧ AW r (wyT m q t) 0 n) := by
    refine it_cnt (fun d s => s.1 = lV (n - d) ∧ Fr Dr g s.2 ∧ AW s.2 (wyT m q t) (n - d) n) n (fun d s hd p => ?_) (fun s p => ?_) ⟨rfl, G0, ?_⟩
    · obtain ⟨a, f⟩ := s
      obtain ⟨p1, G, p3⟩ := p
      have p1 : a = lV (n - d) := p1
      have G : Fr Dr g f := G
      have p3 : AW f (wyT m q t) (n - d) n := p3
      subst p1
      have A1 : AW f (wyD m q (pme m q t) (ple m q t) (pmo m q t) (pco m q t)) (n - d - 1 + 1) (nP m q) := by rw [show n - d - 1 + 1 = n - d by omega, ← hn]; exact p3
      have e73 : gI f 73 = gI g 73 := G.2.2.2.2.2.2 73 (fun z => by unfold Dr at z; omega)
      obtain ⟨g1, k1, k2, k3⟩ := r_workAtX P (Lg.fr e73) (Rg.fr G) (by rw [G.2.2.2.2.2.2 74 (fun z => by unfold Dr at z; omega)]; exact mg) I.1 hq J (i := n - d - 1) (by omega) A1
      refine ⟨(lV (n - (d + 1)), g1), ?_, rfl, G.trans k2, ?_⟩
      · show BX12_work_37 f 73 (nI q) (nI n) (lV (n - d)) = _
        rw [lV_p (by omega), hn]
        rw [hn] at k1
        exact k1
      · show AW g1 (wyT m q t) (n - (d + 1)) n
        rw [show n - (d + 1) = n - d - 1 by omega, hn]
        rw [hn] at k3
        exact k3
    · obtain ⟨a, f⟩ := s
      obtain ⟨p1, G, p3⟩ := p
      have p1 : a = lV (n - n) := p1
      have p4 : AW f (wyT m q t) 0 n := by
        have p3 : AW f (wyT m q t) (n - n) n := p3
        rw [Nat.sub_self] at p3
        exact p3
      rw [Nat.sub_self] at p1
      subst p1
      exact ⟨f, rfl, G, p4⟩
    · show AW g0 (wyT m q t) (n - 0) n
      intro i hi1 hi2
      have hi : i = n := by omega
      subst hi
      have en : wyT m q t i = some (0, 0, 0) := by rw [hn]; exact wyD_nX J
      rw [en, hg0]
      refine ⟨by rw [gI_sI, if_neg (show ¬ 87 = 88 by omega), gIl]; rfl, fun v hv => ?_⟩
      have hv := Option.some.inj hv
      subst hv
      exact ⟨by rw [gIl], fun hlt => absurd hlt (Nat.lt_irrefl _)⟩
  obtain ⟨f, k2, G, k3⟩ := K
  have e73 : gI f 73 = gI g 73 := G.2.2.2.2.2.2 73 (fun z => by unfold Dr at z; omega)
  refine ⟨f, k2, rq_tr K1 (rq_w G (fun b z => by unfold Dr at z; omega)), ?_, by rw [← hn]; exact k3⟩
  unfold RR
  rw [e73]
  exact rr
end
