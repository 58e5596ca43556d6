/-! the reference: the best way -/
def RLn (h : Hp) (me le mo co : Nat) : Prop := gI h 73 25 = nI me ∧ gI h 73 27 = nI le ∧ gI h 73 28 = nI mo ∧ gI h 73 29 = nI co
def enBd : BT → Int32
  | none => -nI 1
  | some v => nI v.1
/-- the ways of the pieces from lo on stand in the reference's arrays -/
def AW (h : Hp) (D : Nat → BT) (lo n : Nat) : Prop := ∀ i, lo ≤ i → i ≤ n → gI h 87 i = enBd (D i) ∧ ∀ v, D i = some v → gI h 88 i = nI v.2.1 ∧ (i < n → gI h 89 i = nI v.2.2)
def Dr (b : Nat) : Prop := b = 87 ∨ b = 88 ∨ b = 89
section
variable {h h1 h' : Hp} {m : Nat → Int32} {q e me le mo co : Nat}
theorem RLn.fr (L : RLn h me le mo co) (e : gI h1 73 = gI h 73) : RLn h1 me le mo co := by
  unfold RLn
  rw [e]
  exact L
theorem r_tight (P : Ps me le mo co) (L : RLn h me le mo co) (R : RS h) (em : gI h 74 = m) (B : MIb m) (hq : vP m q) (J : MIp m q) {i k : Nat} (hi : i ≤ k) (hk : k < nP m q) : MX12_tight h 73 (nI q) (nI i) (nI k) = some (nI (tiN m q le i k)) := by
  unfold MX12_tight tiN
  rw [gg_t (RS.f R).1, r_wide R em B hq J hi hk, ob_some, r_part0, ob_some, r_gaps R em hq J hi hk, ob_some, L.2.1, nMul, nAdd, Nat.mul_comm le]
theorem r_isLast (R : RS h) (em : gI h 74 = m) (hq : vP m q) (J : MIp m q) {k : Nat} (hk : k < nP m q) : MX12_isLast h 73 (nI q) (nI k) = some (if k + 1 = nP m q then nI 1 else nI 0) := by
  have hb := hq.1
  obtain ⟨j1, j2, j3⟩ := J.n
  unfold MX12_isLast
  rw [gg_t (RS.f R).1, r_part0, ob_some]
  by_cases z : k + 1 = nP m q
  · rw [if_pos z]
    have z2 : k = nP m q - 1 := by omega
    simp (disch := omega) only [↓reduceIte, Nat.reduceLT, Nat.reduceLeDiff, Nat.reduceEqDiff, ZL, nAdd, nMul, nSub, nLt, nLe, nEq, nCl, nDiv, nRem2, nM1, nM2, nM3, nM4, nM5, nM6, gg_in, gg_rf, gg_T, if_true, if_false, ↓lt_eq, ob_some, b2_some, up1_some, kd_sI, ln_sI, gP_sI, gI_sI, kd_rI, ln_rI, gP_rI, gI_rI, kd_bmp, ln_bmp, gP_bmp, gI_bmp, up_at, i0, i1, RS.f R, em, j1, z2]
  · rw [if_neg z]
    have z2 : ¬ k = nP m q - 1 := by omega
    simp (disch := omega) only [↓reduceIte, Nat.reduceLT, Nat.reduceLeDiff, Nat.reduceEqDiff, ZL, nAdd, nMul, nSub, nLt, nLe, nEq, nCl, nDiv, nRem2, nM1, nM2, nM3, nM4, nM5, nM6, gg_in, gg_rf, gg_T, if_true, if_false, ↓lt_eq, ob_some, b2_some, up1_some, kd_sI, ln_sI, gP_sI, gI_sI, kd_rI, ln_rI, gP_rI, gI_rI, kd_bmp, ln_bmp, gP_bmp, gI_bmp, up_at, i0, i1, RS.f R, em, j1, if_neg z2]
theorem r_isStanding (P : Ps me le mo co) (L : RLn h me le mo co) (R : RS h) (em : gI h 74 = m) (B : MIb m) (hq : vP m q) (J : MIp m q) {i k : Nat} (hi : i ≤ k) (hk : k < nP m q) : MX12_isStanding h 73 (nI q) (nI i) (nI k) = some (bI (sdB m q me le mo i k)) := by
  have ht := r_tight P L R em B hq J hi hk
  have hl := r_isLast R em hq J hk
  have hw := r_wide R em B hq J hi hk
  have hg := r_gaps R em hq J hi hk
  obtain ⟨p1, p2, p3, p4, p5, p6⟩ := P
  have tl := ti_le B hq J (a := i) (le := le) hk (by omega)
  have gl := ga_le J (a := i) hk
  have wl := wi_le B hq J (a := i) hk
  have g2 : gaN m q i k * mo ≤ 24 * 40 := Nat.mul_le_mul gl p5
  obtain ⟨c1, c2, c3, c4⟩ := L
  unfold MX12_isStanding sdB
  rw [gg_t (RS.f R).1, ht, ob_some, c1]
  by_cases z1 : tiN m q le i k ≤ me
  · rw [if_pos (nI_le z1 (by omega)), hl, ob_some, decide_eq_true z1, Bool.true_and]
    by_cases z2 : k + 1 = nP m q
    · rw [if_pos z2, decide_eq_true z2, Bool.true_or, bIT, if_neg (by decide)]
      rfl
    · rw [if_neg z2, decide_eq_false z2, Bool.false_or, if_pos (show nI 0 = 0 from rfl), hw, ob_some, r_part0, ob_some, hg, ob_some, c3, nMul, nAdd, Nat.mul_comm mo]
      by_cases z3 : me ≤ wiN m q i k + gaN m q i k * mo
      · rw [if_neg (nI_nlt z3 (by omega)), decide_eq_true z3, bIT]
        rfl
      · rw [if_pos (nI_lt (by omega) (by omega)), decide_eq_false z3, bIF]
        rfl
  · rw [if_neg (nI_ge (by omega) (by omega)), decide_eq_false z1, Bool.false_and, bIF]
    rfl
theorem r_badness (P : Ps me le mo co) (L : RLn h me le mo co) (R : RS h) (em : gI h 74 = m) (B : MIb m) (hq : vP m q) (J : MIp m q) {i k : Nat} (hi : i ≤ k) (hk : k < nP m q) (hs : sdB m q me le mo i k = true) : MX12_badness h 73 (nI q) (nI i) (nI k) = some (nI (bdN m q me le co i k)) := by
  have ht := r_tight P L R em B hq J hi hk
  have hl := r_isLast R em hq J hk
  have he := r_endsWord R em hq J hk
  have z1 : tiN m q le i k ≤ me := by
    unfold sdB at hs
    rw [Bool.and_eq_true] at hs
    exact of_decide_eq_true hs.1
  obtain ⟨c1, c2, c3, c4⟩ := L
  unfold MX12_badness bdN
  rw [gg_t (RS.f R).1, hl, ob_some]
  by_cases z2 : k + 1 = nP m q
  · rw [if_pos z2, if_pos z2, if_neg (by decide)]
    rfl
  · rw [if_neg z2, if_neg z2, if_pos (show nI 0 = 0 from rfl), ht, ob_some, r_part0, ob_some, he, ob_some, c1, c4, pk_sub z1, nMul]
    unfold MX12_badness_50
    by_cases z3 : weN m q (k + 1) = weN m q k
    · rw [if_pos z3, if_pos z3, if_pos (show nI 0 = 0 from rfl), nAdd]
    · rw [if_neg z3, if_neg z3, if_neg (by decide)]
      rw [show (0 : Int32) = nI 0 from rfl, nAdd]
theorem r_workAt (P : Ps me le mo co) (L : RLn h me le mo co) (R : RS h) (em : gI h 74 = m) (B : MIb m) (hq : vP m q) (J : MIp m q) {i : Nat} (hi : i < nP m q) (A : AW h (wyD m q me le mo co) (i + 1) (nP m q)) : ∃ h1, BX12_work_37 h 73 (nI q) (nI (nP m q)) (nI i) = some (.inl (lV i, h1)) ∧ Fr Dr h h1 ∧ AW h1 (wyD m q me le mo co) i (nP m q) := by
  obtain ⟨S, hS⟩ : ∃ S : Nat → Nat → Bool, S = fun a j => sdB m q me le mo a (j - 1) := ⟨_, rfl⟩
  obtain ⟨c, hc⟩ : ∃ c : Nat → Nat → Nat, c = fun a j => bdN m q me le co a (j - 1) := ⟨_, rfl⟩
  obtain ⟨n, hn⟩ : ∃ n, n = nP m q := ⟨_, rfl⟩
  have j40 := (J.n).2.1
  have eD : wyD m q me le mo co = dpv S c n := by rw [hS, hc, hn]; rfl
  rw [eD, ← hn] at A ⊢
  rw [← hn] at hi j40
  obtain ⟨T, hT⟩ : ∃ T, T = dpv S c n := ⟨_, rfl⟩
  rw [← hT] at A ⊢
  have cb : ∀ a j, c a j ≤ 160999 := fun a j => by rw [hc]; exact bd_le P.2.1 P.2.2.2.2.2
  have Tb : ∀ j v, j ≤ n → T j = some v → v.1 ≤ 6439960 ∧ v.2.1 ≤ 40 := fun j v hj hv => by
    rw [hT] at hv
    obtain ⟨b1, b2, -⟩ := dpv_b j40 cb (n - j) j (by omega) v hv
    omega
  obtain ⟨g0, hg0⟩ : ∃ g, g = sI h 87 i (-nI 1) := ⟨_, rfl⟩
  have G0 : Fr Dr h g0 := by rw [hg0]; exact Fr.sI (Or.inl rfl)
  have e0 : BX12_work_37 h 73 (nI q) (nI n) (nI i) = MX12_work_53 g0 73 (nI q) (nI n) (nI i) (nI n) := by
    unfold BX12_work_37
    rw [hg0]
    simp (disch := omega) only [↓reduceIte, Nat.reduceLT, Nat.reduceLeDiff, Nat.reduceEqDiff, ZL, nAdd, nMul, nSub, nLt, nLe, nEq, nCl, nDiv, nRem2, nM1, nM2, nM3, nM4, nM5, nM6, gg_in, gg_rf, gg_T, if_true, if_false, ↓lt_eq, ob_some, b2_some, up1_some, kd_sI, ln_sI, gP_sI, gI_sI, kd_rI, ln_rI, gP_rI, gI_rI, kd_bmp, ln_bmp, gP_bmp, gI_bmp, up_at, i0, i1, RS.f R]
  rw [e0]
  unfold MX12_work_53
  have K : ∃ r, it (fun s : Int32 × Hp => BX12_work_53 s.2 73 (nI q) (nI n) (nI i) s.1) (nI n, g0) = some r ∧ (∃ h1, r = .inl (lV i, h1) ∧ Fr Dr h h1 ∧ AW h1 T i n) := by
    refine it_cnt (fun d s => s.1 = nI (n - d) ∧ Fr Dr h s.2 ∧ AW s.2 T (i + 1) n ∧ gI s.2 87 i = enBd (dpJ S c T n i d) ∧ ∀ v, dpJ S c T n i d = some v → gI s.2 88 i = nI v.2.1 ∧ gI s.2 89 i = nI v.2.2) (n - i) (fun d s hd p => ?_) (fun s p => ?_) ⟨rfl, G0, ?_, ?_, fun v hv => absurd hv (by simp [dpJ])⟩
    · obtain ⟨a, g⟩ := s
      obtain ⟨p1, G, p3, p4, p5⟩ := p
      have p1 : a = nI (n - d) := p1
      have G : Fr Dr h g := G
      have p3 : AW g T (i + 1) n := p3
      have p4 : gI g 87 i = enBd (dpJ S c T n i d) := p4
      have p5 : ∀ v, dpJ S c T n i d = some v → gI g 88 i = nI v.2.1 ∧ gI g 89 i = nI v.2.2 := p5
      subst p1
      have Rg := R.fr G
      have e73 : gI g 73 = gI h 73 := G.2.2.2.2.2.2 73 (fun z => by unfold Dr at z; omega)
      have Lg := L.fr e73
      have mg : gI g 74 = m := by rw [G.2.2.2.2.2.2 74 (fun z => by unfold Dr at z; omega)]; exact em
      have st := r_isStanding P Lg Rg mg B hq J (i := i) (k := n - d - 1) (by omega) (by omega)
      have bd := r_badness P Lg Rg mg B hq J (i := i) (k := n - d - 1) (by omega) (by omega)
      have eS : S i (n - d) = sdB m q me le mo i (n - d - 1) := by rw [hS]
      have ec : c i (n - d) = bdN m q me le co i (n - d - 1) := by rw [hc]
      rw [← eS] at st bd
      rw [← ec] at bd
      have es : dpJ S c T n i (d + 1) = dpU S c T i (n - d) (dpJ S c T n i d) := rfl
      obtain ⟨r1, r2⟩ := p3 (n - d) (by omega) (by omega)
      have wr : ∀ B1 L1 : Nat, (fun s' : Int32 × Hp => s'.1 = nI (n - (d + 1)) ∧ Fr Dr h s'.2 ∧ AW s'.2 T (i + 1) n ∧ gI s'.2 87 i = enBd (some (B1, L1, n - d)) ∧ ∀ v, some (B1, L1, n - d) = some v → gI s'.2 88 i = nI v.2.1 ∧ gI s'.2 89 i = nI v.2.2) (nI (n - (d + 1)), sI (sI (sI g 87 i (nI B1)) 88 i (nI L1)) 89 i (nI (n - d))) := fun B1 L1 => by
        refine ⟨rfl, ((G.trans (Fr.sI (Or.inl rfl))).trans (Fr.sI (Or.inr (Or.inl rfl)))).trans (Fr.sI (Or.inr (Or.inr rfl))), fun j hj1 hj2 => ?_, ?_, fun v hv => ?_⟩
        · have := p3 j hj1 hj2
          show gI (sI (sI (sI g 87 i (nI B1)) 88 i (nI L1)) 89 i (nI (n - d))) 87 j = _ ∧ ∀ v, T j = some v → gI (sI (sI (sI g 87 i (nI B1)) 88 i (nI L1)) 89 i (nI (n - d))) 88 j = _ ∧ (j < n → gI (sI (sI (sI g 87 i (nI B1)) 88 i (nI L1)) 89 i (nI (n - d))) 89 j = _)
          have q87 : gI (sI (sI (sI g 87 i (nI B1)) 88 i (nI L1)) 89 i (nI (n - d))) 87 j = gI g 87 j := by rw [gI_sI, if_neg (show ¬ 87 = 89 by omega), gI_sI, if_neg (show ¬ 87 = 88 by omega), gI_sI, if_pos (Eq.refl 87), up_at, if_neg (by omega)]
          have q88 : gI (sI (sI (sI g 87 i (nI B1)) 88 i (nI L1)) 89 i (nI (n - d))) 88 j = gI g 88 j := by rw [gI_sI, if_neg (show ¬ 88 = 89 by omega), gI_sI, if_pos (Eq.refl 88), up_at, if_neg (by omega), gI_sI, if_neg (show ¬ 88 = 87 by omega)]
          have q89 : gI (sI (sI (sI g 87 i (nI B1)) 88 i (nI L1)) 89 i (nI (n - d))) 89 j = gI g 89 j := by rw [gI_sI, if_pos (Eq.refl 89), up_at, if_neg (by omega), gI_sI, if_neg (show ¬ 89 = 88 by omega), gI_sI, if_neg (show ¬ 89 = 87 by omega)]
          rw [q87, q88, q89]
          exact this
        · show gI (sI (sI (sI g 87 i (nI B1)) 88 i (nI L1)) 89 i (nI (n - d))) 87 i = nI B1
          rw [gI_sI, if_neg (show ¬ 87 = 89 by omega), gI_sI, if_neg (show ¬ 87 = 88 by omega), gIl]
        · have hv := Option.some.inj hv
          subst hv
          show gI (sI (sI (sI g 87 i (nI B1)) 88 i (nI L1)) 89 i (nI (n - d))) 88 i = nI L1 ∧ gI (sI (sI (sI g 87 i (nI B1)) 88 i (nI L1)) 89 i (nI (n - d))) 89 i = nI (n - d)
          rw [gI_sI, if_neg (show ¬ 88 = 89 by omega), gIl, gIl]
          exact ⟨rfl, rfl⟩
      have lm : nI (n - d) + -nI 1 = nI (n - (d + 1)) := by rw [lV_s, lV_p (by omega)]; exact congrArg nI (by omega)
      have w170 : ∀ B1 L1 : Nat, MX12_work_170 g 73 (nI q) (nI n) (nI i) (nI (n - d)) (nI B1) (nI L1) = some (.inl (nI (n - (d + 1)), sI (sI (sI g 87 i (nI B1)) 88 i (nI L1)) 89 i (nI (n - d)))) := fun B1 L1 => by
        unfold MX12_work_170
        simp (disch := omega) only [↓reduceIte, Nat.reduceLT, Nat.reduceLeDiff, Nat.reduceEqDiff, ZL, nAdd, nMul, nSub, nLt, nLe, nEq, nCl, nDiv, nRem2, nM1, nM2, nM3, nM4, nM5, nM6, gg_in, gg_rf, gg_T, if_true, if_false, ↓lt_eq, ob_some, b2_some, up1_some, kd_sI, ln_sI, gP_sI, gI_sI, kd_rI, ln_rI, gP_rI, gI_rI, kd_bmp, ln_bmp, gP_bmp, gI_bmp, up_at, i0, i1, RS.f Rg, lm]
      have keep : dpJ S c T n i (d + 1) = dpJ S c T n i d → (fun s' : Int32 × Hp => s'.1 = nI (n - (d + 1)) ∧ Fr Dr h s'.2 ∧ AW s'.2 T (i + 1) n ∧ gI s'.2 87 i = enBd (dpJ S c T n i (d + 1)) ∧ ∀ v, dpJ S c T n i (d + 1) = some v → gI s'.2 88 i = nI v.2.1 ∧ gI s'.2 89 i = nI v.2.2) (nI (n - (d + 1)), g) := fun e => by
        rw [e]
        exact ⟨rfl, G, p3, p4, p5⟩
      show ∃ s', BX12_work_53 g 73 (nI q) (nI n) (nI i) (nI (n - d)) = some (.inl s') ∧ _
      have pre : BX12_work_53 g 73 (nI q) (nI n) (nI i) (nI (n - d)) = if enBd (T (n - d)) = -nI 1 then some (.inl (nI (n - (d + 1)), g)) else (if bI (S i (n - d)) = nI 0 then some (.inl (nI (n - (d + 1)), g)) else Option.bind (MX12_badness g 73 (nI q) (nI i) (nI (n - d - 1))) fun t41 => (if gI g 87 i = -nI 1 then MX12_work_170 g 73 (nI q) (nI n) (nI i) (nI (n - d)) (enBd (T (n - d)) + t41) (gI g 88 (n - d) + nI 1) else (if gI g 87 i < enBd (T (n - d)) + t41 then some (.inl (nI (n - (d + 1)), g)) else (if enBd (T (n - d)) + t41 = gI g 87 i then (if gI g 88 (n - d) + nI 1 < gI g 88 i then MX12_work_170 g 73 (nI q) (nI n) (nI i) (nI (n - d)) (enBd (T (n - d)) + t41) (gI g 88 (n - d) + nI 1) else some (.inl (nI (n - (d + 1)), g))) else MX12_work_170 g 73 (nI q) (nI n) (nI i) (nI (n - d)) (enBd (T (n - d)) + t41) (gI g 88 (n - d) + nI 1))))) := by
        have f87 : gI g 87 (n - d) = enBd (T (n - d)) := r1
        obtain ⟨k1, -⟩ := RS.f Rg
        unfold BX12_work_53
        rw [if_neg (nI_ge (by omega) (by omega)), gg_t k1]
        simp only [ZL, lm]
        rw [pk_sub (show 1 ≤ n - d by omega), st, ob_some]
        simp (disch := omega) only [RS.f Rg, gg_rf, gg_T, gg_in, nCl, f87]
      rw [pre]
      cases ht : T (n - d) with
      | none =>
        rw [if_pos (show enBd none = -nI 1 from rfl)]
        exact ⟨_, rfl, keep (by rw [es]; unfold dpU; rw [ht])⟩
      | some w =>
        obtain ⟨t1, t2⟩ := Tb (n - d) w (by omega) ht
        rw [show enBd (some w) = nI w.1 from rfl, if_neg (by rw [nM6 (by omega)]; exact id)]
        by_cases zS : S i (n - d) = true
        · rw [if_neg (by rw [zS]; decide), bd zS, ob_some]
          have cB := cb i (n - d)
          have r3 := (r2 w ht).1
          rw [r3, nAdd, nAdd]
          cases hcur : dpJ S c T n i d with
          | none =>
            rw [hcur] at p4
            rw [p4, if_pos (show enBd none = -nI 1 from rfl), w170]
            have e2 : dpJ S c T n i (d + 1) = some (w.1 + c i (n - d), w.2.1 + 1, n - d) := by
              rw [es, hcur]
              unfold dpU
              rw [ht]
              exact if_pos zS
            refine ⟨_, rfl, ?_⟩
            rw [e2]
            exact wr _ _
          | some v =>
            rw [hcur] at p4
            obtain ⟨v1, v2⟩ := p5 v hcur
            have hB := dpJ_B (S := S) (c := c) (T := T) (n := n) (i := i) d (by omega)
            rw [hcur] at hB
            obtain ⟨hb1, -, ⟨x, hb3, hb4, hb5⟩, -⟩ := hB
            have hb1 : n - d < v.2.2 ∧ v.2.2 ≤ n := hb1
            obtain ⟨x1, x2⟩ := Tb v.2.2 x hb1.2 hb3
            have x3 := cb i v.2.2
            have e2 : dpJ S c T n i (d + 1) = if v.1 < w.1 + c i (n - d) ∨ (v.1 = w.1 + c i (n - d) ∧ v.2.1 ≤ w.2.1 + 1) then some v else some (w.1 + c i (n - d), w.2.1 + 1, n - d) := by
              rw [es, hcur]
              unfold dpU
              rw [ht]
              exact if_pos zS
            rw [p4, show enBd (some v) = nI v.1 from rfl, if_neg (by rw [nM6 (by omega)]; exact id), v1]
            by_cases z1 : v.1 < w.1 + c i (n - d)
            · rw [if_pos (nI_lt z1 (by omega))]
              refine ⟨_, rfl, keep ?_⟩
              rw [e2, hcur, if_pos (Or.inl z1)]
            · rw [if_neg (nI_nlt (by omega) (by omega))]
              by_cases z2 : w.1 + c i (n - d) = v.1
              · rw [if_pos (by rw [z2])]
                by_cases z3 : w.2.1 + 1 < v.2.1
                · rw [if_pos (nI_lt z3 (by omega)), w170]
                  refine ⟨_, rfl, ?_⟩
                  rw [e2, if_neg (by omega)]
                  exact wr _ _
                · rw [if_neg (nI_nlt (by omega) (by omega))]
                  refine ⟨_, rfl, keep ?_⟩
                  rw [e2, hcur, if_pos (Or.inr ⟨z2.symm, by omega⟩)]
              · rw [if_neg (by rw [nEq (by omega) (by omega)]; exact z2), w170]
                refine ⟨_, rfl, ?_⟩
                rw [e2, if_neg (by omega)]
                exact wr _ _
        · have zF : S i (n - d) = false := by
            cases h9 : S i (n - d) with
            | true => exact absurd h9 zS
            | false => rfl
          rw [if_pos (by rw [zF]; rfl)]
          refine ⟨_, rfl, keep ?_⟩
          rw [es]
          unfold dpU
          rw [ht]
          exact if_neg zS
    · obtain ⟨a, g⟩ := s
      obtain ⟨p1, G, p3, p4, p5⟩ := p
      have p1 : a = nI (n - (n - i)) := p1
      have G : Fr Dr h g := G
      have p3 : AW g T (i + 1) n := p3
      have eA : T i = dpJ S c T n i (n - i) := by rw [hT]; exact dpv_i hi
      have u4 : gI g 87 i = enBd (T i) := by rw [eA]; exact p4
      have u5 : ∀ v, T i = some v → gI g 88 i = nI v.2.1 ∧ gI g 89 i = nI v.2.2 := by rw [eA]; exact p5
      rw [show n - (n - i) = i by omega] at p1
      subst p1
      refine ⟨.inl (lV i, g), ?_, g, rfl, G, fun j hj1 hj2 => ?_⟩
      · show BX12_work_53 g 73 (nI q) (nI n) (nI i) (nI i) = _
        unfold BX12_work_53
        rw [if_pos (nI_le (Nat.le_refl _) (by omega)), show nI i + (-1 : Int32) = lV i from lV_s i]
      · by_cases z : j = i
        · subst z
          exact ⟨u4, fun v hv => ⟨(u5 v hv).1, fun _ => (u5 v hv).2⟩⟩
        · exact p3 j (by omega) hj2
    · show AW g0 T (i + 1) n
      intro j hj1 hj2
      have := A j hj1 hj2
      have q87 : gI g0 87 j = gI h 87 j := by rw [hg0, gI_sI, if_pos (Eq.refl 87), up_at, if_neg (by omega)]
      have q88 : gI g0 88 = gI h 88 := by rw [hg0, gI_sI, if_neg (show ¬ 88 = 87 by omega)]
      have q89 : gI g0 89 = gI h 89 := by rw [hg0, gI_sI, if_neg (show ¬ 89 = 87 by omega)]
      rw [q87, q88, q89]
      exact this
    · show gI g0 87 i = _
      rw [hg0, gIl]
      rfl
  obtain ⟨r, k1, h1, k2, k3, k4⟩ := K
  exact ⟨h1, by rw [k1, k2], k3, k4⟩
end
