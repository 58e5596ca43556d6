/-! the class's breaker: lines, the best way -/
def BL (h : Hp) (b : Nat) (m : Nat → Int32) (q me le mo co : Nat) : Prop := BrS h b ∧ BrC h b m q ∧ gI h b 0 = nI me ∧ gI h b 2 = nI le ∧ gI h b 3 = nI mo ∧ gI h b 4 = nI co
def BQ (h : Hp) (b : Nat) : Prop := (∀ i, 8 ≤ i → i ≤ 13 → Nq b (gP h b i)) ∧ ∀ i j, 8 ≤ i → i ≤ 13 → 8 ≤ j → j ≤ 13 → i ≠ j → Nq (gP h b i) (gP h b j)
def Ps (me le mo co : Nat) : Prop := 10 ≤ me ∧ me ≤ 400 ∧ 1 ≤ le ∧ le ≤ mo ∧ mo ≤ 40 ∧ co ≤ 999
/-- the arrays that the ways are written into -/
def Dw (h : Hp) (b c : Nat) : Prop := c = gP h b 10 ∨ c = gP h b 11 ∨ c = gP h b 12 ∨ c = gP h b 13
def enL : BT → Int32
  | none => -nI 1
  | some v => nI v.2.1
section
variable {h h1 h' : Hp} {m : Nat → Int32} {q b me le mo co : Nat}
theorem BL.fr (L : BL h b m q me le mo co) (Q : BQ h b) (G : Fr (Dw h b) h h1) : BL h1 b m q me le mo co := by
  obtain ⟨Q1, Q2⟩ := Q
  have e : ∀ c, (c = b ∨ c = gP h b 8 ∨ c = gP h b 9) → gI h1 c = gI h c := fun c hc => G.2.2.2.2.2.2 c (fun z => by
    unfold Dw at z
    rcases hc with rfl | rfl | rfl
    · rcases z with z | z | z | z
      · exact (Q1 10 (by omega) (by omega)).n z
      · exact (Q1 11 (by omega) (by omega)).n z
      · exact (Q1 12 (by omega) (by omega)).n z
      · exact (Q1 13 (by omega) (by omega)).n z
    · rcases z with z | z | z | z
      · exact (Q2 8 10 (by omega) (by omega) (by omega) (by omega) (by omega)).n z
      · exact (Q2 8 11 (by omega) (by omega) (by omega) (by omega) (by omega)).n z
      · exact (Q2 8 12 (by omega) (by omega) (by omega) (by omega) (by omega)).n z
      · exact (Q2 8 13 (by omega) (by omega) (by omega) (by omega) (by omega)).n z
    · rcases z with z | z | z | z
      · exact (Q2 9 10 (by omega) (by omega) (by omega) (by omega) (by omega)).n z
      · exact (Q2 9 11 (by omega) (by omega) (by omega) (by omega) (by omega)).n z
      · exact (Q2 9 12 (by omega) (by omega) (by omega) (by omega) (by omega)).n z
      · exact (Q2 9 13 (by omega) (by omega) (by omega) (by omega) (by omega)).n z)
  unfold BL BrS BrC ar at L ⊢
  rw [G.1, G.2.1, G.2.2.1, e b (Or.inl rfl), e (gP h b 8) (Or.inr (Or.inl rfl)), e (gP h b 9) (Or.inr (Or.inr rfl))]
  exact L
theorem BQ.fr {D : Nat → Prop} (Q : BQ h b) (G : Fr D h h1) : BQ h1 b := by
  unfold BQ
  rw [G.2.2.1]
  exact Q
theorem c_spare (L : BL h b m q me le mo co) (J : MIp m q) {i k : Nat} (hi : i ≤ k) (hk : k < nP m q) : MX0_spare h b (nI i) (nI k) = some (nI me - nI (tiN m q le i k)) := by
  obtain ⟨⟨k0, ⟨-, k8, l8⟩, ⟨-, k9, l9⟩, -⟩, ⟨-, c7, c⟩, c0, c2, -⟩ := L
  obtain ⟨j1, j2, j3⟩ := J.n
  obtain ⟨a1, a2⟩ := c k (by omega)
  obtain ⟨a3, a4⟩ := c (k + 1) (by omega)
  obtain ⟨a5, a6⟩ := c i (by omega)
  have w1 := (we_le J k (by omega)).1
  have w2 := (we_le J (k + 1) (by omega)).1
  have mw : weN m q i ≤ weN m q k := by
    have := we_mono J (a := i) (k - i) (by omega)
    rwa [show i + (k - i) = k by omega] at this
  have mp : wpN m q i ≤ wpN m q (k + 1) := by
    have := wp_mono (m := m) (q := q) (a := i) (k + 1 - i)
    rwa [show i + (k + 1 - i) = k + 1 by omega] at this
  have t25 : ∀ s, MX0_spare_25 h b (nI i) (nI k) (nI s) = some (nI me - nI (wpN m q (k + 1) - wpN m q i + s + gaN m q i k * le)) := fun s => by
    unfold MX0_spare_25
    rw [gg_t k0, gg_t k9, l9, gg_in (by omega) (by omega), gg_in (by omega) (by omega), nCl (by omega), nCl (by omega), a2, a6, pk_sub mw, lt_eq, gg_t k8, l8]
    simp only [ZL]
    rw [nAdd k 1, gg_in (by omega) (by omega), gg_in (by omega) (by omega), nCl (by omega), a3, a5, pk_sub mp, c0, c2, nAdd, nMul, nAdd]
    rfl
  unfold MX0_spare
  rw [gg_t k0, gg_t k9, l9]
  simp only [ZL]
  rw [nAdd k 1, gg_in (by omega) (by omega), gg_in (by omega) (by omega), nCl (by omega), nCl (by omega), a4, a2]
  unfold tiN wiN
  by_cases z : weN m q (k + 1) = weN m q k
  · rw [if_pos (by rw [z]), if_pos z, c7, t25]
  · rw [if_neg (by rw [nEq (by omega) (by omega)]; exact z), if_neg z, t25]
theorem sp_lt {t me : Nat} (hm : me ≤ 400) (ht : t < 1073741824) : (nI 0 ≤ nI me - nI t) = (t ≤ me) := by
  by_cases z : t ≤ me
  · rw [pk_sub z, nLe (by omega) (by omega)]
    exact propext ⟨fun _ => z, fun _ => Nat.zero_le _⟩
  · refine propext ⟨fun w => ?_, fun w => absurd w z⟩
    exact absurd w (by rw [Int32.not_le]; exact pk_sneg (by omega) (by omega))
theorem c_lineBad (P : Ps me le mo co) (L : BL h b m q me le mo co) (B : MIb m) (hq : vP m q) (J : MIp m q) {i k : Nat} (hi : i ≤ k) (hk : k < nP m q) : MX0_lineBadness h b (nI i) (nI k) = some (if sdB m q me le mo i k = true then nI (bdN m q me le co i k) else -nI 1) := by
  have sp := c_spare L J hi hk
  obtain ⟨p1, p2, p3, p4, p5, p6⟩ := P
  obtain ⟨⟨k0, ⟨-, k8, l8⟩, ⟨-, k9, l9⟩, -⟩, ⟨c6, c7, c⟩, c0, c2, c3, c4⟩ := L
  obtain ⟨j1, j2, j3⟩ := J.n
  obtain ⟨a1, a2⟩ := c k (by omega)
  obtain ⟨a3, a4⟩ := c (k + 1) (by omega)
  obtain ⟨a5, a6⟩ := c i (by omega)
  have w1 := (we_le J k (by omega)).1
  have w2 := (we_le J (k + 1) (by omega)).1
  have mw : weN m q i ≤ weN m q k := by
    have := we_mono J (a := i) (k - i) (by omega)
    rwa [show i + (k - i) = k by omega] at this
  have tl := ti_le B hq J (a := i) (le := le) hk (by omega)
  have gl := ga_le J (a := i) hk
  have g2 : gaN m q i k * (mo - le) ≤ 24 * 40 := Nat.mul_le_mul gl (by omega)
  have g3 : gaN m q i k * (mo - le) = gaN m q i k * mo - gaN m q i k * le := Nat.mul_sub _ _ _
  have g4 : gaN m q i k * le ≤ gaN m q i k * mo := Nat.mul_le_mul_left _ p4
  have et : tiN m q le i k = wiN m q i k + gaN m q i k * le := rfl
  unfold MX0_lineBadness
  rw [gg_t k0, sp, ob_some]
  simp only [ZL]
  by_cases z1 : tiN m q le i k ≤ me
  · rw [if_pos (by rw [sp_lt p2 (by omega)]; exact z1), c6, pk_sub j3]
    by_cases z2 : k + 1 = nP m q
    · rw [if_pos (by rw [nEq (by omega) (by omega)]; omega)]
      have s1 : sdB m q me le mo i k = true := by unfold sdB; rw [decide_eq_true z1, decide_eq_true z2]; rfl
      have s2 : bdN m q me le co i k = 0 := by unfold bdN; rw [if_pos z2]
      rw [if_pos s1, s2]
    · have gd : weN m q k - weN m q i = gaN m q i k := rfl
      rw [if_neg (by rw [nEq (by omega) (by omega)]; omega), gg_t k9, l9, gg_in (by omega) (by omega), gg_in (by omega) (by omega), nCl (by omega), nCl (by omega), a2, a6, pk_sub mw, lt_eq, c3, c2, pk_sub p4, pk_sub z1, nMul, gd]
      by_cases z3 : me ≤ wiN m q i k + gaN m q i k * mo
      · rw [if_pos (by rw [nLe (by omega) (by omega)]; omega), nAdd k 1, gg_in (by omega) (by omega), nCl (by omega), a4]
        have s1 : sdB m q me le mo i k = true := by unfold sdB; rw [decide_eq_true z1, decide_eq_true z3]; simp
        rw [if_pos s1]
        unfold bdN
        rw [if_neg z2]
        by_cases z4 : weN m q (k + 1) = weN m q k
        · rw [if_pos (by rw [z4]), if_pos z4]
          unfold MX0_lineBadness_80 MX0_lineBadness_98
          rw [if_neg (by decide), gg_t k0, c4, nMul, nAdd]
        · rw [if_neg (by rw [nEq (by omega) (by omega)]; exact z4), if_neg z4]
          unfold MX0_lineBadness_80 MX0_lineBadness_98
          simp only [ZL, if_true]
          rw [nMul, nAdd]
      · rw [if_neg (by rw [nLe (by omega) (by omega)]; omega)]
        have s1 : ¬ sdB m q me le mo i k = true := by unfold sdB; rw [decide_eq_false z3, decide_eq_false z2]; simp
        rw [if_neg s1]
  · rw [if_neg (by rw [sp_lt p2 (by omega)]; exact z1)]
    have s1 : ¬ sdB m q me le mo i k = true := by unfold sdB; rw [decide_eq_false z1]; simp
    rw [if_neg s1]
/-- the ways of the pieces from lo on stand in the arrays -/
def AR (h : Hp) (b : Nat) (D : Nat → BT) (lo n : Nat) : Prop := ∀ i, lo ≤ i → i ≤ n → gI h (gP h b 11) i = enL (D i) ∧ ∀ v, D i = some v → gI h (gP h b 10) i = nI v.1 ∧ (i < n → gI h (gP h b 12) i = nI (v.2.2 - 1))
theorem c_solveAt (P : Ps me le mo co) (L : BL h b m q me le mo co) (Q : BQ h b) (B : MIb m) (hq : vP m q) (J : MIp m q) {i : Nat} (hi : i < nP m q) (A : AR h b (dpv (fun a j => sdB m q me le mo a (j - 1)) (fun a j => bdN m q me le co a (j - 1)) (nP m q)) (i + 1) (nP m q)) : ∃ h1, MX0_solveAt h b (nI i) = some h1 ∧ (Fr (Dw h b) h h1 ∧ AR h1 b (dpv (fun a j => sdB m q me le mo a (j - 1)) (fun a j => bdN m q me le co a (j - 1)) (nP m q)) i (nP m q)) := by
  obtain ⟨S, hS⟩ : ∃ S : Nat → Nat → Bool, S = fun a j => sdB m q me le mo a (j - 1) := ⟨_, rfl⟩
  obtain ⟨c, hc⟩ : ∃ c : Nat → Nat → Nat, c = fun a j => bdN m q me le co a (j - 1) := ⟨_, rfl⟩
  rw [← hS, ← hc] at A ⊢
  obtain ⟨n, hn⟩ : ∃ n, n = nP m q := ⟨_, rfl⟩
  have j40 := (J.n).2.1
  rw [← hn] at A hi j40 ⊢
  obtain ⟨T, hT⟩ : ∃ T, T = dpv S c n := ⟨_, rfl⟩
  rw [← hT] at A ⊢
  have cb : ∀ a j, c a j ≤ 160999 := fun a j => by rw [hc]; exact bd_le P.2.1 P.2.2.2.2.2
  have Tb : ∀ j v, j ≤ n → T j = some v → v.1 ≤ 6439960 ∧ v.2.1 ≤ 40 := fun j v hj hv => by
    rw [hT] at hv
    obtain ⟨b1, b2, -⟩ := dpv_b j40 cb (n - j) j (by omega) v hv
    omega
  have Q1 := Q.1
  have k0 := L.1.1
  obtain ⟨-, k10, l10⟩ := L.1.2.2.2.1
  obtain ⟨-, k11, l11⟩ := L.1.2.2.2.2.1
  obtain ⟨-, k12, l12⟩ := L.1.2.2.2.2.2.1
  have Q3 := Q.2
  have n1011 := Q3 10 11 (by omega) (by omega) (by omega) (by omega) (by omega)
  have n1012 := Q3 10 12 (by omega) (by omega) (by omega) (by omega) (by omega)
  have n1112 := Q3 11 12 (by omega) (by omega) (by omega) (by omega) (by omega)
  have n11b := Q1 11 (by omega) (by omega)
  -- what holds of the arrays at i when d lines have been looked at
  obtain ⟨g0, hg0⟩ : ∃ g, g = sI h (gP h b 11) i (-nI 1) := ⟨_, rfl⟩
  have G0 : Fr (Dw h b) h g0 := by rw [hg0]; exact Fr.sI (Or.inr (Or.inl rfl))
  have e0 : MX0_solveAt h b (nI i) = MX0_solveAt_9 g0 b (nI i) (nI i) := by
    unfold MX0_solveAt
    rw [gg_t k0, gg_t k11, l11, gg_in (by omega) (by omega), nCl (by omega), lt_eq, hg0]
    rfl
  rw [e0]
  unfold MX0_solveAt_9
  -- the cell i holds what cur tells
  refine it_cnt (f := fun s : Int32 × Hp => BX0_solveAt_9 s.2 b (nI i) s.1) (Q := fun h1 => Fr (Dw h b) h h1 ∧ AR h1 b T i n) (fun d s => s.1 = nI (i + d) ∧ Fr (Dw h b) h s.2 ∧ AR s.2 b T (i + 1) n ∧ gI s.2 (gP h b 11) i = enL (dpA S c T i d) ∧ ∀ v, dpA S c T i d = some v → gI s.2 (gP h b 10) i = nI v.1 ∧ gI s.2 (gP h b 12) i = nI (v.2.2 - 1)) (n - i) (fun d s hd p => ?_) (fun s p => ?_) (s := (nI i, g0)) ⟨rfl, G0, ?_, ?_, fun v hv => absurd hv (by simp [dpA])⟩
  · obtain ⟨a, g⟩ := s
    obtain ⟨p1, G, p3, p4, p5⟩ := p
    have p1 : a = nI (i + d) := p1
    have G : Fr (Dw h b) h g := G
    have p3 : AR g b T (i + 1) n := p3
    have p4 : gI g (gP h b 11) i = enL (dpA S c T i d) := p4
    have p5 : ∀ v, dpA S c T i d = some v → gI g (gP h b 10) i = nI v.1 ∧ gI g (gP h b 12) i = nI (v.2.2 - 1) := p5
    subst p1
    have Lg := L.fr Q G
    have ek := G.1
    have el := G.2.1
    have ep := G.2.2.1
    have lb := c_lineBad P Lg B hq J (i := i) (k := i + d) (by omega) (by omega)
    have eS : S i (i + 1 + d) = sdB m q me le mo i (i + d) := by rw [hS]; exact congrArg (sdB m q me le mo i) (by omega)
    have ec : c i (i + 1 + d) = bdN m q me le co i (i + d) := by rw [hc]; exact congrArg (bdN m q me le co i) (by omega)
    rw [← eS, ← ec] at lb
    have es : dpA S c T i (d + 1) = dpW S c T i (i + 1 + d) (dpA S c T i d) := rfl
    obtain ⟨r1, r2⟩ := p3 (i + 1 + d) (by omega) (by omega)
    rw [ep] at r1 r2
    have e6 : gI g b 6 = nI n := by rw [hn]; exact Lg.2.1.1
    -- what a write does
    have wr : ∀ B1 L1 : Nat, (fun s' : Int32 × Hp => s'.1 = nI (i + (d + 1)) ∧ Fr (Dw h b) h s'.2 ∧ AR s'.2 b T (i + 1) n ∧ gI s'.2 (gP h b 11) i = enL (some (B1, L1, i + 1 + d)) ∧ ∀ v, some (B1, L1, i + 1 + d) = some v → gI s'.2 (gP h b 10) i = nI v.1 ∧ gI s'.2 (gP h b 12) i = nI (v.2.2 - 1)) (nI (i + (d + 1)), sI (sI (sI g (gP h b 10) i (nI B1)) (gP h b 11) i (nI L1)) (gP h b 12) i (nI (i + d))) := fun B1 L1 => by
      refine ⟨rfl, ((G.trans (Fr.sI (Or.inl rfl))).trans (Fr.sI (Or.inr (Or.inl rfl)))).trans (Fr.sI (Or.inr (Or.inr (Or.inl rfl)))), fun j hj1 hj2 => ?_, ?_, fun v hv => ?_⟩
      · show gI (sI (sI (sI g (gP h b 10) i (nI B1)) (gP h b 11) i (nI L1)) (gP h b 12) i (nI (i + d))) (gP g b 11) j = _ ∧ ∀ v, T j = some v → gI (sI (sI (sI g (gP h b 10) i (nI B1)) (gP h b 11) i (nI L1)) (gP h b 12) i (nI (i + d))) (gP g b 10) j = _ ∧ (j < n → gI (sI (sI (sI g (gP h b 10) i (nI B1)) (gP h b 11) i (nI L1)) (gP h b 12) i (nI (i + d))) (gP g b 12) j = _)
        have := p3 j hj1 hj2
        rw [ep] at this ⊢
        rw [gI_sI, if_neg n1112.n, gI_sI, if_pos rfl, up_at, if_neg (by omega), gI_sI, if_neg n1011.symm.n, gI_sI, if_neg n1012.n, gI_sI, if_neg n1011.n, gI_sI, if_pos rfl, up_at, if_neg (by omega), gI_sI, if_pos rfl, up_at, if_neg (by omega), gI_sI, if_neg n1112.symm.n, gI_sI, if_neg n1012.symm.n]
        exact this
      · show gI (sI (sI (sI g (gP h b 10) i (nI B1)) (gP h b 11) i (nI L1)) (gP h b 12) i (nI (i + d))) (gP h b 11) i = nI L1
        rw [gI_sI, if_neg n1112.n, gIl]
      · have hv := Option.some.inj hv
        subst hv
        show gI (sI (sI (sI g (gP h b 10) i (nI B1)) (gP h b 11) i (nI L1)) (gP h b 12) i (nI (i + d))) (gP h b 10) i = nI B1 ∧ gI (sI (sI (sI g (gP h b 10) i (nI B1)) (gP h b 11) i (nI L1)) (gP h b 12) i (nI (i + d))) (gP h b 12) i = nI (i + 1 + d - 1)
        rw [gI_sI, if_neg n1012.n, gI_sI, if_neg n1011.n, gIl, gIl, show i + 1 + d - 1 = i + d by omega]
        exact ⟨rfl, rfl⟩
    have w111 : ∀ B1 L1 : Nat, MX0_solveAt_111 g b (nI i) (nI (i + d)) (nI B1) (nI L1) = some (.inl (nI (i + (d + 1)), sI (sI (sI g (gP h b 10) i (nI B1)) (gP h b 11) i (nI L1)) (gP h b 12) i (nI (i + d)))) := fun B1 L1 => by
      unfold MX0_solveAt_111 MX0_solveAt_116
      simp only [ZL]
      rw [if_neg (by rw [n10]; exact id), ek, el, ep, gg_t k0, gg_t k10, l10, gg_in (by omega) (by omega), nCl (by omega), lt_eq, gg_t k11, l11, gg_in (by omega) (by omega), lt_eq, gg_t k12, l12, gg_in (by omega) (by omega), lt_eq, nAdd]
      rfl
    have keep : dpA S c T i (d + 1) = dpA S c T i d → (fun s' : Int32 × Hp => s'.1 = nI (i + (d + 1)) ∧ Fr (Dw h b) h s'.2 ∧ AR s'.2 b T (i + 1) n ∧ gI s'.2 (gP h b 11) i = enL (dpA S c T i (d + 1)) ∧ ∀ v, dpA S c T i (d + 1) = some v → gI s'.2 (gP h b 10) i = nI v.1 ∧ gI s'.2 (gP h b 12) i = nI (v.2.2 - 1)) (nI (i + (d + 1)), g) := fun e => by
      rw [e]
      exact ⟨rfl, G, p3, p4, p5⟩
    have pre : BX0_solveAt_9 g b (nI i) (nI (i + d)) = if (if S i (i + 1 + d) = true then nI (c i (i + 1 + d)) else -nI 1) = -nI 1 then some (.inl (nI (i + (d + 1)), g)) else (if enL (T (i + 1 + d)) = -nI 1 then some (.inl (nI (i + (d + 1)), g)) else (if gI g (gP h b 11) i = -nI 1 then MX0_solveAt_111 g b (nI i) (nI (i + d)) ((if S i (i + 1 + d) = true then nI (c i (i + 1 + d)) else -nI 1) + gI g (gP h b 10) (i + 1 + d)) (nI 1 + enL (T (i + 1 + d))) else (if (if S i (i + 1 + d) = true then nI (c i (i + 1 + d)) else -nI 1) + gI g (gP h b 10) (i + 1 + d) < gI g (gP h b 10) i then MX0_solveAt_111 g b (nI i) (nI (i + d)) ((if S i (i + 1 + d) = true then nI (c i (i + 1 + d)) else -nI 1) + gI g (gP h b 10) (i + 1 + d)) (nI 1 + enL (T (i + 1 + d))) else (if (if S i (i + 1 + d) = true then nI (c i (i + 1 + d)) else -nI 1) + gI g (gP h b 10) (i + 1 + d) = gI g (gP h b 10) i then (if gI g (gP h b 11) i < nI 1 + enL (T (i + 1 + d)) then MX0_solveAt_115 g b (nI i) (nI (i + d)) ((if S i (i + 1 + d) = true then nI (c i (i + 1 + d)) else -nI 1) + gI g (gP h b 10) (i + 1 + d)) (nI 1 + enL (T (i + 1 + d))) else MX0_solveAt_111 g b (nI i) (nI (i + d)) ((if S i (i + 1 + d) = true then nI (c i (i + 1 + d)) else -nI 1) + gI g (gP h b 10) (i + 1 + d)) (nI 1 + enL (T (i + 1 + d)))) else MX0_solveAt_115 g b (nI i) (nI (i + d)) ((if S i (i + 1 + d) = true then nI (c i (i + 1 + d)) else -nI 1) + gI g (gP h b 10) (i + 1 + d)) (nI 1 + enL (T (i + 1 + d))))))) := by
      unfold BX0_solveAt_9
      rw [ek, el, ep, gg_t k0, e6, if_neg (nI_ge (by omega) (by omega)), lb, ob_some]
      simp only [ZL]
      rw [nAdd (i + d) 1, gg_t k11, l11, gg_in (by omega) (by omega), nCl (by omega), gg_t k10, l10, gg_in (by omega) (by omega), gg_in (by omega) (by omega), nCl (by omega), show i + d + 1 = i + 1 + d by omega, r1, gg_in (by omega) (by omega), show i + (d + 1) = i + 1 + d by omega]
    have t115 : ∀ a c, MX0_solveAt_115 g b (nI i) (nI (i + d)) a c = some (.inl (nI (i + (d + 1)), g)) := fun a c => by
      unfold MX0_solveAt_115 MX0_solveAt_116
      simp only [ZL, if_true]
      rw [nAdd]
      rfl
    show ∃ s', BX0_solveAt_9 g b (nI i) (nI (i + d)) = some (.inl s') ∧ _
    rw [pre]
    by_cases zS : S i (i + 1 + d) = true
    · rw [if_pos zS]
      have cB := cb i (i + 1 + d)
      rw [if_neg (by rw [nM6 (by omega)]; exact id)]
      cases ht : T (i + 1 + d) with
      | none =>
        rw [if_pos (show enL none = -nI 1 from rfl)]
        exact ⟨_, rfl, keep (by rw [es]; unfold dpW; rw [ht])⟩
      | some w =>
        obtain ⟨t1, t2⟩ := Tb (i + 1 + d) w (by omega) ht
        have r3 := (r2 w ht).1
        rw [show enL (some w) = nI w.2.1 from rfl, if_neg (by rw [nM6 (by omega)]; exact id), r3, nAdd, nAdd, Nat.add_comm (c i (i + 1 + d)) w.1, Nat.add_comm 1 w.2.1]
        cases hcur : dpA S c T i d with
        | none =>
          rw [hcur] at p4
          rw [p4, if_pos (show enL none = -nI 1 from rfl), w111]
          have e2 : dpA S c T i (d + 1) = some (w.1 + c i (i + 1 + d), w.2.1 + 1, i + 1 + d) := by
            rw [es, hcur]
            unfold dpW
            rw [ht]
            exact if_pos zS
          refine ⟨_, rfl, ?_⟩
          rw [e2]
          exact wr _ _
        | some v =>
          rw [hcur] at p4
          obtain ⟨v1, v2⟩ := p5 v hcur
          -- the bounds of v
          have hB := dpA_B (S := S) (c := c) (T := T) (i := i) d
          rw [hcur] at hB
          obtain ⟨hb1, -, ⟨x, hb3, hb4, hb5⟩, -⟩ := hB
          have hb1 : i < v.2.2 ∧ v.2.2 ≤ i + d := hb1
          obtain ⟨x1, x2⟩ := Tb v.2.2 x (by omega) hb3
          have x3 := cb i v.2.2
          have e2 : dpA S c T i (d + 1) = if w.1 + c i (i + 1 + d) < v.1 ∨ (w.1 + c i (i + 1 + d) = v.1 ∧ w.2.1 + 1 ≤ v.2.1) then some (w.1 + c i (i + 1 + d), w.2.1 + 1, i + 1 + d) else some v := by
            rw [es, hcur]
            unfold dpW
            rw [ht]
            exact if_pos zS
          rw [p4, show enL (some v) = nI v.2.1 from rfl, if_neg (by rw [nM6 (by omega)]; exact id), v1]
          by_cases z1 : w.1 + c i (i + 1 + d) < v.1
          · rw [if_pos (nI_lt z1 (by omega)), w111]
            refine ⟨_, rfl, ?_⟩
            rw [e2, if_pos (Or.inl z1)]
            exact wr _ _
          · rw [if_neg (nI_nlt (by omega) (by omega))]
            by_cases z2 : w.1 + c i (i + 1 + d) = v.1
            · rw [if_pos (by rw [z2])]
              by_cases z3 : v.2.1 < w.2.1 + 1
              · rw [if_pos (nI_lt z3 (by omega)), t115]
                refine ⟨_, rfl, keep ?_⟩
                rw [e2, hcur, if_neg (by omega)]
              · rw [if_neg (nI_nlt (by omega) (by omega)), w111]
                refine ⟨_, rfl, ?_⟩
                rw [e2, if_pos (Or.inr ⟨z2, by omega⟩)]
                exact wr _ _
            · rw [if_neg (by rw [nEq (by omega) (by omega)]; exact z2), t115]
              refine ⟨_, rfl, keep ?_⟩
              rw [e2, hcur, if_neg (by omega)]
    · rw [if_neg zS, if_pos rfl]
      refine ⟨_, rfl, keep ?_⟩
      rw [es]
      unfold dpW
      cases ht : T (i + 1 + d) with
      | none => rfl
      | some w => exact if_neg zS
  · obtain ⟨a, g⟩ := s
    obtain ⟨p1, G, p3, p4, p5⟩ := p
    have p1 : a = nI (i + (n - i)) := p1
    have G : Fr (Dw h b) h g := G
    have p3 : AR g b T (i + 1) n := p3
    have p4 : gI g (gP h b 11) i = enL (dpA S c T i (n - i)) := p4
    have p5 : ∀ v, dpA S c T i (n - i) = some v → gI g (gP h b 10) i = nI v.1 ∧ gI g (gP h b 12) i = nI (v.2.2 - 1) := p5
    rw [show i + (n - i) = n by omega] at p1
    subst p1
    have eA : T i = dpA S c T i (n - i) := by rw [hT]; exact dpv_A hi
    rw [← eA] at p4 p5
    have Lg := L.fr Q G
    refine ⟨g, ?_, G, fun j hj1 hj2 => ?_⟩
    · show BX0_solveAt_9 g b (nI i) (nI n) = _
      unfold BX0_solveAt_9
      rw [gg_t Lg.1.1, show gI g b 6 = nI n by rw [hn]; exact Lg.2.1.1, if_pos (nI_le (by omega) (by omega))]
    · by_cases z : j = i
      · subst z
        rw [G.2.2.1]
        exact ⟨p4, fun v hv => ⟨(p5 v hv).1, fun _ => (p5 v hv).2⟩⟩
      · exact p3 j (by omega) hj2
  · show AR g0 b T (i + 1) n
    intro j hj1 hj2
    have := A j hj1 hj2
    rw [hg0]
    show gI (sI h (gP h b 11) i (-nI 1)) (gP h b 11) j = _ ∧ ∀ v, T j = some v → gI (sI h (gP h b 11) i (-nI 1)) (gP h b 10) j = _ ∧ (j < n → gI (sI h (gP h b 11) i (-nI 1)) (gP h b 12) j = _)
    rw [gI_sI, if_pos rfl, up_at, if_neg (by omega), gI_sI, if_neg n1011.n, gI_sI, if_neg n1112.symm.n]
    exact this
  · show gI g0 (gP h b 11) i = _
    rw [hg0, gIl]
    rfl
end
