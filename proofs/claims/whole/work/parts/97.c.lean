/-! the best way, the reach, by hand: on both sides -/
noncomputable def pme (m : Nat → Int32) (q : Nat) (t : Int32) : Nat := sdM m (stI m t (Nn m 2)) (lrM m (stI m t (Nn m 2)) (fcP m q t) 0) 1 60
noncomputable def ple (m : Nat → Int32) (q : Nat) (t : Int32) : Nat := sdM m (stI m t (Nn m 2)) (lrM m (stI m t (Nn m 2)) (fcP m q t) 1) 1 2
noncomputable def pmo (m : Nat → Int32) (q : Nat) (t : Int32) : Nat := sdM m (stI m t (Nn m 2)) (lrM m (stI m t (Nn m 2)) (fcP m q t) 1) 2 6
noncomputable def pco (m : Nat → Int32) (q : Nat) (t : Int32) : Nat := sdM m (stI m t (Nn m 2)) (lrM m (stI m t (Nn m 2)) (fcP m q t) 2) 1 25
noncomputable def pfa (m : Nat → Int32) (q : Nat) (t : Int32) : Nat := sdM m (stI m t (Nn m 2)) (lrM m (stI m t (Nn m 2)) (fcP m q t) 3) 1 0
noncomputable def pmr (m : Nat → Int32) (q : Nat) (t : Int32) : Nat := lrM m (stI m t (Nn m 2)) (fcP m q t) 0
/-- the best ways of part q at minute t -/
noncomputable def wyT (m : Nat → Int32) (q : Nat) (t : Int32) : Nat → BT := wyD m q (pme m q t) (ple m q t) (pmo m q t) (pco m q t)
/-- which pieces are reached when the first i have been looked at -/
def rcT (S : Nat → Nat → Bool) (n : Nat) : Nat → Nat → Bool
  | 0 => fun j => decide (j = 0)
  | i + 1 => fun j => rcT S n i j || (rcT S n i i && (decide (i < j) && decide (j ≤ n)) && S i j)
def rcP (S : Nat → Nat → Bool) (n i d j : Nat) : Bool := rcT S n i j || (rcT S n i i && (decide (i < j) && decide (j ≤ i + d)) && S i j)
def mxN (f : Nat → Bool) : Nat → Nat
  | 0 => 0
  | k + 1 => if f (k + 1) = true then k + 1 else mxN f k
theorem mxN_le {f : Nat → Bool} : ∀ n, mxN f n ≤ n
  | 0 => Nat.le_refl 0
  | k + 1 => by
    have := mxN_le (f := f) k
    unfold mxN
    split <;> omega
theorem mxN_c {f g : Nat → Bool} : ∀ n, (∀ j, 1 ≤ j → j ≤ n → f j = g j) → mxN f n = mxN g n
  | 0, _ => rfl
  | k + 1, H => by
    unfold mxN
    rw [H (k + 1) (by omega) (by omega), mxN_c k (fun j h1 h2 => H j h1 (by omega))]
theorem mxN_up {f g : Nat → Bool} {a : Nat} (ha : 1 ≤ a) : ∀ n, a ≤ n → (∀ j, 1 ≤ j → j ≤ n → (g j = true ↔ (f j = true ∨ j = a))) → mxN g n = max (mxN f n) a
  | 0, h, _ => absurd h (by omega)
  | k + 1, h, H => by
    have hk := H (k + 1) (by omega) (by omega)
    by_cases z : a = k + 1
    · have e : mxN g (k + 1) = k + 1 := if_pos (hk.mpr (Or.inr z.symm))
      have := mxN_le (f := f) (k + 1)
      rw [e]
      omega
    · have ih := mxN_up ha k (by omega) (fun j h1 h2 => H j h1 (by omega))
      by_cases y : f (k + 1) = true
      · have e1 : mxN g (k + 1) = k + 1 := if_pos (hk.mpr (Or.inl y))
        have e2 : mxN f (k + 1) = k + 1 := if_pos y
        rw [e1, e2]
        omega
      · have e1 : mxN g (k + 1) = mxN g k := if_neg (fun w => by
          rcases hk.mp w with w | w
          · exact y w
          · exact z w.symm)
        have e2 : mxN f (k + 1) = mxN f k := if_neg y
        rw [e1, e2, ih]
theorem rcP_0 {S : Nat → Nat → Bool} {n i j : Nat} : rcP S n i 0 j = rcT S n i j := by
  unfold rcP
  have : (decide (i < j) && decide (j ≤ i + 0)) = false := by
    by_cases z : i < j
    · rw [decide_eq_false (show ¬ j ≤ i + 0 by omega), Bool.and_false]
    · rw [decide_eq_false z, Bool.false_and]
  rw [this, Bool.and_false, Bool.false_and, Bool.or_false]
theorem rcP_n {S : Nat → Nat → Bool} {n i : Nat} (hi : i ≤ n) : rcP S n i (n - i) = rcT S n (i + 1) := by
  funext j
  show (rcT S n i j || (rcT S n i i && (decide (i < j) && decide (j ≤ i + (n - i))) && S i j)) = (rcT S n i j || (rcT S n i i && (decide (i < j) && decide (j ≤ n)) && S i j))
  rw [show i + (n - i) = n by omega]
theorem rcP_f {S : Nat → Nat → Bool} {n i d : Nat} (h : rcT S n i i = false) : rcP S n i d = rcT S n i := by
  funext j
  unfold rcP
  rw [h, Bool.false_and, Bool.false_and, Bool.or_false]
theorem rcP_s {S : Nat → Nat → Bool} {n i d j : Nat} (h : rcT S n i i = true) : rcP S n i (d + 1) j = true ↔ (rcP S n i d j = true ∨ (j = i + d + 1 ∧ S i (i + d + 1) = true)) := by
  unfold rcP
  rw [h]
  simp only [Bool.true_and, Bool.or_eq_true, Bool.and_eq_true, decide_eq_true_eq]
  constructor
  · rintro (z | ⟨⟨z1, z2⟩, z3⟩)
    · exact Or.inl (Or.inl z)
    · by_cases y : j = i + d + 1
      · subst y
        exact Or.inr ⟨rfl, z3⟩
      · exact Or.inl (Or.inr ⟨⟨z1, by omega⟩, z3⟩)
  · rintro ((z | ⟨⟨z1, z2⟩, z3⟩) | ⟨rfl, z3⟩)
    · exact Or.inl z
    · exact Or.inr ⟨⟨z1, by omega⟩, z3⟩
    · exact Or.inr ⟨⟨by omega, by omega⟩, z3⟩
theorem rcP_i {S : Nat → Nat → Bool} {n i d : Nat} : rcP S n i d i = rcT S n i i := by
  unfold rcP
  rw [decide_eq_false (show ¬ i < i by omega), Bool.false_and, Bool.and_false, Bool.false_and, Bool.or_false]
theorem rcT_lo {S : Nat → Nat → Bool} {n i j : Nat} (h : j ≤ i) : rcT S n (i + 1) j = rcT S n i j := by
  show (rcT S n i j || (rcT S n i i && (decide (i < j) && decide (j ≤ n)) && S i j)) = _
  rw [decide_eq_false (show ¬ i < j by omega), Bool.false_and, Bool.and_false, Bool.false_and, Bool.or_false]
theorem bool_c {a b : Bool} (h : a = true ↔ b = true) : a = b := by cases a <;> cases b <;> simp_all
theorem n_jmax {a b : Nat} (ha : a < 2147483648) (hb : b < 2147483648) : jmax (nI a) (nI b) = nI (max a b) := by
  unfold jmax
  by_cases z : a ≤ b
  · rw [show max a b = b by omega]
    simp (disch := omega) only [nLe, nLt, z, if_true]
    try (split <;> (first | rfl | exact congrArg nI (by omega)))
  · rw [show max a b = a by omega]
    simp (disch := omega) only [nLe, nLt]
    split <;> (first | rfl | exact congrArg nI (by omega))
/-- the last in i .. i + d with t, and one -/
def lgN (t : Nat → Nat → Bool) (i : Nat) : Nat → Nat
  | 0 => 0
  | d + 1 => if t i (i + d) = true then i + d + 1 else lgN t i d
theorem lgN_b {t : Nat → Nat → Bool} {i : Nat} : ∀ d, lgN t i d ≤ i + d ∧ (lgN t i d ≠ 0 → i < lgN t i d)
  | 0 => ⟨Nat.zero_le _, fun h => absurd rfl h⟩
  | d + 1 => by
    have ih := lgN_b (t := t) (i := i) d
    unfold lgN
    by_cases z : t i (i + d) = true
    · rw [if_pos z]; exact ⟨by omega, fun _ => by omega⟩
    · rw [if_neg z]; exact ⟨by omega, ih.2⟩
/-- by hand: lines, and those that don't stand -/
def hdR (t s : Nat → Nat → Bool) (n : Nat) : Nat → Nat → Nat → Nat → Option (Nat × Nat)
  | 0, _, l, b => some (l, b)
  | f + 1, i, l, b => if n ≤ i then some (l, b) else (if lgN t i (n - i) = 0 then none else hdR t s n f (lgN t i (n - i)) (l + 1) (b + (if s i (lgN t i (n - i) - 1) = true then 0 else 1)))
def hdV (v : Int32) : Option (Nat × Nat) → Int32
  | none => -nI 1
  | some w => if v = nI 0 then nI w.1 else nI w.2
section
variable {tg : Nat → List Nat} {h h1 h2 h' : Hp} {m : Nat → Int32} {p q b r x e me le mo co : Nat} {F : Nat → Int32}
theorem ps_of (I : MIw m) (he : e ≤ Nn m 2) : Ps (sdM m e (lrM m e F 0) 1 60) (sdM m e (lrM m e F 1) 1 2) (sdM m e (lrM m e F 1) 2 6) (sdM m e (lrM m e F 2) 1 25) := by
  have g : ∀ w, lrM m e F w ≠ 0 → (oN m (yA e + 2 + 5 * (lrM m e F w - 1) + 1) 999) ∧ (m (yA e + 2 + 5 * (lrM m e F w - 1)) = nI 0 → 10 ≤ Nn m (yA e + 2 + 5 * (lrM m e F w - 1) + 1) ∧ Nn m (yA e + 2 + 5 * (lrM m e F w - 1) + 1) ≤ 400) ∧ (m (yA e + 2 + 5 * (lrM m e F w - 1)) = nI 1 → 1 ≤ Nn m (yA e + 2 + 5 * (lrM m e F w - 1) + 1) ∧ Nn m (yA e + 2 + 5 * (lrM m e F w - 1) + 1) ≤ Nn m (yA e + 2 + 5 * (lrM m e F w - 1) + 2) ∧ Nn m (yA e + 2 + 5 * (lrM m e F w - 1) + 2) ≤ 40) := fun w z => by
    have hc := lrM_le (m := m) (e := e) (F := F) (w := w)
    unfold nR at hc
    by_cases e0 : e = 0
    · rw [if_pos e0] at hc; omega
    · rw [if_neg e0] at hc
      obtain ⟨-, -, H⟩ := I.2 (e - 1) (by omega)
      obtain ⟨-, h1, -, h3, h4, -⟩ := H (lrM m e F w - 1) (by show lrM m e F w - 1 < Nn m (yA e + 1); omega)
      exact ⟨h1, h3, h4⟩
  have c0 : 10 ≤ sdM m e (lrM m e F 0) 1 60 ∧ sdM m e (lrM m e F 0) 1 60 ≤ 400 := by
    unfold sdM
    by_cases z : lrM m e F 0 = 0
    · rw [if_pos z]; omega
    · rw [if_neg z]; exact (g 0 z).2.1 (lrM_k z)
  have c1 : 1 ≤ sdM m e (lrM m e F 1) 1 2 ∧ sdM m e (lrM m e F 1) 1 2 ≤ sdM m e (lrM m e F 1) 2 6 ∧ sdM m e (lrM m e F 1) 2 6 ≤ 40 := by
    unfold sdM
    by_cases z : lrM m e F 1 = 0
    · rw [if_pos z, if_pos z]; omega
    · rw [if_neg z, if_neg z]; exact (g 1 z).2.2 (lrM_k z)
  have c2 : sdM m e (lrM m e F 2) 1 25 ≤ 999 := by
    unfold sdM
    by_cases z : lrM m e F 2 = 0
    · rw [if_pos z]; omega
    · rw [if_neg z]; exact ((g 2 z).1.eq (by omega)).2
  exact ⟨c0.1, c0.2, c1.1, c1.2.1, c1.2.2, c2⟩
theorem ps_q (I : MIw m) (t : Int32) : Ps (pme m q t) (ple m q t) (pmo m q t) (pco m q t) := ps_of I (stI_le _)
theorem r_work (R : RS h) (em : gI h 74 = m) (I : MIw m) (Z : StM m) (hq : vP m q) (J : MIp m q) (t : Int32) : ∃ h1, MX12_work h 73 (nI q) t = some h1 ∧ Rk h h1 ∧ RR h1 m (stI m t (Nn m 2)) (fcP m q t) ∧ AW h1 (wyT m q t) 0 (nP m q) := by
  obtain ⟨g, k1, K1, rr⟩ := r_tells R em I Z hq t
  have P := ps_q (q := q) I t
  have hb := hq.1
  obtain ⟨n, hn⟩ : ∃ n, n = nP m q := ⟨_, rfl⟩
  obtain ⟨j1, j2, j3⟩ := J.n
  have Rg := K1.rs R
  have mg : gI g 74 = m := by rw [K1.g (by omega) (by omega)]; exact em
  have Lg : RLn g (pme m q t) (ple m q t) (pmo m q t) (pco m q t) := ⟨rr.1, rr.2.2.1, rr.2.2.2.1, rr.2.2.2.2.1⟩
  obtain ⟨g0, hg0⟩ : ∃ g0, g0 = sI (sI g 87 n (nI 0)) 88 n (nI 0) := ⟨_, rfl⟩
  have G0 : Fr Dr g g0 := by rw [hg0]; exact (Fr.sI (S := Dr) (Or.inl rfl)).trans (Fr.sI (S := Dr) (Or.inr (Or.inl rfl)))
  have e0 : MX12_work h 73 (nI q) t = MX12_work_37 g0 73 (nI q) (nI n) (lV n) := by
    unfold MX12_work
    rw [gg_t (RS.f R).1, k1, ob_some, gg_t (RS.f Rg).1, r_part0, ob_some, hg0, ← lV_m]
    rw [← hn] at j1
    simp (disch := omega) only [↓reduceIte, Nat.reduceLT, Nat.reduceLeDiff, Nat.reduceEqDiff, ZL, nAdd, nMul, nSub, nLt, nLe, nEq, nCl, nDiv, nRem2, nM1, nM2, nM3, nM4, nM5, nM6, gg_in, gg_rf, gg_T, if_true, if_false, ↓lt_eq, ob_some, b2_some, up1_some, kd_sI, ln_sI, gP_sI, gI_sI, kd_rI, ln_rI, gP_rI, gI_rI, kd_bmp, ln_bmp, gP_bmp, gI_bmp, up_at, i0, i1, RS.f Rg, mg, j1]
  rw [e0]
  unfold MX12_work_37
  have K : ∃ r, it (fun s : Int32 × Hp => BX12_work_37 s.2 73 (nI q) (nI n) s.1) (lV n, g0) = some r ∧ (Fr Dr g r ∧ AW r (wyT m q t) 0 n) := by
    refine it_cnt (fun d s => s.1 = lV (n - d) ∧ Fr Dr g s.2 ∧ AW s.2 (wyT m q t) (n - d) n) n (fun d s hd p => ?_) (fun s p => ?_) ⟨rfl, G0, ?_⟩
    · obtain ⟨a, f⟩ := s
      obtain ⟨p1, G, p3⟩ := p
      have p1 : a = lV (n - d) := p1
      have G : Fr Dr g f := G
      have p3 : AW f (wyT m q t) (n - d) n := p3
      subst p1
      have A1 : AW f (wyD m q (pme m q t) (ple m q t) (pmo m q t) (pco m q t)) (n - d - 1 + 1) (nP m q) := by rw [show n - d - 1 + 1 = n - d by omega, ← hn]; exact p3
      have e73 : gI f 73 = gI g 73 := G.2.2.2.2.2.2 73 (fun z => by unfold Dr at z; omega)
      obtain ⟨g1, k1, k2, k3⟩ := r_workAt P (Lg.fr e73) (Rg.fr G) (by rw [G.2.2.2.2.2.2 74 (fun z => by unfold Dr at z; omega)]; exact mg) I.1 hq J (i := n - d - 1) (by omega) A1
      refine ⟨(lV (n - (d + 1)), g1), ?_, rfl, G.trans k2, ?_⟩
      · show BX12_work_37 f 73 (nI q) (nI n) (lV (n - d)) = _
        rw [lV_p (by omega), hn]
        rw [hn] at k1
        exact k1
      · show AW g1 (wyT m q t) (n - (d + 1)) n
        rw [show n - (d + 1) = n - d - 1 by omega, hn]
        rw [hn] at k3
        exact k3
    · obtain ⟨a, f⟩ := s
      obtain ⟨p1, G, p3⟩ := p
      have p1 : a = lV (n - n) := p1
      have p4 : AW f (wyT m q t) 0 n := by
        have p3 : AW f (wyT m q t) (n - n) n := p3
        rw [Nat.sub_self] at p3
        exact p3
      rw [Nat.sub_self] at p1
      subst p1
      exact ⟨f, rfl, G, p4⟩
    · show AW g0 (wyT m q t) (n - 0) n
      intro i hi1 hi2
      have hi : i = n := by omega
      subst hi
      have en : wyT m q t i = some (0, 0, 0) := by rw [hn]; exact wyD_n J
      rw [en, hg0]
      refine ⟨by rw [gI_sI, if_neg (show ¬ 87 = 88 by omega), gIl]; rfl, fun v hv => ?_⟩
      have hv := Option.some.inj hv
      subst hv
      exact ⟨by rw [gIl], fun hlt => absurd hlt (Nat.lt_irrefl _)⟩
  obtain ⟨f, k2, G, k3⟩ := K
  have e73 : gI f 73 = gI g 73 := G.2.2.2.2.2.2 73 (fun z => by unfold Dr at z; omega)
  refine ⟨f, k2, K1.trans (Rk.w G (fun b z => by unfold Dr at z; omega)), ?_, by rw [← hn]; exact k3⟩
  unfold RR
  rw [e73]
  exact rr
/-- a breaker is ready -/
theorem c_br (K : Rt tg h r x) (S : RmS h r) (V : RmW h r m) (I : MIw m) (PS : PtS h p) (PV : PtV h p m q) (J : MIp m q) (A : Pa tg h p x) (hq : vP m q) (t : Int32) : ∃ h1, MX7_breakerFor h r p t = some (gP h r 14, h1) ∧ Sc tg r x h h1 ∧ BL h1 (gP h r 14) m q (pme m q t) (ple m q t) (pmo m q t) (pco m q t) ∧ BQ h1 (gP h r 14) ∧ gI h1 (gP h r 14) 1 = lV (pmr m q t) ∧ gI h1 (gP h r 14) 5 = nI (pfa m q t) := by
  obtain ⟨h1, k1, k2, k3, k4⟩ := c_breakerFor K S V I PS PV J A hq t
  have S1 := k2.rs K S
  have K1 := k2.rt K
  have e : gP h1 = gP h := k2.1.gp
  obtain ⟨b0, bS⟩ := S1.2.2.2.2.2.2.2.2.2.2.2.2.2.2.2.1
  rw [e] at b0 bS
  obtain ⟨u0, u1, u2, u3, u4, u5⟩ := k4
  have nz : ∀ i, 8 ≤ i → i ≤ 13 → gP h (gP h r 14) i ≠ 0 := fun i h8 h13 => by
    obtain ⟨-, c1, c2, c3, c4, c5, c6, -⟩ := bS
    have d1 := c1.1
    have d2 := c2.1
    have d3 := c3.1
    have d4 := c4.1
    have d5 := c5.1
    have d6 := c6.1
    rw [e] at d1 d2 d3 d4 d5 d6
    rcases (show i = 8 ∨ i = 9 ∨ i = 10 ∨ i = 11 ∨ i = 12 ∨ i = 13 by omega) with rfl | rfl | rfl | rfl | rfl | rfl
    · exact d1
    · exact d2
    · exact d3
    · exact d4
    · exact d5
    · exact d6
  refine ⟨h1, k1, k2, ⟨bS, k3, u0, u2, u3, u4⟩, ⟨fun i h8 h13 => ?_, fun i j h8 h13 g8 g13 hij => ?_⟩, u1, u5⟩
  · rw [e]
    exact ne_t (tg := tg) (by rw [K.a b0, K.o (nz i h8 h13)]; simp)
  · rw [e]
    exact ne_t (tg := tg) (by rw [K.o (nz i h8 h13), K.o (nz j g8 g13)]; simp [hij])
theorem sc_dw (K : Rt tg h r x) (S : RmS h r) (a : Sc tg r x h h1) (G : Fr (Dw h1 (gP h r 14)) h1 h2) : Sc tg r x h h2 := by
  obtain ⟨F, z8, z9⟩ := a
  obtain ⟨b0, bS⟩ := S.2.2.2.2.2.2.2.2.2.2.2.2.2.2.2.1
  obtain ⟨-, c1, c2, c3, c4, c5, c6, -⟩ := bS
  have t : ∀ i, gP h (gP h r 14) i ≠ 0 → tg (gP h (gP h r 14) i) = [i, 14, x] := fun i hi => K.o hi
  have dd : ∀ c, Dw h1 (gP h r 14) c → ∃ i, 10 ≤ i ∧ i ≤ 13 ∧ c = gP h (gP h r 14) i ∧ gP h (gP h r 14) i ≠ 0 := fun c z => by
    unfold Dw at z
    rw [F.gp] at z
    rcases z with z | z | z | z
    · exact ⟨10, by omega, by omega, z, c3.1⟩
    · exact ⟨11, by omega, by omega, z, c4.1⟩
    · exact ⟨12, by omega, by omega, z, c5.1⟩
    · exact ⟨13, by omega, by omega, z, c6.1⟩
  have nn : ∀ j, (j = 8 ∨ j = 9) → gP h (gP h r 14) j ≠ 0 → gI h2 (gP h (gP h r 14) j) = gI h1 (gP h (gP h r 14) j) := fun j hj hz => G.2.2.2.2.2.2 _ (fun z => by
    obtain ⟨i, i1, i2, i3, i4⟩ := dd _ z
    have : tg (gP h (gP h r 14) j) = tg (gP h (gP h r 14) i) := by rw [i3]
    rw [t j hz, t i i4] at this
    have := (List.cons.inj this).1
    omega)
  refine ⟨F.trans (G.mono (fun c z => ?_)), by rw [nn 8 (Or.inl rfl) c1.1]; exact z8, by rw [nn 9 (Or.inr rfl) c2.1]; exact z9⟩
  obtain ⟨i, i1, i2, i3, i4⟩ := dd c z
  rw [i3]
  exact ⟨i4, by rw [t i i4]; simp [scT]⟩
end
