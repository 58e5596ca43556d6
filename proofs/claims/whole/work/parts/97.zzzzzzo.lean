/-! style: rules, the class -/
def APs (h0 : Hp) : Prop := (∀ k y, 2 ≤ k → k ≤ 6 → y = 2 ∨ y = 3 ∨ y = 4 ∨ y = 5 → gP h0 5 k ≠ y) ∧ ∀ j k, 2 ≤ j → j ≤ 6 → 2 ≤ k → k ≤ 6 → j ≠ k → gP h0 5 j ≠ gP h0 5 k
def DSt (h0 : Hp) (y : Nat) : Prop := y = 3 ∨ y = 5 ∨ ∃ k, 2 ≤ k ∧ k ≤ 6 ∧ y = gP h0 5 k
/-- where the reading of a style begins -/
def KBs (h0 : Hp) (b : Nat → Nat) (e : Nat) : Prop := TQ h0 b e ∧ StyS h0 5 ∧ gI h0 3 3 = -nI 1 ∧ APs h0
/-- the rules rs are read, it stands at a -/
def KS (h0 h : Hp) (a : Nat) (rs : List Rl) : Prop := Fr (DSt h0) h0 h ∧ (∀ j, j ≠ 2 → gI h 3 j = gI h0 3 j) ∧ gI h 3 2 = nI a ∧ gI h 5 1 = nI rs.length ∧ (∀ j, j ≠ 1 → gI h 5 j = gI h0 5 j) ∧ ∀ r, r < rs.length → gI h (gP h0 5 2) r = nI (rs.getD r dRl).1.1 ∧ gI h (gP h0 5 3) r = nI (rs.getD r dRl).1.2.1 ∧ gI h (gP h0 5 4) r = nI (rs.getD r dRl).1.2.2 ∧ gI h (gP h0 5 5) r = nI (ceL rs (r + 1)) ∧ ∀ i, i < (rs.getD r dRl).2.length → gI h (gP h0 5 6) (ceL rs r + i) = nI (encC ((rs.getD r dRl).2.getD i (0, 0, 0)))
def YX (h0 h : Hp) (p : Nat) : Prop := Fr (DSt h0) h0 h ∧ gI h 3 3 = nI p
/-- a piece of the class's reading of a rule does what f says -/
def CRn (h0 : Hp) (b : Nat → Nat) (e : Nat) (rs : List Rl) (F : Hp → Option (Int32 × Hp)) (f : Nat → RuR) : Prop := ∀ h a i, KS h0 h a rs → a ≤ e → i ≤ e → ik b e a = ik b e i → 2 * ceL rs rs.length ≤ i → (∀ p, f i = .inl p → ∃ h', F h = some (nI 0, h') ∧ YX h0 h' p) ∧ ∀ q, f i = .inr q → ∃ h' a', F h = some (nI 1, h') ∧ KS h0 h' a' (rs ++ [q.2]) ∧ a' ≤ e ∧ ik b e a' = ik b e q.1
section
variable {h0 h h1 : Hp} {b : Nat → Nat} {e a c k n m j p i lo hi : Nat} {rs : List Rl} {x : Nat × Nat × Nat} {u v w : Int32} {f : Nat → RuR} {F : Hp → Option (Int32 × Hp)} {l : List Op}
theorem StyS.fr {D : Nat → Prop} {y : Nat} (S : StyS h y) (G : Fr D h h1) : StyS h1 y := by
  unfold StyS ar at *
  rw [G.1, G.2.1, G.2.2.1]
  exact S
theorem KS.q (B : KBs h0 b e) (K : KS h0 h a rs) : TQ h b e ∧ gI h 3 3 = -nI 1 ∧ StyS h 5 := by
  obtain ⟨⟨t1, t2, t3, t4, t5, t6, t7, t8, t9, t10, t11, t12⟩, B2, B3, B4, B5⟩ := B
  obtain ⟨F, k1, -⟩ := K
  have o : ∀ y, y = 2 ∨ y = 4 → gI h y = gI h0 y := fun y hy => F.2.2.2.2.2.2 y (fun z => by
    rcases z with z | z | ⟨k, z1, z2, z3⟩
    · omega
    · omega
    · exact B4 k y z1 z2 (by omega) z3.symm)
  exact ⟨⟨by rw [F.1]; exact t1, by rw [F.2.2.1]; exact t2, by rw [F.2.2.1]; exact t3, by rw [F.2.2.1]; exact t4, by rw [F.1]; exact t5, by rw [F.2.1]; exact t6, by rw [F.1]; exact t7, by rw [F.2.1]; exact t8, by rw [k1 1 (by omega)]; exact t9, t10, fun i hi => by rw [o 2 (by omega)]; exact t11 i hi, fun i hi => by rw [o 4 (by omega)]; exact t12 i hi⟩, by rw [k1 3 (by omega)]; exact B3, B2.fr F⟩
theorem KS.at (B : KBs h0 b e) (K : KS h0 h a rs) (x : Nat) : KS h0 (sI h 3 2 (nI x)) x rs := by
  obtain ⟨F, k1, k2, k3, k4, k5⟩ := K
  have d : ∀ k, 2 ≤ k → k ≤ 6 → gP h0 5 k ≠ 3 := fun k h1 h2 => B.2.2.2.1 k 3 h1 h2 (by omega)
  refine ⟨F.trans (Fr.sI (Or.inl rfl)), fun j hj => ?_, ?_, ?_, fun j hj => ?_, fun r hr => ?_⟩
  · rw [gI_sI, if_pos rfl, up_at, if_neg hj]; exact k1 j hj
  · rw [gI_sI, if_pos rfl, up_at, if_pos rfl]
  · rw [gI_sI, if_neg (by decide)]; exact k3
  · rw [gI_sI, if_neg (by decide)]; exact k4 j hj
  · obtain ⟨r1, r2, r3, r4, r5⟩ := k5 r hr
    rw [gI_sI, if_neg (d 2 (by omega) (by omega)), gI_sI, if_neg (d 3 (by omega) (by omega)), gI_sI, if_neg (d 4 (by omega) (by omega)), gI_sI, if_neg (d 5 (by omega) (by omega)), gI_sI, if_neg (d 6 (by omega) (by omega))]
    exact ⟨r1, r2, r3, r4, r5⟩
theorem KS.fl (K : KS h0 h a rs) (p : Nat) : YX h0 (sI h 3 3 (nI p)) p := ⟨K.1.trans (Fr.sI (Or.inl rfl)), by rw [gI_sI, if_pos rfl, up_at, if_pos rfl]⟩
/-- a rule is added, what it is made of -/
theorem c_addR (A : APs h0) (S : StyS h0 5) (G : Fr (DSt h0) h0 h) (hr : gI h 5 1 = nI n) (hn : n < 12) : ∃ h', MX9_addRule h 5 u v w = some h' ∧ Fr (DSt h0) h0 h' ∧ (∀ j, gI h' 3 j = gI h 3 j) ∧ gI h' 5 1 = nI (n + 1) ∧ (∀ j, j ≠ 1 → gI h' 5 j = gI h 5 j) ∧ (∀ j, gI h' (gP h0 5 2) j = if j = n then u else gI h (gP h0 5 2) j) ∧ (∀ j, gI h' (gP h0 5 3) j = if j = n then v else gI h (gP h0 5 3) j) ∧ (∀ j, gI h' (gP h0 5 4) j = if j = n then w else gI h (gP h0 5 4) j) ∧ (∀ j, gI h' (gP h0 5 5) j = if j = n then (if n = 0 then nI 0 else gI h (gP h0 5 5) (n - 1)) else gI h (gP h0 5 5) j) ∧ ∀ j, gI h' (gP h0 5 6) j = gI h (gP h0 5 6) j := by
  obtain ⟨s1, s2, s3, s4, s5, s6, s7, s8⟩ := S
  obtain ⟨A1, A2⟩ := A
  have d3 : ∀ k, 2 ≤ k → k ≤ 6 → gP h0 5 k ≠ 3 := fun k h1 h2 => A1 k 3 h1 h2 (by omega)
  have d5 : ∀ k, 2 ≤ k → k ≤ 6 → gP h0 5 k ≠ 5 := fun k h1 h2 => A1 k 5 h1 h2 (by omega)
  obtain ⟨y, hy⟩ : ∃ y, y = if n = 0 then nI 0 else gI h (gP h0 5 5) (n - 1) := ⟨_, rfl⟩
  obtain ⟨h5, hh5⟩ : ∃ h5, h5 = sI h (gP h0 5 2) n u := ⟨_, rfl⟩
  obtain ⟨h12, hh12⟩ : ∃ h12, h12 = sI h5 (gP h0 5 3) n v := ⟨_, rfl⟩
  obtain ⟨h19, hh19⟩ : ∃ h19, h19 = sI h12 (gP h0 5 4) n w := ⟨_, rfl⟩
  have e5 : gI h5 5 1 = nI n := by rw [hh5, gI_sI, if_neg (fun e => d5 2 (by omega) (by omega) e.symm)]; exact hr
  have e12 : gI h12 5 1 = nI n := by rw [hh12, gI_sI, if_neg (fun e => d5 3 (by omega) (by omega) e.symm)]; exact e5
  have e19 : gI h19 5 1 = nI n := by rw [hh19, gI_sI, if_neg (fun e => d5 4 (by omega) (by omega) e.symm)]; exact e12
  have q5 : gI h19 (gP h0 5 5) = gI h (gP h0 5 5) := by
    rw [hh19, gI_sI, if_neg (A2 5 4 (by omega) (by omega) (by omega) (by omega) (by omega)), hh12, gI_sI, if_neg (A2 5 3 (by omega) (by omega) (by omega) (by omega) (by omega)), hh5, gI_sI, if_neg (A2 5 2 (by omega) (by omega) (by omega) (by omega) (by omega))]
  have m : ∀ k, 2 ≤ k → k ≤ 6 → DSt h0 (gP h0 5 k) := fun k h1 h2 => Or.inr (Or.inr ⟨k, h1, h2, rfl⟩)
  have F19 : Fr (DSt h0) h0 h19 := by
    rw [hh19, hh12, hh5]
    exact ((G.trans (Fr.sI (m 2 (by omega) (by omega)))).trans (Fr.sI (m 3 (by omega) (by omega)))).trans (Fr.sI (m 4 (by omega) (by omega)))
  have e70 : MX9_addRule_70 h19 5 (gP h0 5 5) (nI n) y = some (sI (sI h19 (gP h0 5 5) n y) 5 1 (nI (n + 1))) := by
    unfold MX9_addRule_70
    simp only [ZL]
    rw [F19.1, F19.2.1, gg_t s5.2.1, s5.2.2, gg_in (by omega) (by omega), nCl (by omega), lt_eq, gg_t s1, show gI (sI h19 (gP h0 5 5) n y) 5 1 = nI n by rw [gI_sI, if_neg (fun e => d5 5 (by omega) (by omega) e.symm)]; exact e19, nAdd, lt_eq]
  refine ⟨sI (sI h19 (gP h0 5 5) n y) 5 1 (nI (n + 1)), ?_, (F19.trans (Fr.sI (m 5 (by omega) (by omega)))).trans (Fr.sI (Or.inr (Or.inl rfl))), fun j => ?_, ?_, fun j hj => ?_, fun j => ?_, fun j => ?_, fun j => ?_, fun j => ?_, fun j => ?_⟩
  · rw [← e70]
    unfold MX9_addRule
    simp only [ZL]
    rw [G.1, G.2.1, G.2.2.1, gg_t s1, hr, if_pos (nI_lt hn (by omega)), gg_t s2.2.1, s2.2.2, gg_in (by omega) (by omega), nCl (by omega), lt_eq, ← hh5, gg_t s3.2.1, e5, s3.2.2, gg_in (by omega) (by omega), nCl (by omega), lt_eq, ← hh12, gg_t s4.2.1, e12, s4.2.2, gg_in (by omega) (by omega), nCl (by omega), lt_eq, ← hh19, e19]
    by_cases z : n = 0
    · rw [if_pos (by rw [z]), hy, if_pos z]
    · rw [if_neg (by rw [nEq (by omega) (by omega)]; exact z), gg_t s5.2.1, nSub (by omega), s5.2.2, gg_in (by omega) (by omega), nCl (by omega), hy, if_neg z, q5]
  · rw [gI_sI, if_neg (by decide), gI_sI, if_neg (fun e => d3 5 (by omega) (by omega) e.symm), hh19, gI_sI, if_neg (fun e => d3 4 (by omega) (by omega) e.symm), hh12, gI_sI, if_neg (fun e => d3 3 (by omega) (by omega) e.symm), hh5, gI_sI, if_neg (fun e => d3 2 (by omega) (by omega) e.symm)]
  · rw [gI_sI, if_pos rfl, up_at, if_pos rfl]
  · rw [gI_sI, if_pos rfl, up_at, if_neg hj, gI_sI, if_neg (fun e => d5 5 (by omega) (by omega) e.symm), hh19, gI_sI, if_neg (fun e => d5 4 (by omega) (by omega) e.symm), hh12, gI_sI, if_neg (fun e => d5 3 (by omega) (by omega) e.symm), hh5, gI_sI, if_neg (fun e => d5 2 (by omega) (by omega) e.symm)]
  · rw [gI_sI, if_neg (d5 2 (by omega) (by omega)), gI_sI, if_neg (A2 2 5 (by omega) (by omega) (by omega) (by omega) (by omega)), hh19, gI_sI, if_neg (A2 2 4 (by omega) (by omega) (by omega) (by omega) (by omega)), hh12, gI_sI, if_neg (A2 2 3 (by omega) (by omega) (by omega) (by omega) (by omega)), hh5, gI_sI, if_pos rfl, up_at]
  · rw [gI_sI, if_neg (d5 3 (by omega) (by omega)), gI_sI, if_neg (A2 3 5 (by omega) (by omega) (by omega) (by omega) (by omega)), hh19, gI_sI, if_neg (A2 3 4 (by omega) (by omega) (by omega) (by omega) (by omega)), hh12, gI_sI, if_pos rfl, up_at, hh5, gI_sI, if_neg (A2 3 2 (by omega) (by omega) (by omega) (by omega) (by omega))]
  · rw [gI_sI, if_neg (d5 4 (by omega) (by omega)), gI_sI, if_neg (A2 4 5 (by omega) (by omega) (by omega) (by omega) (by omega)), hh19, gI_sI, if_pos rfl, up_at, hh12, gI_sI, if_neg (A2 4 3 (by omega) (by omega) (by omega) (by omega) (by omega)), hh5, gI_sI, if_neg (A2 4 2 (by omega) (by omega) (by omega) (by omega) (by omega))]
  · rw [gI_sI, if_neg (d5 5 (by omega) (by omega)), gI_sI, if_pos rfl, up_at, q5, hy]
  · rw [gI_sI, if_neg (d5 6 (by omega) (by omega)), gI_sI, if_neg (A2 6 5 (by omega) (by omega) (by omega) (by omega) (by omega)), hh19, gI_sI, if_neg (A2 6 4 (by omega) (by omega) (by omega) (by omega) (by omega)), hh12, gI_sI, if_neg (A2 6 3 (by omega) (by omega) (by omega) (by omega) (by omega)), hh5, gI_sI, if_neg (A2 6 2 (by omega) (by omega) (by omega) (by omega) (by omega))]
/-- a rule is added -/
theorem KS.rule (B : KBs h0 b e) (K : KS h0 h a rs) (hn : rs.length < 12) (k n m : Nat) : ∃ h', MX9_addRule h 5 (nI k) (nI n) (nI m) = some h' ∧ KS h0 h' a (rs ++ [((k, n, m), [])]) := by
  obtain ⟨F, k1, k2, k3, k4, k5⟩ := K
  obtain ⟨h', a0, a1, a2, a3, a4, a5, a6, a7, a8, a9⟩ := c_addR (u := nI k) (v := nI n) (w := nI m) B.2.2.2 B.2.1 F k3 hn
  have ll : (rs ++ [(((k, n, m), []) : Rl)]).length = rs.length + 1 := by rw [List.length_append]; rfl
  refine ⟨h', a0, a1, fun j hj => by rw [a2]; exact k1 j hj, by rw [a2]; exact k2, by rw [a3, ll], fun j hj => by rw [a4 j hj]; exact k4 j hj, fun r hr => ?_⟩
  rw [ll] at hr
  by_cases z : r < rs.length
  · obtain ⟨r1, r2, r3, r4, r5⟩ := k5 r z
    rw [gD_l z, ceL_app (r + 1) (by omega), ceL_app r (by omega), a5, a6, a7, a8, if_neg (by omega), if_neg (by omega), if_neg (by omega), if_neg (by omega)]
    exact ⟨r1, r2, r3, r4, fun i hi => by rw [a9]; exact r5 i hi⟩
  · have z : r = rs.length := by omega
    subst z
    rw [gD_e, a5, a6, a7, a8, if_pos rfl, if_pos rfl, if_pos rfl, if_pos rfl, ceL_end]
    refine ⟨rfl, rfl, rfl, ?_, fun i hi => absurd hi (Nat.not_lt_zero i)⟩
    by_cases w : rs.length = 0
    · rw [if_pos w, w]; rfl
    · rw [if_neg w]
      have := (k5 (rs.length - 1) (by omega)).2.2.2.1
      rw [show rs.length - 1 + 1 = rs.length by omega] at this
      exact this
theorem KS.hb (B : KBs h0 b e) (K : KS h0 h a (rs ++ [(x, l)])) (hn : rs.length < 12) : HB h b e (rs.length + 1) := by
  obtain ⟨T, w, S⟩ := K.q B
  obtain ⟨F, k1, k2, k3, k4, k5⟩ := K
  have ll : (rs ++ [((x, l) : Rl)]).length = rs.length + 1 := by rw [List.length_append]; rfl
  rw [ll] at k3
  obtain ⟨B4, B5⟩ := B.2.2.2
  exact ⟨T, S, k3, by omega, by omega, w, fun y hy => by
    rw [F.2.2.1]
    exact ⟨fun z => B4 5 y (by omega) (by omega) hy z.symm, fun z => B4 6 y (by omega) (by omega) hy z.symm⟩, by rw [F.2.2.1]; exact B5 5 6 (by omega) (by omega) (by omega) (by omega) (by omega)⟩
/-- its condition is read -/
theorem KS.cond (B : KBs h0 b e) (K : KS h0 h a (rs ++ [(x, [])])) (C : CK h h1 c (rs.length + 1) (ceL rs rs.length) l) : KS h0 h1 c (rs ++ [(x, l)]) := by
  obtain ⟨F, k1, k2, k3, k4, k5⟩ := K
  obtain ⟨C1, c1, c2, c3, c4⟩ := C
  obtain ⟨B4, B5⟩ := B.2.2.2
  have g5 : gP h 5 5 = gP h0 5 5 := by rw [F.2.2.1]
  have g6 : gP h 5 6 = gP h0 5 6 := by rw [F.2.2.1]
  rw [g5] at c3
  rw [g6] at c4
  have ll : ∀ l, (rs ++ [((x, l) : Rl)]).length = rs.length + 1 := fun l => by rw [List.length_append]; rfl
  have cd : ∀ y, CD h y → y = 3 ∨ y = gP h0 5 5 ∨ y = gP h0 5 6 := fun y z => by
    unfold CD at z
    rw [g5, g6] at z
    exact z
  have o5 : gI h1 5 = gI h 5 := C1.2.2.2.2.2.2 5 (fun z => by
    rcases cd 5 z with z | z | z
    · omega
    · exact B4 5 5 (by omega) (by omega) (by omega) z.symm
    · exact B4 6 5 (by omega) (by omega) (by omega) z.symm)
  have oa : ∀ k, 2 ≤ k → k ≤ 4 → gI h1 (gP h0 5 k) = gI h (gP h0 5 k) := fun k hk hk2 => C1.2.2.2.2.2.2 _ (fun z => by
    rcases cd _ z with z | z | z
    · exact B4 k 3 hk (by omega) (by omega) z
    · exact B5 k 5 hk (by omega) (by omega) (by omega) (by omega) z
    · exact B5 k 6 hk (by omega) (by omega) (by omega) (by omega) z)
  have co : ∀ k, k ≤ rs.length → ∀ t, ceL (rs ++ [t]) k = ceL rs k := fun k hk t => ceL_app k hk
  refine ⟨F.trans (C1.mono (fun y z => ?_)), fun j hj => by rw [c1 j hj]; exact k1 j hj, c2, by rw [o5, k3, ll, ll], fun j hj => by rw [o5]; exact k4 j hj, fun r hr => ?_⟩
  · rcases cd y z with z | z | z
    · exact Or.inl z
    · exact Or.inr (Or.inr ⟨5, by omega, by omega, z⟩)
    · exact Or.inr (Or.inr ⟨6, by omega, by omega, z⟩)
  · rw [ll] at hr
    obtain ⟨r1, r2, r3, r4, r5⟩ := k5 r (by rw [ll]; exact hr)
    rw [oa 2 (by omega) (by omega), oa 3 (by omega) (by omega), oa 4 (by omega) (by omega), c3]
    by_cases z : r < rs.length
    · rw [gD_l z] at r1 r2 r3 r5 ⊢
      rw [co (r + 1) (by omega)] at r4 ⊢
      rw [co r (by omega)] at r5 ⊢
      rw [if_neg (by omega)]
      refine ⟨r1, r2, r3, r4, fun i hi => ?_⟩
      have m1 : ceL rs (r + 1) ≤ ceL rs rs.length := ceL_mono _ (by omega)
      have m2 : ceL rs (r + 1) = ceL rs r + (rs.getD r dRl).2.length := rfl
      rw [c4, if_neg (by omega)]
      exact r5 i hi
    · have z : r = rs.length := by omega
      subst z
      rw [gD_e] at r1 r2 r3 ⊢
      rw [if_pos rfl, ceL_end, co _ (Nat.le_refl _)]
      refine ⟨r1, r2, r3, rfl, fun i hi => ?_⟩
      have hi : i < l.length := hi
      rw [c4, if_pos (by omega), Nat.add_sub_cancel_left]
theorem c_eith (B : KBs h0 b e) (K : KS h0 h a (rs ++ [(x, [])])) (hn : rs.length < 12) (ae : a ≤ e) (hc : 2 * ceL rs rs.length ≤ a) : (∀ p, anP b e (atP b e 5) a = .inl p → ∃ h', RX10_atom 30 2 h 3 (nI 0) = some (nI 0, h') ∧ YX h0 h' p) ∧ ∀ q, anP b e (atP b e 5) a = .inr q → ∃ h' a', RX10_atom 30 2 h 3 (nI 0) = some (nI 1, h') ∧ KS h0 h' a' (rs ++ [(x, q.2)]) ∧ a' ≤ e ∧ ik b e a' = ik b e q.1 := by
  have H := K.hb B hn
  have g5 : gP h 5 5 = gP h0 5 5 := by rw [K.1.2.2.1]
  have g6 : gP h 5 6 = gP h0 5 6 := by rw [K.1.2.2.1]
  have C0 : CK h h a (rs.length + 1) (ceL rs rs.length) [] := ⟨Fr.rfl, fun _ _ => rfl, K.2.2.1, fun j => by
    by_cases z : j + 1 = rs.length + 1
    · rw [if_pos z, g5]
      have := (K.2.2.2.2.2 rs.length (by rw [List.length_append]; exact Nat.lt_succ_self _)).2.2.2.1
      rw [ceL_end] at this
      rw [show j = rs.length by omega]
      exact this
    · rw [if_neg z], fun j => by rw [if_neg (show ¬ (ceL rs rs.length ≤ j ∧ j < ceL rs rs.length + ([] : List Op).length) from fun z => by have : j < ceL rs rs.length + 0 := z.2; omega)]⟩
  obtain ⟨c1, c2⟩ := cf_an (u := 28) H (cf_at H 5 28 (by omega) (by omega)) (at_g 5) h a a [] C0 ae ae rfl (by show 2 * (ceL rs rs.length + 0) ≤ a; omega)
  refine ⟨fun p hp => ?_, fun q hq => ?_⟩
  · obtain ⟨h', k1, k2, k3, -⟩ := c1 p hp
    replace k1 : RX10_atom 30 2 h 3 (nI 0) = _ := k1
    refine ⟨h', k1, K.1.trans (k2.mono (fun y z => ?_)), k3⟩
    unfold CD at z
    rw [g5, g6] at z
    rcases z with z | z | z
    · exact Or.inl z
    · exact Or.inr (Or.inr ⟨5, by omega, by omega, z⟩)
    · exact Or.inr (Or.inr ⟨6, by omega, by omega, z⟩)
  · obtain ⟨h', a', k1, k2, k3, k4⟩ := c2 q hq
    replace k1 : RX10_atom 30 2 h 3 (nI 0) = _ := k1
    exact ⟨h', a', k1, K.cond B k2, k3, k4⟩
end
