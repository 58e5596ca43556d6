/-! the state behind the constructors -/
theorem st_o {B : Nat} {μ : Nat → Int32} {i c : Nat} (h : μ i = nI c) (hc : c ≤ B) : oN μ i B := ⟨c, hc, h⟩
def OPS : List Ox := xA 1 10 12 :: (o11 1 1 ++ (xA 73 11 58 :: (o12 73 73 ++ [xA 109 23 1])))
def GS : Hp := runO OPS hp0
theorem runO_cons (o : Ox) (r : List Ox) (h : Hp) : runO (o :: r) h = runO r (ap1 o h) := rfl
theorem runO_nil (h : Hp) : runO [] h = h := rfl
theorem mu_e (h : Hp) : mu h = 75 * nc h + ns h + (rmP h 19 + rmQ h (gP h 1 9) + rmQ h (gP h 1 11) + dkP h 48 + dkQ h (gP h 1 10)) := rfl
theorem law_st (L : Nat) (xs : Nat → Int32) : ML_law L xs hp0 = ML_law_23 L xs GS 1 73 109 (nI 0) := by
  have k1 : Kx (alc hp0 10 12) 1 10 [] := ⟨Nat.le_refl 1, rfl, fun t ht => absurd ht (List.not_mem_nil)⟩
  have z1 : sz (alc hp0 10 12) = 1 := rfl
  have e1 := rn11 (by omega) k1 z1
  obtain ⟨h4, h4e⟩ : ∃ g, g = runO (o11 1 1) (alc hp0 10 12) := ⟨_, rfl⟩
  rw [← h4e] at e1
  have z4 : sz h4 = 72 := by
    rw [h4e, mkO_sz, z1]
    exact mk_o11
  have z4' : sz h4 + 1 = 73 := by omega
  have a5 : alc h4 11 58 = ap1 (xA 73 11 58) h4 := alc_A z4
  have z5 : sz (ap1 (xA 73 11 58) h4) = 73 := rfl
  have k5 : Kx (ap1 (xA 73 11 58) h4) 73 11 [] := kx_N z4
  have e2 := rn12 (by omega) k5 z5
  obtain ⟨h8, h8e⟩ : ∃ g, g = runO (o12 73 73) (ap1 (xA 73 11 58) h4) := ⟨_, rfl⟩
  rw [← h8e] at e2
  have z8 : sz h8 = 108 := by
    rw [h8e, mkO_sz, z5]
    exact mk_o12
  have z8' : sz h8 + 1 = 109 := by omega
  have a9 : alc h8 23 1 = ap1 (xA 109 23 1) h8 := alc_A z8
  have a0 : alc hp0 10 12 = ap1 (xA 1 10 12) hp0 := alc_A (z := 0) rfl
  have eG : GS = ap1 (xA 109 23 1) h8 := by
    unfold GS OPS
    rw [runO_cons, ← a0, runO_app, ← h4e, runO_cons, runO_app, ← h8e, runO_cons, runO_nil]
  unfold ML_law
  rw [lt_eq, show sz hp0 + 1 = 1 from rfl, e1, ob_some, lt_eq, z4', a5, e2, ob_some, lt_eq, z8', a9, eG, ZL.1]
def lkO : List Ox → List (Nat × Nat × Nat)
  | [] => []
  | .inl (_, _, _) :: r => lkO r
  | .inr (.inl (a, i, v)) :: r => (a, i, v) :: lkO r
  | .inr (.inr (_, _, _)) :: r => lkO r
def nmO : List Ox → List (Nat × Nat)
  | [] => []
  | .inl (_, _, _) :: r => nmO r
  | .inr (.inl (_, _, _)) :: r => nmO r
  | .inr (.inr (a, i, _)) :: r => (a, i) :: nmO r
theorem lkO_r : ∀ (l : List Ox) (h : Hp) (a k : Nat), gP (runO l h) a k = gP h a k ∨ gP (runO l h) a k = 0 ∨ (a, k, gP (runO l h) a k) ∈ lkO l
  | [], h, a, k => Or.inl rfl
  | .inl (c, x, n) :: r, h, a, k => by
    rcases lkO_r r (ap1 (xA c x n) h) a k with e | e | e
    · have q : gP (ap1 (xA c x n) h) a k = if a = c then 0 else gP h a k := by
        show va_up (gP h) c (fun _ => 0) a k = _
        rw [up_at]
        by_cases z : a = c
        · rw [if_pos z, if_pos z]
        · rw [if_neg z, if_neg z]
      rw [q] at e
      by_cases z : a = c
      · rw [if_pos z] at e
        exact Or.inr (Or.inl e)
      · rw [if_neg z] at e
        exact Or.inl e
    · exact Or.inr (Or.inl e)
    · exact Or.inr (Or.inr e)
  | .inr (.inl (c, i, v)) :: r, h, a, k => by
    rcases lkO_r r (sP h c i v) a k with e | e | e
    · rw [sP_gP] at e
      by_cases z : a = c ∧ k = i
      · rw [if_pos z] at e
        refine Or.inr (Or.inr ?_)
        have e2 : gP (runO (xP c i v :: r) h) a k = v := e
        rw [e2, z.1, z.2]
        exact List.mem_cons_self
      · rw [if_neg z] at e
        exact Or.inl e
    · exact Or.inr (Or.inl e)
    · exact Or.inr (Or.inr (List.mem_cons_of_mem _ e))
  | .inr (.inr (c, i, v)) :: r, h, a, k => lkO_r r (sI h c i v) a k
theorem nmO_r : ∀ (l : List Ox) (h : Hp) (a k : Nat), gI (runO l h) a k = gI h a k ∨ gI (runO l h) a k = 0 ∨ (a, k) ∈ nmO l
  | [], h, a, k => Or.inl rfl
  | .inl (c, x, n) :: r, h, a, k => by
    rcases nmO_r r (ap1 (xA c x n) h) a k with e | e | e
    · have q : gI (ap1 (xA c x n) h) a k = if a = c then 0 else gI h a k := by
        show va_up (gI h) c (fun _ => 0) a k = _
        rw [up_at]
        by_cases z : a = c
        · rw [if_pos z, if_pos z]
        · rw [if_neg z, if_neg z]
      rw [q] at e
      by_cases z : a = c
      · rw [if_pos z] at e
        exact Or.inr (Or.inl e)
      · rw [if_neg z] at e
        exact Or.inl e
    · exact Or.inr (Or.inl e)
    · exact Or.inr (Or.inr e)
  | .inr (.inl (c, i, v)) :: r, h, a, k => nmO_r r (sP h c i v) a k
  | .inr (.inr (c, i, v)) :: r, h, a, k => by
    rcases nmO_r r (sI h c i v) a k with e | e | e
    · rw [gI2] at e
      by_cases z : a = c ∧ k = i
      · refine Or.inr (Or.inr ?_)
        rw [z.1, z.2]
        exact List.mem_cons_self
      · rw [if_neg z] at e
        exact Or.inl e
    · exact Or.inr (Or.inl e)
    · exact Or.inr (Or.inr (List.mem_cons_of_mem _ e))
theorem gs_P (a k : Nat) : gP GS a k = 0 ∨ (a, k, gP GS a k) ∈ lkO OPS := by
  rcases lkO_r OPS hp0 a k with e | e | e
  · exact Or.inl e
  · exact Or.inl e
  · exact Or.inr e
theorem gs_I (a k : Nat) : gI GS a k = nI 0 ∨ (a, k) ∈ nmO OPS := by
  rcases nmO_r OPS hp0 a k with e | e | e
  · exact Or.inl e
  · exact Or.inl e
  · exact Or.inr e
theorem gs_z {a : Nat} (h : ∀ e ∈ nmO OPS, e.1 ≠ a) (k : Nat) : gI GS a k = nI 0 := by
  rcases gs_I a k with e | e
  · exact e
  · exact absurd (Eq.refl a) (h _ e)
theorem gs_n {a : Nat} (h : ∀ e ∈ lkO OPS, e.1 ≠ a) (k : Nat) : gP GS a k = 0 := by
  rcases gs_P a k with e | e
  · exact e
  · exact absurd (Eq.refl a) (h _ e)
def tgL : List (List Nat) := [[], [], [0], [3], [4, 3], [5, 3], [2, 5, 3], [3, 5, 3], [4, 5, 3], [5, 5, 3], [6, 5, 3], [7, 5, 3], [8, 5, 3], [4], [0, 4], [1, 4], [2, 4], [3, 4], [4, 4], [5], [1, 5], [2, 5], [4, 5], [2, 4, 5], [3, 4, 5], [4, 4, 5], [5, 4, 5], [6, 4, 5], [7, 4, 5], [8, 4, 5], [5, 5], [6, 5], [8, 5], [10, 5], [12, 5], [13, 5], [14, 5], [8, 14, 5], [9, 14, 5], [10, 14, 5], [11, 14, 5], [12, 14, 5], [13, 14, 5], [15, 5], [16, 5], [17, 5], [18, 5], [19, 5], [6], [0, 6], [1, 6], [2, 6], [3, 6], [4, 6], [5, 6], [7, 6], [8, 6], [9, 6], [10, 6], [7], [2, 7], [3, 7], [4, 7], [5, 7], [6, 7], [7, 7], [8, 7], [9, 7], [8], [1, 8], [2, 8], [3, 8], [4, 8], [1000], [1, 1000], [2, 1000], [3, 1000], [5, 1000], [12, 1000], [13, 1000], [14, 1000], [15, 1000], [16, 1000], [18, 1000], [21, 1000], [22, 1000], [23, 1000], [31, 1000], [32, 1000], [33, 1000], [34, 1000], [36, 1000], [37, 1000], [38, 1000], [39, 1000], [40, 1000], [41, 1000], [42, 1000], [43, 1000], [44, 1000], [45, 1000], [46, 1000], [47, 1000], [48, 1000], [49, 1000], [50, 1000], [53, 1000], [54, 1000], [55, 1000], [1001]]
def tgS (x : Nat) : List Nat := tgL.getD x []
theorem gs_sz : sz GS = 109 := by decide +kernel
theorem gs_nc : nc GS = 109 ∧ ns GS = 1039998 := by decide +kernel
theorem gs_own : Own tgS GS := by
  have d : ∀ e ∈ lkO OPS, e.1 ≠ 0 ∧ e.2.2 ≤ 109 ∧ (e.2.2 ≠ 0 → (e.1 = 3 → e.2.1 ≠ 0) → tgS e.2.2 = e.2.1 :: tgS e.1) := by decide +kernel
  refine ⟨by decide +kernel, by decide +kernel, by decide +kernel, fun k => ?_, fun a k h0 h3 => ?_, fun a k => ?_⟩
  · rcases gs_P 0 k with e | e
    · exact e
    · exact absurd rfl (d _ e).1
  · obtain ⟨v, hv⟩ : ∃ v, v = gP GS a k := ⟨_, rfl⟩
    have e := gs_P a k
    rw [← hv] at e h0 ⊢
    rcases e with e | e
    · exact absurd e h0
    · exact (d _ e).2.2 h0 h3
  · rw [gs_sz]
    obtain ⟨v, hv⟩ : ∃ v, v = gP GS a k := ⟨_, rfl⟩
    have e := gs_P a k
    rw [← hv] at e ⊢
    rcases e with e | e
    · rw [e]; omega
    · exact (d _ e).2.1
theorem gs_XS : XS GS := by
  unfold XS
  decide +kernel
theorem gs_RS : RS GS := by
  unfold RS
  exact ⟨by decide +kernel, by decide +kernel, by decide +kernel, by decide +kernel, by decide +kernel, by decide +kernel, by decide +kernel, by decide +kernel, by decide +kernel, by decide +kernel, by decide +kernel, by decide +kernel, by decide +kernel, by decide +kernel, by decide +kernel, by decide +kernel, by decide +kernel, by decide +kernel, by decide +kernel, by decide +kernel, by decide +kernel, by decide +kernel, by decide +kernel, by decide +kernel, by decide +kernel, by decide +kernel, by decide +kernel, by decide +kernel, by decide +kernel, by decide +kernel, by decide +kernel, by decide +kernel, by decide +kernel, by decide +kernel, by decide +kernel, by decide +kernel, by decide +kernel, by decide +kernel, by decide +kernel, by decide +kernel, by decide +kernel, by decide +kernel, by decide +kernel, by decide +kernel, by decide +kernel, by decide +kernel, by decide +kernel, by decide +kernel, by decide +kernel, by decide +kernel, by decide +kernel, by decide +kernel, by decide +kernel, by decide +kernel, by decide +kernel, by decide +kernel, by decide +kernel, by decide +kernel, by decide +kernel, by decide +kernel, by decide +kernel, by decide +kernel, by decide +kernel, by decide +kernel, by decide +kernel, by decide +kernel, by decide +kernel, by decide +kernel, by decide +kernel, by decide +kernel, by decide +kernel, by decide +kernel, by decide +kernel, by decide +kernel, by decide +kernel, by decide +kernel, by decide +kernel, by decide +kernel, by decide +kernel, by decide +kernel, by decide +kernel, by decide +kernel, by decide +kernel, by decide +kernel, by decide +kernel, by decide +kernel, by decide +kernel, by decide +kernel, by decide +kernel, by decide +kernel, by decide +kernel, by decide +kernel, by decide +kernel, by decide +kernel, by decide +kernel, by decide +kernel, by decide +kernel, by decide +kernel, by decide +kernel, by decide +kernel, by decide +kernel, by decide +kernel, by decide +kernel, by decide +kernel, by decide +kernel, by decide +kernel⟩
theorem gs_sty {y : Nat} (h : y = 5 ∨ y = 22) : StyS GS y := by
  unfold StyS ar
  rcases h with rfl | rfl
  · decide +kernel
  · decide +kernel
theorem gs_13 : PtS GS 13 := by
  unfold PtS ar zO
  refine ⟨by decide +kernel, by decide +kernel, by decide +kernel, by decide +kernel, by decide +kernel, by decide +kernel, by decide +kernel, by decide +kernel, by decide +kernel, fun b => Or.inl ?_⟩
  rw [show gP GS 13 2 = 16 by decide +kernel]
  exact gs_z (by decide +kernel) b
theorem gs_XS2 : XS2 GS := by
  unfold XS2 ar
  exact ⟨by decide +kernel, by decide +kernel, by decide +kernel, by decide +kernel, by decide +kernel, by decide +kernel, by decide +kernel, by decide +kernel, by decide +kernel, by decide +kernel, by decide +kernel, by decide +kernel, gs_sty (Or.inl rfl), gs_13⟩
theorem gs_19 : gP GS 19 5 = 30 ∧ gP GS 19 2 = 21 ∧ gP GS 19 8 = 32 ∧ gP GS 19 10 = 33 ∧ gP GS 19 4 = 22 ∧ gP GS 19 14 = 36 ∧ gP GS 48 4 = 53 := by decide +kernel
theorem gs_nn : (∀ q, gP GS (gP GS 19 5) q = 0) ∧ (∀ q, gP GS (gP GS 19 2) q = 0) ∧ (∀ q, gP GS (gP GS 19 8) q = 0) ∧ (∀ q, gP GS (gP GS 19 10) q = 0) ∧ ∀ q, gP GS (gP GS 48 4) q = 0 := by
  obtain ⟨e1, e2, e3, e4, -, -, e5⟩ := gs_19
  rw [e1, e2, e3, e4, e5]
  exact ⟨gs_n (by decide +kernel), gs_n (by decide +kernel), gs_n (by decide +kernel), gs_n (by decide +kernel), gs_n (by decide +kernel)⟩
theorem gs_RmS : RmS GS 19 := by
  obtain ⟨n5, n2, n8, n10, -⟩ := gs_nn
  have a : ar GS 19 1 20 54 ∧ ar GS 19 2 25 10 ∧ ar GS 19 5 26 100 ∧ ar GS 19 6 20 20 ∧ ar GS 19 8 27 4 ∧ ar GS 19 10 28 300 ∧ ar GS 19 12 20 32 ∧ ar GS 19 13 20 32 ∧ ar GS 19 15 20 9 ∧ ar GS 19 16 20 27 ∧ ar GS 19 17 20 27 ∧ ar GS 19 18 21 512 ∧ ar GS 19 19 21 512 := by
    unfold ar
    decide +kernel
  obtain ⟨a1, a2, a5, a6, a8, a10, a12, a13, a15, a16, a17, a18, a19⟩ := a
  obtain ⟨-, -, -, -, e4, e14, -⟩ := gs_19
  refine ⟨by decide +kernel, a1, a2, a5, a6, a8, a10, a12, a13, a15, a16, a17, a18, a19, ⟨by decide +kernel, by rw [e4]; exact gs_sty (Or.inr rfl), by decide +kernel, by decide +kernel⟩, ⟨by decide +kernel, ?_⟩, fun q hq => absurd (n5 q) hq, fun q hq => absurd (n2 q) hq, fun q hq => absurd (n8 q) hq, fun q hq => absurd (n10 q) hq⟩
  unfold BrS ar
  decide +kernel
theorem gs_m0 {x : Nat} (h : x < 16 ∨ (70 ≤ x ∧ x < 327382)) : gI GS 74 x = nI 0 := by
  have d : ∀ e ∈ nmO OPS, e.1 = 74 → (16 ≤ e.2 ∧ e.2 < 70) ∨ 327382 ≤ e.2 := by decide +kernel
  rcases gs_I 74 x with e | e
  · exact e
  · exfalso
    have := d _ e rfl
    have this : (16 ≤ x ∧ x < 70) ∨ 327382 ≤ x := this
    omega
theorem gs_mN {x : Nat} (h : x < 16 ∨ (70 ≤ x ∧ x < 327382)) : Nn (gI GS 74) x = 0 := by
  unfold Nn
  rw [gs_m0 h, nCl (by omega)]
theorem gs_m4 : ∀ i, i < 54 → gI GS 74 (16 + i) = nI 4 := by decide +kernel
theorem gs_m6 : ∀ p, p < 6 → gI GS 74 (327382 + 185 * p) = nI 1 ∧ gI GS 74 (327382 + 185 * p + 1) = nI 20 ∧ gI GS 74 (327382 + 185 * p + 2) = nI 0 ∧ gI GS 74 (327382 + 185 * p + 3) = -1 ∧ gI GS 74 (327382 + 185 * p + 4) = nI 0 := by decide +kernel
theorem gs_RmV : RmV GS 19 (gI GS 74) := by
  unfold RmV
  have z : ∀ x, x < 16 → gI GS 74 x = nI 0 := fun x hx => gs_m0 (Or.inl hx)
  have y : ∀ x, x < 16 → Nn (gI GS 74) x = 0 := fun x hx => gs_mN (Or.inl hx)
  rw [z 0 (by omega), z 1 (by omega), z 2 (by omega), z 3 (by omega), z 4 (by omega), y 1 (by omega), y 3 (by omega), y 4 (by omega), y 2 (by omega), y 7 (by omega)]
  refine ⟨by decide +kernel, by decide +kernel, by decide +kernel, by decide +kernel, by decide +kernel, fun i hi => ?_, fun s hs => absurd hs (by omega), fun q hq => ?_, fun q hq => absurd hq (by omega), fun q hq => absurd hq (by omega), fun q hq => absurd hq (by omega), fun q hq => absurd hq (by omega)⟩
  · rw [gs_m4 i hi]
    exact (by decide +kernel : ∀ i, i < 54 → gI GS (gP GS 19 1) i = nI 4) i hi
  · have := hq.2.1
    rw [y 1 (by omega)] at this
    omega
theorem gs_DkS : DkS GS 48 := by
  have a : ar GS 48 0 20 6 ∧ ar GS 48 1 20 6 ∧ ar GS 48 2 20 6 ∧ ar GS 48 3 20 6 ∧ ar GS 48 4 24 54 ∧ ar GS 48 5 20 54 ∧ ar GS 48 7 20 200 ∧ ar GS 48 8 20 200 ∧ ar GS 48 9 20 200 ∧ ar GS 48 10 20 200 := by
    unfold ar
    decide +kernel
  obtain ⟨a0, a1, a2, a3, a4, a5, a7, a8, a9, a10⟩ := a
  exact ⟨by decide +kernel, a0, a1, a2, a3, a4, a5, a7, a8, a9, a10, fun r hr => absurd (gs_nn.2.2.2.2 r) hr⟩
theorem gs_DkV : DkV GS 48 (gI GS 74) := by
  have y : ∀ x, x < 16 → Nn (gI GS 74) x = 0 := fun x hx => gs_mN (Or.inl hx)
  have d : ∀ p, p < 6 → gI GS (gP GS 48 0) p = nI 1 ∧ gI GS (gP GS 48 1) p = nI 20 ∧ gI GS (gP GS 48 2) p = -1 ∧ gI GS (gP GS 48 3) p = nI 0 ∧ gI GS (gP GS 48 5) p = nI 0 := by decide +kernel
  unfold DkV
  rw [gs_m0 (x := 6) (by omega), gs_m0 (x := 5) (by omega), y 6 (by omega), y 5 (by omega)]
  refine ⟨by decide +kernel, by decide +kernel, fun p hp => ?_, fun e he => absurd he (by omega), fun t ht => absurd ht (by omega)⟩
  obtain ⟨d1, d2, d3, d4, d5⟩ := d p hp
  obtain ⟨f1, f2, f3, f4, f5⟩ := gs_m6 p hp
  have f6 : Nn (gI GS 74) (327382 + 185 * p + 2) = 0 := by
    unfold Nn
    rw [f3, nCl (by omega)]
  rw [d1, d2, d3, d4, d5, f1, f2, f3, f4, f5, f6]
  exact ⟨rfl, rfl, rfl, rfl, rfl, fun z => absurd rfl z, fun i hi => absurd hi (by omega)⟩
theorem gs_MI : MI (gI GS 74) := by
  have z : ∀ x, x < 16 → gI GS 74 x = nI 0 := fun x hx => gs_m0 (Or.inl hx)
  have y : ∀ x, x < 16 → Nn (gI GS 74) x = 0 := fun x hx => gs_mN (Or.inl hx)
  have nv : ∀ q, ¬ vP (gI GS 74) q := fun q hq => by
    have := hq.2.1
    rw [y 1 (by omega)] at this
    omega
  refine ⟨⟨st_o (z 0 (by omega)) (by omega), st_o (z 1 (by omega)) (by omega), st_o (z 2 (by omega)) (by omega), st_o (z 3 (by omega)) (by omega), st_o (z 4 (by omega)) (by omega), st_o (z 5 (by omega)) (by omega), st_o (z 6 (by omega)) (by omega), ?_, fun i hi => ⟨st_o (gs_m4 i hi) (by omega), ?_⟩, fun s hs => ?_⟩, fun q hq => absurd hq (nv q), fun s hs => ?_, fun k hk => ?_, ⟨fun p hp => ?_, fun e he => ?_, fun i hi => ?_, fun t ht => ?_⟩, fun s hs => ?_, ⟨fun q hq _ => ?_, fun k _ hk i h1 h2 => ?_⟩, ⟨fun q hq => absurd hq (nv q), fun s hs => ?_⟩⟩
  · have e := y 0 (by omega)
    exact (z 7 (by omega)).trans (congrArg nI (by omega))
  · unfold Nn
    rw [gs_m4 i hi, nCl (by omega)]
    omega
  · rw [y 1 (by omega)] at hs
    omega
  · rw [y 4 (by omega)] at hs
    omega
  · rw [y 3 (by omega)] at hk
    omega
  · obtain ⟨f1, f2, f3, f4, f5⟩ := gs_m6 p hp
    refine ⟨st_o f1 (by omega), ?_, st_o f2 (by omega), ?_, st_o f3 (by omega)⟩
    · unfold Nn
      rw [f1, nCl (by omega)]
      omega
    · unfold Nn
      rw [f2, nCl (by omega)]
      omega
  · rw [y 6 (by omega)] at he
    omega
  · rw [y 7 (by omega)] at hi
    omega
  · rw [y 5 (by omega)] at ht
    omega
  · rw [y 2 (by omega)] at hs
    omega
  · exact ⟨gs_m0 (by omega), gs_m0 (by omega), gs_m0 (by omega)⟩
  · exact gs_m0 (by omega)
  · rw [y 4 (by omega)] at hs
    omega
theorem gs_TpV : TpV GS (gI GS 77) (nI 0) (-1) := by
  refine ⟨by decide +kernel, ⟨0, by omega, rfl⟩, by decide +kernel, fun j hj => ?_⟩
  have e : gI GS 77 j = nI 0 := gs_z (by decide +kernel) j
  refine ⟨?_, st_o e (by omega)⟩
  show gI GS 2 j = bS (gI GS 77 j).toNatClampNeg
  rw [gs_z (a := 2) (by decide +kernel) j, e, nCl (by omega)]
  unfold bS
  rw [if_pos (by omega)]
theorem gs_CSt : CSt tgS GS (gI GS 74) (gI GS 75) (nI 0) (gI GS 77) (nI 0) (-1) :=
  ⟨gs_own, gs_XS, gs_XS2, gs_RmS, gs_RmV, gs_DkS, gs_DkV, gs_MI, gs_TpV, Or.inl ⟨rfl, by decide +kernel, by decide +kernel⟩, fun z => absurd (by decide +kernel : gP GS 1 11 = 0) z⟩
theorem gs_RSt : RSt GS (gI GS 74) (gI GS 75) (nI 0) (gI GS 77) (nI 0) (-1) :=
  ⟨gs_RS, rfl, rfl, by decide +kernel, rfl, by decide +kernel, by decide +kernel⟩
theorem gs_mu : mu GS = 5615914 := by
  obtain ⟨n5, n2, n8, n10, n4⟩ := gs_nn
  have r : rmP GS 19 = 1509822 := by
    unfold rmP
    rw [sumN_k (a := 4624) 300 (fun i _ => by unfold slP; rw [n10, if_pos rfl]), sumN_k (a := 1103) 100 (fun i _ => by rw [n5, if_pos rfl]), sumN_k (a := 989) 10 (fun i _ => by rw [n2, if_pos rfl]), sumN_k (a := 608) 4 (fun i _ => by rw [n8, if_pos rfl])]
  have d : dkP GS 48 = 13770 := by
    unfold dkP
    rw [sumN_k (a := 255) 54 (fun i _ => by rw [n4, if_pos rfl])]
  have q9 : rmQ GS (gP GS 1 9) = 1514305 := by
    rw [show gP GS 1 9 = 0 by decide +kernel]
    exact if_pos (Eq.refl 0)
  have q11 : rmQ GS (gP GS 1 11) = 1514305 := by
    rw [show gP GS 1 11 = 0 by decide +kernel]
    exact if_pos (Eq.refl 0)
  have q10 : dkQ GS (gP GS 1 10) = 15539 := by
    rw [show gP GS 1 10 = 0 by decide +kernel]
    exact if_pos (Eq.refl 0)
  have e := mu_e GS
  have n1 := gs_nc.1
  have n2 := gs_nc.2
  omega
theorem gs_LSt : LSt GS 5615914 := ⟨tgS, _, _, _, _, _, _, gs_CSt, gs_RSt, by rw [gs_sz]; exact Nat.le_refl _, by rw [gs_mu]; exact Nat.le_refl _⟩
