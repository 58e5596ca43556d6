/-! read, broken: one slug, one machine -/
section
variable {tg : Nat → List Nat} {h h' : Hp} {m m' k t : Nat → Int32} {i n f : Int32}
theorem MI.slg {s0 : Nat} (I : MI m) (hs0 : s0 < Nn m 4) (H : ∀ x, (x < 64630 + 852 * s0 ∨ 64630 + 852 * s0 + 852 ≤ x) → m' x = m x) (H4 : m' (64630 + 852 * s0 + 4) = m (64630 + 852 * s0 + 4) ∧ m' (64630 + 852 * s0 + 5) = m (64630 + 852 * s0 + 5) ∧ m' (64630 + 852 * s0 + 6) = m (64630 + 852 * s0 + 6)) (H3 : ∀ x, x = 3 ∨ x = 9 ∨ (12 ≤ x ∧ x < 432) → m' (64630 + 852 * s0 + x) = m (64630 + 852 * s0 + x)) (hs : MIs m' (64630 + 852 * s0) s0) : MI m' := by
  obtain ⟨B, Ip, Is, Im, Ih, Iy, Iz, Iq⟩ := I
  obtain ⟨⟨-, f0⟩, ⟨-, f1⟩, ⟨-, f2⟩, ⟨-, f3⟩, ⟨-, f4⟩, -⟩ := B.f
  have Hb : ∀ x, x < 130 → m' x = m x := fun x hx => H x (by omega)
  refine ⟨B.mc Hb, fun q hq => ?_, fun s hs1 => ?_, fun k hk => ?_, Ih.mc B (fun x hx => H x (by omega)) (fun x h1 h2 => H x (by omega)), fun y hy => ?_, Iz.mc (fun x hx => H x (by omega)) (fun q h1 h2 y h3 h4 => H _ (by omega)) (fun q h1 h2 y h3 h4 => H _ (by omega)), Iq.mc (fun x hx => H x (by omega)) Ip (H 4 (by omega)) Is (fun s hs x hx => by
    by_cases z : s = s0
    · rw [z]; exact H3 x hx
    · exact H _ (by omega))⟩
  · have hq' := hq.b' Hb
    have hb := hq.1
    refine (Ip q hq').mc fun x hx => ?_
    rcases hx with rfl | ⟨h1, h2⟩ | ⟨l, hl, hz, h1, h2⟩
    · exact H _ (by omega)
    · exact H _ (by omega)
    · by_cases z : Nn m (130 + 645 * q + 45 + l) - 1 = s0
      · rw [z] at h1 h2
        rcases (show x = 64630 + 852 * s0 + 4 ∨ x = 64630 + 852 * s0 + 5 ∨ x = 64630 + 852 * s0 + 6 by omega) with rfl | rfl | rfl
        · exact H4.1
        · exact H4.2.1
        · exact H4.2.2
      · exact H _ (by omega)
  · rw [Nn.c (H 4 (by omega))] at hs1
    by_cases z : s = s0
    · subst z; exact hs
    · refine (Is s hs1).mc Hb (fun x hx => H _ (by omega)) fun hz => ?_
      obtain ⟨-, -, -, -, -, -, -, -, -, -, -, -, -, -, -, -, a16⟩ := Is s hs1
      obtain ⟨c1, c2, c3, -⟩ := a16 hz
      have := c3.1
      have := (c1.eq (by omega)).2
      exact ⟨H _ (by omega), H _ (by omega), H _ (by omega)⟩
  · rw [Nn.c (H 3 (by omega))] at hk
    refine (Im k hk).mc hk f3 Hb (fun x h1 h2 => H _ (by omega)) (fun j hj y h1 h2 => ?_) (fun k' hk' => ((Im k' hk').2.2.2.1.eq (by omega)).2)
    have := ((Im k hk).2.2.2.2 j hj).2.1.1
    exact H _ (by omega)
  · rw [Nn.c (H 2 (by omega))] at hy
    exact (Iy y hy).mc fun x hx => H _ (by omega)
theorem MI.mch {k0 : Nat} (I : MI m) (hk0 : k0 < Nn m 3) (H : ∀ x, (x < 320230 + 183 * k0 ∨ 320230 + 183 * k0 + 183 ≤ x) → m' x = m x) (hm : ∀ k, k < Nn m 3 → MIm m' k) : MI m' := by
  obtain ⟨B, Ip, Is, Im, Ih, Iy, Iz, Iq⟩ := I
  obtain ⟨⟨-, f0⟩, ⟨-, f1⟩, ⟨-, f2⟩, ⟨-, f3⟩, ⟨-, f4⟩, -⟩ := B.f
  have Hb : ∀ x, x < 130 → m' x = m x := fun x hx => H x (by omega)
  refine ⟨B.mc Hb, fun q hq => ?_, fun s hs1 => ?_, fun k hk => ?_, Ih.mc B (fun x hx => H x (by omega)) (fun x h1 h2 => H x (by omega)), fun y hy => ?_, Iz.mc (fun x hx => H x (by omega)) (fun q h1 h2 y h3 h4 => H _ (by omega)) (fun q h1 h2 y h3 h4 => H _ (by omega)), Iq.mc (fun x hx => H x (by omega)) Ip (H 4 (by omega)) Is (fun s hs x hx => H _ (by omega))⟩
  · have hq' := hq.b' Hb
    have hb := hq.1
    have hI := Ip q hq'
    refine hI.mc fun x hx => ?_
    rcases hx with rfl | ⟨h1, h2⟩ | ⟨l, hl, hz, h1, h2⟩
    · exact H _ (by omega)
    · exact H _ (by omega)
    · obtain ⟨x3, hx3, e3⟩ := hI.2.2.2.2.1
      have hset : m (130 + 645 * q + 3) = nI 1 := by
        rcases (show x3 = 0 ∨ x3 = 1 by omega) with rfl | rfl
        · have := hI.2.2.2.2.2.2.2.2.2.2.1 e3
          unfold Nn at hl
          rw [this, nCl (by omega)] at hl
          omega
        · exact e3
      obtain ⟨-, -, -, c3⟩ := hI.2.2.2.2.2.2.2.2.2.2.2 hset
      obtain ⟨-, -, -, d4⟩ := c3 l hl
      have := (d4 hz).1
      exact H _ (by omega)
  · rw [Nn.c (H 4 (by omega))] at hs1
    refine (Is s hs1).mc Hb (fun x hx => H _ (by omega)) fun hz => ?_
    obtain ⟨-, -, -, -, -, -, -, -, -, -, -, -, -, -, -, -, a16⟩ := Is s hs1
    obtain ⟨c1, c2, c3, -⟩ := a16 hz
    have := c3.1
    have := (c1.eq (by omega)).2
    exact ⟨H _ (by omega), H _ (by omega), H _ (by omega)⟩
  · rw [Nn.c (H 3 (by omega))] at hk
    exact hm k hk
  · rw [Nn.c (H 2 (by omega))] at hy
    exact (Iy y hy).mc fun x hx => H _ (by omega)
/-- what changes on both sides in the room -/
theorem Pr.room {cm : Nat → Nat} {X : Option ((Int32 ⊕ Nat) × Hp)} {Y : Hp → Option (Int32 × Hp)} {h1 : Hp} {D : Nat → Prop} (C : CSt tg h m k i t n f) (R : RSt h m k i t n f) (v : Int32) (hX : X = some (.inl v, h1)) (F : Fr D h h1) (hD : ∀ b, D b → b ≠ 0 ∧ [5] <:+ tg b) (S' : RmS h1 19) (V' : RmV h1 19 m') (I' : MI m') (H : ∀ x, rgDk x → m' x = m x) (hY : ∀ h', RSt h' m k i t n f → ∃ h2, Y h' = some (v, h2) ∧ Fr Rc h' h2 ∧ RSt h2 m' k i t n f ∧ gI h2 73 0 = nI 0) : Pr cm Gq h X Y := by
  have hR : ∀ b, D b → ¬ (73 ≤ b ∧ b ≤ 109) := fun b hb => nr C.1 R.1 (by omega) (by omega) (hD b hb).2
  refine ⟨.inl v, h1, tg, m', k, i, t, n, f, hX, C.room F hD S' V' I' H, F.rp hR, F.gq, fun h' o => ?_⟩
  have R1 : RSt h1 m k i t n f := R.rp (F.rp hR)
  obtain ⟨h2, e1, e2, e3, e4⟩ := hY h' (R1.ou o)
  exact ⟨v, h2, e1, e2, e3, e4, Eq.refl _⟩
/-- one number of m is written -/
theorem RSt.m1 {x : Nat} {v : Int32} (R : RSt h m k i t n f) : RSt (sI h 74 x v) (va_up m x v) k i t n f := by
  obtain ⟨r0, r1, r2, r3, r4, r5, r6⟩ := R
  refine ⟨r0.sI, ?_, ?_, ?_, ?_, ?_, ?_⟩
  · rw [gI_sI, if_pos rfl, r1]
  · rw [gI_sI, if_neg (by omega)]; exact r2
  · rw [gI_sI, if_neg (by omega)]; exact r3
  · rw [gI_sI, if_neg (by omega)]; exact r4
  · rw [gI_sI, if_neg (by omega)]; exact r5
  · rw [gI_sI, if_neg (by omega)]; exact r6
theorem fr74 {x : Nat} {v : Int32} : Fr Rc h (sI h 74 x v) := Fr.sI (S := Rc) ⟨by omega, by omega⟩
theorem rdA : ∀ x, x < 2 → ∀ y, y < 2 → ∀ r, r < 2 → ((nI (x + 2 * y) &&& (nI 1 <<< (nI r &&& nI 31)) = nI 0) ↔ (if r = 0 then x else y) = 0) := by decide
theorem rdB : ∀ x, x < 2 → ∀ y, y < 2 → nI (x + 2 * y) ||| (nI 1 <<< (nI 0 &&& nI 31)) = nI (1 + 2 * y) ∧ nI (x + 2 * y) ||| (nI 1 <<< (nI 1 &&& nI 31)) = nI (x + 2 * 1) := by decide
/-- the cells of slug s: their names -/
theorem sl_t (O : Own tg h) (X : XS h) (S : RmS h 19) {s : Nat} (hz : gP h (gP h 19 10) s ≠ 0) : tg (gP h (gP h 19 10) s) = [s, 10, 5] ∧ gP h (gP h 19 10) s ≠ 3 := by
  obtain ⟨-, -, t3, -, -, -, t19, -⟩ := tgs O X
  have z10 := S.2.2.2.2.2.2.1.1
  have t1 := tgc O z10 (by omega)
  rw [t19] at t1
  have n3 : gP h 19 10 ≠ 3 := ne_t (tg := tg) (by rw [t1, t3]; simp)
  have t2 := tgc O hz n3
  rw [t1] at t2
  exact ⟨t2, ne_t (tg := tg) (by rw [t2, t3]; simp)⟩
theorem ma_t (O : Own tg h) (X : XS h) (S : RmS h 19) {s : Nat} (hz : gP h (gP h 19 8) s ≠ 0) : tg (gP h (gP h 19 8) s) = [s, 8, 5] ∧ gP h (gP h 19 8) s ≠ 3 := by
  obtain ⟨-, -, t3, -, -, -, t19, -⟩ := tgs O X
  have z10 := S.2.2.2.2.2.1.1
  have t1 := tgc O z10 (by omega)
  rw [t19] at t1
  have n3 : gP h 19 8 ≠ 3 := ne_t (tg := tg) (by rw [t1, t3]; simp)
  have t2 := tgc O hz n3
  rw [t1] at t2
  exact ⟨t2, ne_t (tg := tg) (by rw [t2, t3]; simp)⟩
theorem p_read (C : CSt tg h m k i t n f) (R : RSt h m k i t n f) (w v : Int32) : Pr (cm [1]) Gq h (MX11_read h 1 w v) (fun h' => MX12_read h' 73 w v) := by
  obtain ⟨O, X, X2, S, V, D, DV, I, T, Im, Tr⟩ := id C
  obtain ⟨-, -, t3, -, -, -, t19, -⟩ := tgs O X
  have thr : ∀ h', RSt h' m k i t n f → ((∀ j, j < 2 → w ≠ nI j) ∨ ∀ j, j < Nn m 4 → v ≠ nI j) → MX12_read h' 73 w v = some (nI 0, sI h' 73 0 (nI 1)) := fun h' R' hb => by
    unfold MX12_read
    rcases ni_d w 2 with hw | ⟨j, hj, rfl⟩
    · simp (disch := omega) only [↓reduceIte, Nat.reduceLT, Nat.reduceLeDiff, Nat.reduceEqDiff, ZL, nAdd, nMul, nSub, nLt, nLe, nEq, nCl, nDiv, nRem2, nM1, nM2, nM3, nM4, nM5, nM6, gg_in, gg_rf, gg_T, if_true, if_false, ↓lt_eq, ob_some, b2_some, up1_some, kd_sI, ln_sI, gP_sI, gI_sI, kd_rI, ln_rI, gP_rI, gI_rI, kd_bmp, ln_bmp, gP_bmp, gI_bmp, up_at, i0, i1, r_isIn_f (b := 1) (by omega) hw, MX12_read_18]
      simp (disch := omega) only [MX12_read_23, ↓reduceIte, Nat.reduceLT, Nat.reduceLeDiff, Nat.reduceEqDiff, ZL, nAdd, nMul, nSub, nLt, nLe, nEq, nCl, nDiv, nRem2, nM1, nM2, nM3, nM4, nM5, nM6, gg_in, gg_rf, gg_T, if_true, if_false, ↓lt_eq, ob_some, b2_some, up1_some, kd_sI, ln_sI, gP_sI, gI_sI, kd_rI, ln_rI, gP_rI, gI_rI, kd_bmp, ln_bmp, gP_bmp, gI_bmp, up_at, i0, i1, RS.f R'.1]
    · have hv : ∀ j, j < Nn m 4 → v ≠ nI j := by
        rcases hb with hb | hb
        · exact absurd rfl (hb j hj)
        · exact hb
      simp (disch := omega) only [↓reduceIte, Nat.reduceLT, Nat.reduceLeDiff, Nat.reduceEqDiff, ZL, nAdd, nMul, nSub, nLt, nLe, nEq, nCl, nDiv, nRem2, nM1, nM2, nM3, nM4, nM5, nM6, gg_in, gg_rf, gg_T, if_true, if_false, ↓lt_eq, ob_some, b2_some, up1_some, kd_sI, ln_sI, gP_sI, gI_sI, kd_rI, ln_rI, gP_rI, gI_rI, kd_bmp, ln_bmp, gP_bmp, gI_bmp, up_at, i0, i1, r_isIn_t, RS.f R'.1, r_isSlug_f R'.1 R'.2.1 I.1 hv, MX12_read_18]
      simp (disch := omega) only [MX12_read_23, ↓reduceIte, Nat.reduceLT, Nat.reduceLeDiff, Nat.reduceEqDiff, ZL, nAdd, nMul, nSub, nLt, nLe, nEq, nCl, nDiv, nRem2, nM1, nM2, nM3, nM4, nM5, nM6, gg_in, gg_rf, gg_T, if_true, if_false, ↓lt_eq, ob_some, b2_some, up1_some, kd_sI, ln_sI, gP_sI, gI_sI, kd_rI, ln_rI, gP_rI, gI_rI, kd_bmp, ln_bmp, gP_bmp, gI_bmp, up_at, i0, i1, RS.f R'.1]
  rcases ni_d v (Nn m 4) with hv | ⟨q, hq, rfl⟩
  · refine Pr.thr C R 1 1 rfl (by omega) (by omega) ?_ fun h' R' => ⟨nI 0, thr h' R' (Or.inr hv)⟩
    unfold MX11_read
    rw [gg_t X.1, X5 X, gg_t S.1, c_findSlug_f S V I.1 hv, ob_some, if_pos rfl]
  · obtain ⟨-, -, -, -, ⟨b1, b2⟩, -⟩ := I.1.f
    obtain ⟨c, hc, ec, c0, cS, cV⟩ := c_findSlug_t S V I.1 hq
    rcases ni_d w 2 with hw | ⟨r, hr, rfl⟩
    · refine Pr.thr C R 1 1 rfl (by omega) (by omega) ?_ fun h' R' => ⟨nI 0, thr h' R' (Or.inl hw)⟩
      unfold MX11_read
      rw [gg_t X.1, X5 X, gg_t S.1, ec, ob_some, if_neg c0]
      rcases ni_c (by omega) hw with z | ⟨z1, z2, z3⟩
      · simp only [ZL, if_pos z]
      · have z4 : ¬ w ≤ nI 1 := fun z => z3 (by
          rw [Int32.le_iff_toInt_le, nI_toInt (by omega)] at z
          rw [Int32.lt_iff_toInt_lt, nI_toInt (by omega)]
          omega)
        simp only [ZL, if_neg z1, if_neg z4]
    · have hI := I.2.2.1 q hq
      obtain ⟨x, hx, ex⟩ := hI.2.2.2.2.2.2.2.2.2.2.2.2.1
      obtain ⟨y, hy, ey⟩ := hI.2.2.2.2.2.2.2.2.2.2.2.2.2.1
      have c13 := cV.2.2.2.2.2.2.2.2.2.2.1
      rw [ex, ey, nMul, nAdd] at c13
      have A := rdA x (by omega) y (by omega) r hr
      have B2 := rdB x (by omega) y (by omega)
      have er : m (64630 + 852 * q + 10 + r) = nI (if r = 0 then x else y) := by
        rcases (show r = 0 ∨ r = 1 by omega) with rfl | rfl
        · exact ex
        · exact ey
      by_cases z : (if r = 0 then x else y) = 0
      · have hcz : gP h (gP h 19 10) q ≠ 0 := by rw [← hc]; exact c0
        obtain ⟨ct, c3⟩ := sl_t O X S hcz
        rw [← hc] at ct c3
        rw [z] at er
        have zb : nI (x + 2 * y) ||| (nI 1 <<< (nI r &&& nI 31)) = nI (if r = 0 then 1 + 2 * y else x + 2 * 1) := by
          rcases (show r = 0 ∨ r = 1 by omega) with rfl | rfl
          · exact B2.1
          · exact B2.2
        have F1 : Fr (fun b => b = c) h (sI h c 13 (nI (if r = 0 then 1 + 2 * y else x + 2 * 1))) := Fr.sI rfl
        have sf := obj_sm (s0 := q) (F := 10) O t3 t19 (by omega) (show 19 ≠ 0 by omega) F1 (fun b hb => by
          have hb : b = c := hb
          subst hb
          exact ⟨c0, by rw [ct, t19]; exact List.suffix_refl _⟩)
        have mo : ∀ j, j ≠ 64630 + 852 * q + 10 + r → va_up m (64630 + 852 * q + 10 + r) (nI 1) j = m j := fun j hj => by simp only [up_at, if_neg hj]
        refine Pr.room (h1 := sI h c 13 (nI (if r = 0 then 1 + 2 * y else x + 2 * 1))) (m' := va_up m (64630 + 852 * q + 10 + r) (nI 1)) C R (nI 1) ?_ F1 (fun b hb => by
          have hb : b = c := hb
          subst hb
          exact ⟨c0, by rw [ct]; exact List.suffix_append [q, 10] [5]⟩) (S.sl F1 sf ?_) (RmV.sl I V F1 sf (by omega) (fun j hj => mo j (by omega)) ⟨mo _ (by omega), mo _ (by omega)⟩ fun _ => ?_) (MI.slg I hq (fun j hj => mo j (by omega)) ⟨mo _ (by omega), mo _ (by omega), mo _ (by omega)⟩ (fun a ha => mo _ (by omega)) ?_) (fun j hj => mo j (by unfold rgDk at hj; omega)) fun h' R' => ?_
        · unfold MX11_read
          rw [gg_t X.1, X5 X, gg_t S.1, ec, ob_some, if_neg c0]
          simp (disch := omega) only [↓reduceIte, Nat.reduceLT, Nat.reduceLeDiff, Nat.reduceEqDiff, ZL, nAdd, nMul, nSub, nLt, nLe, nEq, nCl, nDiv, nRem2, nM1, nM2, nM3, nM4, nM5, nM6, gg_in, gg_rf, gg_T, if_true, if_false, ↓lt_eq, ob_some, b2_some, up1_some, kd_sI, ln_sI, gP_sI, gI_sI, kd_rI, ln_rI, gP_rI, gI_rI, kd_bmp, ln_bmp, gP_bmp, gI_bmp, up_at, i0, i1, cS.1, c13, if_pos (A.mpr z), zb]
        · rw [← hc]
          obtain ⟨s1, s2, s3, s4, s5, s6⟩ := cS
          refine ⟨s1, s2, s3, s4, s5, ?_⟩
          simp (disch := omega) only [gI_sI, if_pos, up_at, i0]
          exact s6
        · rw [← hc]
          obtain ⟨w5, w8, w9, w3, w10, w11, w12, w14, w7, w2, w13, w6, wl, wb, w4⟩ := cV
          have n0 := ne_o O c3 cS.2.1.1
          have n1 := ne_o O c3 cS.2.2.1.1
          have e9 := Nn.c (mo (64630 + 852 * q + 9) (by omega))
          have h401 := (hI.2.2.2.2.2.2.2.2.2.2.2.1.eq (by omega)).2
          have hv1 := hI.2.1.1
          have e0 := mo (64630 + 852 * q) (by omega)
          unfold SlV
          rw [e9, mo _ (by omega), mo (64630 + 852 * q + 1) (by omega), mo (64630 + 852 * q + 2) (by omega), mo (64630 + 852 * q + 3) (by omega), mo (64630 + 852 * q + 4) (by omega), mo (64630 + 852 * q + 5) (by omega), mo (64630 + 852 * q + 6) (by omega), mo (64630 + 852 * q + 7) (by omega), mo (64630 + 852 * q + 8) (by omega), mo (64630 + 852 * q + 9) (by omega), Nn.c e0, mo (70 + Nn m (64630 + 852 * q) / 5) (by omega), wrN.mc (m' := va_up m (64630 + 852 * q + 10 + r) (nI 1)) (m := m) _ (fun j hj => ⟨mo _ (by omega), mo _ (by omega)⟩)]
          simp (disch := omega) only [gI_sI, gP_sI, ln_sI, if_pos, up_at, i0]
          refine ⟨w5, w8, w9, w3, w10, w11, w12, w14, w7, w2, ?_, w6, wl, fun j hj => ?_, w4⟩
          · rcases (show r = 0 ∨ r = 1 by omega) with rfl | rfl
            · simp (disch := omega) only [↓reduceIte, Nat.reduceLT, Nat.reduceLeDiff, Nat.reduceEqDiff, ZL, nAdd, nMul, nSub, nLt, nLe, nEq, nCl, nDiv, nRem2, nM1, nM2, nM3, nM4, nM5, nM6, gg_in, gg_rf, gg_T, if_true, if_false, ↓lt_eq, ob_some, b2_some, up1_some, kd_sI, ln_sI, gP_sI, gI_sI, kd_rI, ln_rI, gP_rI, gI_rI, kd_bmp, ln_bmp, gP_bmp, gI_bmp, up_at, i0, i1, ey]
            · simp (disch := omega) only [↓reduceIte, Nat.reduceLT, Nat.reduceLeDiff, Nat.reduceEqDiff, ZL, nAdd, nMul, nSub, nLt, nLe, nEq, nCl, nDiv, nRem2, nM1, nM2, nM3, nM4, nM5, nM6, gg_in, gg_rf, gg_T, if_true, if_false, ↓lt_eq, ob_some, b2_some, up1_some, kd_sI, ln_sI, gP_sI, gI_sI, kd_rI, ln_rI, gP_rI, gI_rI, kd_bmp, ln_bmp, gP_bmp, gI_bmp, up_at, i0, i1, ex]
          · exact wb j hj
        · have hv1 := hI.2.1.1
          have h9 := (hI.2.2.2.2.2.2.2.2.2.2.2.1.eq (by omega)).2
          obtain ⟨a0, a1, a2, a3, a4, a5, a6, a7, a8, a9, a10, a11, a12, a13, a14, a15, a16⟩ := hI
          have e0 := mo (64630 + 852 * q) (by omega)
          have up1 : oN (va_up m (64630 + 852 * q + 10 + r) (nI 1)) (64630 + 852 * q + 10 + r) 1 := ⟨1, by omega, by simp only [up_at, if_pos]⟩
          refine ⟨a0.c e0, by rw [Nn.c e0]; exact a1.c (mo _ (by omega)) (fun _ => mo _ (by omega)), a2.c (mo _ (by omega)), by rw [Nn.c (mo (64630 + 852 * q + 1) (by omega)), Nn.c (mo 3 (by omega))]; exact a3, a4.c (mo _ (by omega)), by rw [Nn.c (mo (64630 + 852 * q + 2) (by omega)), Nn.c (mo 0 (by omega))]; exact a5, by rw [Nn.c (mo (64630 + 852 * q + 2) (by omega))]; exact a6, a7.c (mo _ (by omega)), a8.c (mo _ (by omega)), a9.c (mo _ (by omega)), a10.c (mo _ (by omega)), a11.c (mo _ (by omega)), ?_, ?_, fun j hj => ?_, by rw [mo (64630 + 852 * q + 4) (by omega), mo (64630 + 852 * q + 5) (by omega), mo (64630 + 852 * q + 6) (by omega)]; exact a15, ?_⟩
          · rcases (show r = 0 ∨ r = 1 by omega) with rfl | rfl
            · exact up1
            · exact a12.c (mo _ (by omega))
          · rcases (show r = 0 ∨ r = 1 by omega) with rfl | rfl
            · exact a13.c (mo _ (by omega))
            · exact up1
          · rw [Nn.c (mo (64630 + 852 * q + 9) (by omega))] at hj
            exact ⟨(a14 j hj).1.c (mo _ (by omega)), (a14 j hj).2.c (mo _ (by omega))⟩
          · rw [mo (64630 + 852 * q + 4) (by omega)]
            intro hz
            obtain ⟨c1, c2, c3, c4, c5, c6⟩ := a16 hz
            have hb := c3.1
            have hb2 := (c1.eq (by omega)).2
            rw [Nn.c (mo (64630 + 852 * q + 5) (by omega)), Nn.c (mo (64630 + 852 * q + 6) (by omega)), mo (130 + 645 * Nn m (64630 + 852 * q + 6) + 3) (by omega), Nn.c (mo (130 + 645 * Nn m (64630 + 852 * q + 6) + 4) (by omega)), mo (130 + 645 * Nn m (64630 + 852 * q + 6) + 45 + Nn m (64630 + 852 * q + 5)) (by omega)]
            exact ⟨c1.c (mo _ (by omega)), c2.c (mo _ (by omega)), c3.c (mo _ (by omega)) (fun _ => mo _ (by omega)), c4, c5, c6⟩
        · refine ⟨sI (sI h' 73 0 (nI 0)) 74 (64630 + 852 * q + 10 + r) (nI 1), ?_, th_fr.trans fr74, R'.th.m1, ?_⟩
          · unfold MX12_read
            simp (disch := omega) only [↓reduceIte, Nat.reduceLT, Nat.reduceLeDiff, Nat.reduceEqDiff, ZL, nAdd, nMul, nSub, nLt, nLe, nEq, nCl, nDiv, nRem2, nM1, nM2, nM3, nM4, nM5, nM6, gg_in, gg_rf, gg_T, if_true, if_false, ↓lt_eq, ob_some, b2_some, up1_some, kd_sI, ln_sI, gP_sI, gI_sI, kd_rI, ln_rI, gP_rI, gI_rI, kd_bmp, ln_bmp, gP_bmp, gI_bmp, up_at, i0, i1, r_isIn_t, RS.f R'.1, r_isSlug_t R'.1 R'.2.1 I.1 hq]
            simp (disch := omega) only [MX12_read_23, MX12_read_60, ↓reduceIte, Nat.reduceLT, Nat.reduceLeDiff, Nat.reduceEqDiff, ZL, nAdd, nMul, nSub, nLt, nLe, nEq, nCl, nDiv, nRem2, nM1, nM2, nM3, nM4, nM5, nM6, gg_in, gg_rf, gg_T, if_true, if_false, ↓lt_eq, ob_some, b2_some, up1_some, kd_sI, ln_sI, gP_sI, gI_sI, kd_rI, ln_rI, gP_rI, gI_rI, kd_bmp, ln_bmp, gP_bmp, gI_bmp, up_at, i0, i1, RS.f R'.1, R'.2.1, r_slug0, er]
          · simp (disch := omega) only [↓reduceIte, Nat.reduceLT, Nat.reduceLeDiff, Nat.reduceEqDiff, ZL, nAdd, nMul, nSub, nLt, nLe, nEq, nCl, nDiv, nRem2, nM1, nM2, nM3, nM4, nM5, nM6, gg_in, gg_rf, gg_T, if_true, if_false, ↓lt_eq, ob_some, b2_some, up1_some, kd_sI, ln_sI, gP_sI, gI_sI, kd_rI, ln_rI, gP_rI, gI_rI, kd_bmp, ln_bmp, gP_bmp, gI_bmp, up_at, i0, i1]
      · have z1 : (if r = 0 then x else y) = 1 := by
          rcases (show r = 0 ∨ r = 1 by omega) with rfl | rfl
          · have : ¬ x = 0 := z
            show x = 1
            omega
          · have : ¬ y = 0 := z
            show y = 1
            omega
        rw [z1] at er
        have eup : va_up m (64630 + 852 * q + 10 + r) (nI 1) = m := by
          funext j
          simp only [up_at]
          split
          · rename_i e; rw [e, er]
          · rfl
        refine Pr.same C (nI 0) ?_ fun h' o => ?_
        · unfold MX11_read
          rw [gg_t X.1, X5 X, gg_t S.1, ec, ob_some, if_neg c0]
          simp (disch := omega) only [↓reduceIte, Nat.reduceLT, Nat.reduceLeDiff, Nat.reduceEqDiff, ZL, nAdd, nMul, nSub, nLt, nLe, nEq, nCl, nDiv, nRem2, nM1, nM2, nM3, nM4, nM5, nM6, gg_in, gg_rf, gg_T, if_true, if_false, ↓lt_eq, ob_some, b2_some, up1_some, kd_sI, ln_sI, gP_sI, gI_sI, kd_rI, ln_rI, gP_rI, gI_rI, kd_bmp, ln_bmp, gP_bmp, gI_bmp, up_at, i0, i1, cS.1, c13, if_neg (fun e => z (A.mp e))]
        · have R' := R.ou o
          refine ⟨sI (sI h' 73 0 (nI 0)) 74 (64630 + 852 * q + 10 + r) (nI 1), ?_, th_fr.trans fr74, by have := R'.th (v := nI 0) |>.m1 (x := 64630 + 852 * q + 10 + r) (v := nI 1); rwa [eup] at this, ?_⟩
          · unfold MX12_read
            simp (disch := omega) only [↓reduceIte, Nat.reduceLT, Nat.reduceLeDiff, Nat.reduceEqDiff, ZL, nAdd, nMul, nSub, nLt, nLe, nEq, nCl, nDiv, nRem2, nM1, nM2, nM3, nM4, nM5, nM6, gg_in, gg_rf, gg_T, if_true, if_false, ↓lt_eq, ob_some, b2_some, up1_some, kd_sI, ln_sI, gP_sI, gI_sI, kd_rI, ln_rI, gP_rI, gI_rI, kd_bmp, ln_bmp, gP_bmp, gI_bmp, up_at, i0, i1, r_isIn_t, RS.f R'.1, r_isSlug_t R'.1 R'.2.1 I.1 hq]
            simp (disch := omega) only [MX12_read_23, MX12_read_60, ↓reduceIte, Nat.reduceLT, Nat.reduceLeDiff, Nat.reduceEqDiff, ZL, nAdd, nMul, nSub, nLt, nLe, nEq, nCl, nDiv, nRem2, nM1, nM2, nM3, nM4, nM5, nM6, gg_in, gg_rf, gg_T, if_true, if_false, ↓lt_eq, ob_some, b2_some, up1_some, kd_sI, ln_sI, gP_sI, gI_sI, kd_rI, ln_rI, gP_rI, gI_rI, kd_bmp, ln_bmp, gP_bmp, gI_bmp, up_at, i0, i1, RS.f R'.1, R'.2.1, r_slug0, er]
          · simp (disch := omega) only [↓reduceIte, Nat.reduceLT, Nat.reduceLeDiff, Nat.reduceEqDiff, ZL, nAdd, nMul, nSub, nLt, nLe, nEq, nCl, nDiv, nRem2, nM1, nM2, nM3, nM4, nM5, nM6, gg_in, gg_rf, gg_T, if_true, if_false, ↓lt_eq, ob_some, b2_some, up1_some, kd_sI, ln_sI, gP_sI, gI_sI, kd_rI, ln_rI, gP_rI, gI_rI, kd_bmp, ln_bmp, gP_bmp, gI_bmp, up_at, i0, i1]
end
