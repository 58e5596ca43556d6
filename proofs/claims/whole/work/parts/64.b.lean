/-! page, carry: the desk is written -/
section
variable {tg : Nat → List Nat} {h h' : Hp} {m k t : Nat → Int32} {i n f : Int32}
theorem ne_t {tg : Nat → List Nat} {a b : Nat} (h : tg a ≠ tg b) : a ≠ b := fun e => h (by rw [e])
/-- two arrays of one object -/
theorem ne_f (O : Own tg h) {a j l : Nat} (ha : a ≠ 3) (hj : gP h a j ≠ 0) (hl : gP h a l ≠ 0) (hn : j ≠ l) : gP h a j ≠ gP h a l := ne_t (tg := tg) (by
  rw [tgc O hj ha, tgc O hl ha]
  exact fun z => hn (List.cons.inj z).1)
/-- an object and its array -/
theorem ne_o (O : Own tg h) {a j : Nat} (ha : a ≠ 3) (hj : gP h a j ≠ 0) : a ≠ gP h a j := ne_t (tg := tg) (by
  rw [tgc O hj ha]
  exact fun z => by simp at z)
/-- an array of the object and what lies in an array of it -/
theorem ne_d (O : Own tg h) {a j l r : Nat} (ha : a ≠ 3) (hj : gP h a j ≠ 0) (hl : gP h a l ≠ 0) (h3 : gP h a l ≠ 3) (hr : gP h (gP h a l) r ≠ 0) : gP h a j ≠ gP h (gP h a l) r := ne_t (tg := tg) (by
  rw [tgc O hj ha, tgc O hr h3, tgc O hl ha]
  exact fun z => by have := (List.cons.inj z).2; simp at this)
/-- the law's form: what changes on both sides in the desk -/
theorem Pr.desk {cm : Nat → Nat} {X : Option ((Int32 ⊕ Nat) × Hp)} {Y : Hp → Option (Int32 × Hp)} {h1 : Hp} {m' : Nat → Int32} {D : Nat → Prop} (C : CSt tg h m k i t n f) (R : RSt h m k i t n f) (v : Int32) (hX : X = some (.inl v, h1)) (F : Fr D h h1) (hD : ∀ b, D b → b ≠ 0 ∧ [6] <:+ tg b) (hR : ∀ b, D b → ¬ (73 ≤ b ∧ b ≤ 109)) (DV : DkV h1 48 m') (I' : MI m') (H : ∀ x, rgRm x → m' x = m x) (hY : ∀ h', RSt h' m k i t n f → ∃ h2, Y h' = some (v, h2) ∧ Fr Rc h' h2 ∧ RSt h2 m' k i t n f ∧ gI h2 73 0 = nI 0) : Pr cm Gq h X Y := by
  have DS : DkS h1 48 := by
    have := C.2.2.2.2.2.1
    unfold DkS ar at this ⊢
    rw [F.1, F.2.1, F.2.2.1]
    exact this
  refine ⟨.inl v, h1, tg, m', k, i, t, n, f, hX, C.desk F hD DS DV I' H, F.rp hR, F.gq, fun h' o => ?_⟩
  have R1 : RSt h1 m k i t n f := R.rp (F.rp hR)
  obtain ⟨h2, e1, e2, e3, e4⟩ := hY h' (R1.ou o)
  exact ⟨v, h2, e1, e2, e3, e4, Eq.refl _⟩
/-- what lies under x is none of the reference's cells -/
theorem nr (O : Own tg h) (R : RS h) {x b : Nat} (hx : x ≠ 1000) (hx1 : x ≠ 1001) (hb : [x] <:+ tg b) : ¬ (73 ≤ b ∧ b ≤ 109) := by
  rintro ⟨h1, h2⟩
  have t73 := O.2.1
  have t109 := O.2.2.1
  have e : b = 73 ∨ b = 109 ∨ ∃ j, gP h 73 j = b := by
    rcases (show b = 73 ∨ b = 109 ∨ b = 74 ∨ b = 75 ∨ b = 76 ∨ b = 77 ∨ b = 78 ∨ b = 79 ∨ b = 80 ∨ b = 81 ∨ b = 82 ∨ b = 83 ∨ b = 84 ∨ b = 85 ∨ b = 86 ∨ b = 87 ∨ b = 88 ∨ b = 89 ∨ b = 90 ∨ b = 91 ∨ b = 92 ∨ b = 93 ∨ b = 94 ∨ b = 95 ∨ b = 96 ∨ b = 97 ∨ b = 98 ∨ b = 99 ∨ b = 100 ∨ b = 101 ∨ b = 102 ∨ b = 103 ∨ b = 104 ∨ b = 105 ∨ b = 106 ∨ b = 107 ∨ b = 108 by omega) with z | z | z | z | z | z | z | z | z | z | z | z | z | z | z | z | z | z | z | z | z | z | z | z | z | z | z | z | z | z | z | z | z | z | z | z | z
    · exact Or.inl z
    · exact Or.inr (Or.inl z)
    · exact Or.inr (Or.inr ⟨1, by rw [z]; simp only [RS.f R]⟩)
    · exact Or.inr (Or.inr ⟨2, by rw [z]; simp only [RS.f R]⟩)
    · exact Or.inr (Or.inr ⟨3, by rw [z]; simp only [RS.f R]⟩)
    · exact Or.inr (Or.inr ⟨5, by rw [z]; simp only [RS.f R]⟩)
    · exact Or.inr (Or.inr ⟨12, by rw [z]; simp only [RS.f R]⟩)
    · exact Or.inr (Or.inr ⟨13, by rw [z]; simp only [RS.f R]⟩)
    · exact Or.inr (Or.inr ⟨14, by rw [z]; simp only [RS.f R]⟩)
    · exact Or.inr (Or.inr ⟨15, by rw [z]; simp only [RS.f R]⟩)
    · exact Or.inr (Or.inr ⟨16, by rw [z]; simp only [RS.f R]⟩)
    · exact Or.inr (Or.inr ⟨18, by rw [z]; simp only [RS.f R]⟩)
    · exact Or.inr (Or.inr ⟨21, by rw [z]; simp only [RS.f R]⟩)
    · exact Or.inr (Or.inr ⟨22, by rw [z]; simp only [RS.f R]⟩)
    · exact Or.inr (Or.inr ⟨23, by rw [z]; simp only [RS.f R]⟩)
    · exact Or.inr (Or.inr ⟨31, by rw [z]; simp only [RS.f R]⟩)
    · exact Or.inr (Or.inr ⟨32, by rw [z]; simp only [RS.f R]⟩)
    · exact Or.inr (Or.inr ⟨33, by rw [z]; simp only [RS.f R]⟩)
    · exact Or.inr (Or.inr ⟨34, by rw [z]; simp only [RS.f R]⟩)
    · exact Or.inr (Or.inr ⟨36, by rw [z]; simp only [RS.f R]⟩)
    · exact Or.inr (Or.inr ⟨37, by rw [z]; simp only [RS.f R]⟩)
    · exact Or.inr (Or.inr ⟨38, by rw [z]; simp only [RS.f R]⟩)
    · exact Or.inr (Or.inr ⟨39, by rw [z]; simp only [RS.f R]⟩)
    · exact Or.inr (Or.inr ⟨40, by rw [z]; simp only [RS.f R]⟩)
    · exact Or.inr (Or.inr ⟨41, by rw [z]; simp only [RS.f R]⟩)
    · exact Or.inr (Or.inr ⟨42, by rw [z]; simp only [RS.f R]⟩)
    · exact Or.inr (Or.inr ⟨43, by rw [z]; simp only [RS.f R]⟩)
    · exact Or.inr (Or.inr ⟨44, by rw [z]; simp only [RS.f R]⟩)
    · exact Or.inr (Or.inr ⟨45, by rw [z]; simp only [RS.f R]⟩)
    · exact Or.inr (Or.inr ⟨46, by rw [z]; simp only [RS.f R]⟩)
    · exact Or.inr (Or.inr ⟨47, by rw [z]; simp only [RS.f R]⟩)
    · exact Or.inr (Or.inr ⟨48, by rw [z]; simp only [RS.f R]⟩)
    · exact Or.inr (Or.inr ⟨49, by rw [z]; simp only [RS.f R]⟩)
    · exact Or.inr (Or.inr ⟨50, by rw [z]; simp only [RS.f R]⟩)
    · exact Or.inr (Or.inr ⟨53, by rw [z]; simp only [RS.f R]⟩)
    · exact Or.inr (Or.inr ⟨54, by rw [z]; simp only [RS.f R]⟩)
    · exact Or.inr (Or.inr ⟨55, by rw [z]; simp only [RS.f R]⟩)
  rcases e with rfl | rfl | ⟨j, ej⟩
  · rw [t73] at hb
    exact hx (suf1 hb (List.suffix_refl _))
  · rw [t109] at hb
    exact hx1 (suf1 hb (List.suffix_refl _))
  · have hz : gP h 73 j ≠ 0 := by rw [ej]; omega
    rw [← ej, tgc O hz (by omega), t73] at hb
    exact hx (suf1 hb (List.suffix_cons _ _))
theorem p_page (C : CSt tg h m k i t n f) (R : RSt h m k i t n f) (v w u : Int32) : Pr (cm [1, 2]) Gq h (vX (MX11_page h 1 v w u)) (fun h' => vY (MX12_page h' 73 v w u)) := by
  obtain ⟨O, X, X2, S, V, D, DV, I, T, Im, Tr⟩ := id C
  rcases ni_d v 6 with hv | ⟨q, hq, rfl⟩
  · refine Pr.thr C R 1 1 rfl (by omega) (by omega) ?_ fun h' R' => ⟨nI 0, ?_⟩
    · unfold MX11_page
      rw [(c_isPage_f hv).1, ob_some, if_pos (by decide)]
      rfl
    · unfold MX12_page
      rw [(c_isPage_f hv).2, ob_some, if_pos (by decide)]
      simp (disch := omega) only [MX12_page_36, ↓reduceIte, Nat.reduceLT, Nat.reduceLeDiff, Nat.reduceEqDiff, ZL, nAdd, nMul, nSub, nLt, nLe, nEq, nCl, nDiv, nRem2, nM1, nM2, nM3, nM4, nM5, nM6, gg_in, gg_rf, gg_T, if_true, if_false, ↓lt_eq, ob_some, b2_some, up1_some, kd_sI, ln_sI, gP_sI, gI_sI, kd_rI, ln_rI, gP_rI, gI_rI, kd_bmp, ln_bmp, gP_bmp, gI_bmp, up_at, i0, i1, RS.f R'.1, vY]
  · have bad : (∀ j, 1 ≤ j → j < 4 → w ≠ nI j) ∨ (∃ a, 1 ≤ a ∧ a < 4 ∧ w = nI a) := by
      by_cases z : ∃ a, 1 ≤ a ∧ a < 4 ∧ w = nI a
      · exact Or.inr z
      · exact Or.inl fun j h1 h2 e => z ⟨j, h1, h2, e⟩
    have bad2 : (∀ j, 1 ≤ j → j < 61 → u ≠ nI j) ∨ (∃ a, 1 ≤ a ∧ a < 61 ∧ u = nI a) := by
      by_cases z : ∃ a, 1 ≤ a ∧ a < 61 ∧ u = nI a
      · exact Or.inr z
      · exact Or.inl fun j h1 h2 e => z ⟨j, h1, h2, e⟩
    rcases bad with hw | ⟨a, ha1, ha2, rfl⟩
    · refine Pr.thr C R 2 2 rfl (by omega) (by omega) ?_ fun h' R' => ⟨nI 0, ?_⟩
      · have hc : w < nI 1 ∨ (¬ w < nI 1 ∧ nI 3 < w) := by
          rcases arg2 w with z | ⟨j, hj, rfl⟩
          · refine Or.inl ?_
            rw [Int32.lt_iff_toInt_lt, nI_toInt (by omega)] at z ⊢
            omega
          · by_cases z : j < 1
            · exact Or.inl (nI_lt z (by omega))
            · exact Or.inr ⟨nI_nlt (by omega) (by omega), nI_lt (by
                have : ¬ (1 ≤ j ∧ j < 4) := fun z3 => absurd rfl (hw j z3.1 z3.2)
                omega) (by omega)⟩
        unfold MX11_page
        rw [(c_isPage_t hq).1, ob_some, if_neg (by decide)]
        rcases hc with z | ⟨z1, z2⟩
        · simp only [ZL, if_pos z, vX]
        · simp only [ZL, if_neg z1, if_pos z2, vX]
      · unfold MX12_page
        rw [(c_isPage_t hq).2, ob_some, if_neg (by decide)]
        simp (disch := omega) only [↓reduceIte, Nat.reduceLT, Nat.reduceLeDiff, Nat.reduceEqDiff, ZL, nAdd, nMul, nSub, nLt, nLe, nEq, nCl, nDiv, nRem2, nM1, nM2, nM3, nM4, nM5, nM6, gg_in, gg_rf, gg_T, if_true, if_false, ↓lt_eq, ob_some, b2_some, up1_some, kd_sI, ln_sI, gP_sI, gI_sI, kd_rI, ln_rI, gP_rI, gI_rI, kd_bmp, ln_bmp, gP_bmp, gI_bmp, up_at, i0, i1, r_isIn_f1 (b := 3) (by omega) (by omega) hw, MX12_page_31]
        simp (disch := omega) only [MX12_page_36, ↓reduceIte, Nat.reduceLT, Nat.reduceLeDiff, Nat.reduceEqDiff, ZL, nAdd, nMul, nSub, nLt, nLe, nEq, nCl, nDiv, nRem2, nM1, nM2, nM3, nM4, nM5, nM6, gg_in, gg_rf, gg_T, if_true, if_false, ↓lt_eq, ob_some, b2_some, up1_some, kd_sI, ln_sI, gP_sI, gI_sI, kd_rI, ln_rI, gP_rI, gI_rI, kd_bmp, ln_bmp, gP_bmp, gI_bmp, up_at, i0, i1, RS.f R'.1, vY]
    · rcases bad2 with hu | ⟨b, hb1, hb2, rfl⟩
      · refine Pr.thr C R 2 2 rfl (by omega) (by omega) ?_ fun h' R' => ⟨nI 0, ?_⟩
        · have hc : u < nI 1 ∨ (¬ u < nI 1 ∧ ¬ u ≤ nI 60) := by
            rcases arg2 u with z | ⟨j, hj, rfl⟩
            · refine Or.inl ?_
              rw [Int32.lt_iff_toInt_lt, nI_toInt (by omega)] at z ⊢
              omega
            · by_cases z : j < 1
              · exact Or.inl (nI_lt z (by omega))
              · refine Or.inr ⟨nI_nlt (by omega) (by omega), fun z2 => ?_⟩
                rw [nLe (by omega) (by omega)] at z2
                exact absurd rfl (hu j (by omega) (by omega))
          unfold MX11_page
          rw [(c_isPage_t hq).1, ob_some, if_neg (by decide)]
          rcases hc with z | ⟨z1, z2⟩
          · simp (disch := omega) only [ZL, nAdd, nMul, nSub, nLt, nLe, nEq, nCl, nDiv, nRem2, i0, if_pos z, vX]
          · simp (disch := omega) only [ZL, nAdd, nMul, nSub, nLt, nLe, nEq, nCl, nDiv, nRem2, i0, if_neg z1, if_neg z2, vX]
        · unfold MX12_page
          rw [(c_isPage_t hq).2, ob_some, if_neg (by decide)]
          simp (disch := omega) only [↓reduceIte, Nat.reduceLT, Nat.reduceLeDiff, Nat.reduceEqDiff, ZL, nAdd, nMul, nSub, nLt, nLe, nEq, nCl, nDiv, nRem2, nM1, nM2, nM3, nM4, nM5, nM6, gg_in, gg_rf, gg_T, if_true, if_false, ↓lt_eq, ob_some, b2_some, up1_some, kd_sI, ln_sI, gP_sI, gI_sI, kd_rI, ln_rI, gP_rI, gI_rI, kd_bmp, ln_bmp, gP_bmp, gI_bmp, up_at, i0, i1, r_isIn_t, r_isIn_f1 (b := 60) (by omega) (by omega) hu, MX12_page_31]
          simp (disch := omega) only [MX12_page_36, ↓reduceIte, Nat.reduceLT, Nat.reduceLeDiff, Nat.reduceEqDiff, ZL, nAdd, nMul, nSub, nLt, nLe, nEq, nCl, nDiv, nRem2, nM1, nM2, nM3, nM4, nM5, nM6, gg_in, gg_rf, gg_T, if_true, if_false, ↓lt_eq, ob_some, b2_some, up1_some, kd_sI, ln_sI, gP_sI, gI_sI, kd_rI, ln_rI, gP_rI, gI_rI, kd_bmp, ln_bmp, gP_bmp, gI_bmp, up_at, i0, i1, RS.f R'.1, vY]
      · obtain ⟨dk, ⟨a0, a1, a2⟩, ⟨b0, b1, b2⟩, ⟨c0, -⟩, ⟨d0, -⟩, ⟨e0, -⟩, ⟨f0, -⟩, ⟨g7, -⟩, ⟨g8, -⟩, ⟨g9, -⟩, ⟨g10, -⟩, hh⟩ := D
        have t48 := (tgs O X).2.2.2.2.2.2.2.1
        have t3 := (tgs O X).2.2.1
        have n01 := ne_f O (by omega) a0 b0 (show 0 ≠ 1 by omega)
        have D6 : ∀ x, (x = gP h 48 0 ∨ x = gP h 48 1) → x ≠ 0 ∧ [6] <:+ tg x := fun x hx => by
          rcases hx with rfl | rfl
          · exact ⟨a0, by rw [tgc O a0 (by omega), t48]; exact List.suffix_cons _ _⟩
          · exact ⟨b0, by rw [tgc O b0 (by omega), t48]; exact List.suffix_cons _ _⟩
        have other : ∀ x, x ≠ gP h 48 0 → x ≠ gP h 48 1 → gI (sI (sI h (gP h 48 0) q (nI a)) (gP h 48 1) q (nI b)) x = gI h x := fun x h1 h2 => by
          simp only [gI_sI, if_neg h1, if_neg h2]
        have n4 : gP h 48 4 ≠ 3 := ne_t (tg := tg) (by rw [tgc O e0 (by omega), t48, t3]; simp)
        have zr : ∀ j r, gP h 48 j ≠ 0 → gP h 48 j ≠ gP h (gP h 48 4) r := fun j r hj => by
          by_cases z : gP h (gP h 48 4) r = 0
          · rw [z]; exact hj
          · exact ne_d O (by omega) hj e0 n4 z
        have mo : ∀ x, x ≠ 327382 + 185 * q → x ≠ 327382 + 185 * q + 1 → va_up (va_up m (327382 + 185 * q) (nI a)) (327382 + 185 * q + 1) (nI b) x = m x := fun x h1 h2 => by
          simp only [up_at, if_neg h1, if_neg h2]
        refine Pr.desk (h1 := sI (sI h (gP h 48 0) q (nI a)) (gP h 48 1) q (nI b)) (m' := va_up (va_up m (327382 + 185 * q) (nI a)) (327382 + 185 * q + 1) (nI b)) (D := fun x => x = gP h 48 0 ∨ x = gP h 48 1) C R (nI 0) ?_ ((Fr.sI (Or.inl rfl)).trans (Fr.sI (Or.inr rfl))) D6 (fun x hx => nr O R.1 (by omega) (by omega) (D6 x hx).2) ?_ ?_ (fun x hx => mo x (by unfold rgRm at hx; omega) (by unfold rgRm at hx; omega)) fun h' R' => ?_
        · simp (disch := omega) only [MX11_page, ↓reduceIte, Nat.reduceLT, Nat.reduceLeDiff, Nat.reduceEqDiff, ZL, nAdd, nMul, nSub, nLt, nLe, nEq, nCl, nDiv, nRem2, nM1, nM2, nM3, nM4, nM5, nM6, gg_in, gg_rf, gg_T, if_true, if_false, ↓lt_eq, ob_some, b2_some, up1_some, kd_sI, ln_sI, gP_sI, gI_sI, kd_rI, ln_rI, gP_rI, gI_rI, kd_bmp, ln_bmp, gP_bmp, gI_bmp, up_at, i0, i1, (c_isPage_t hq).1, X.f, dk, a1, a2, b1, b2, vX]
        · obtain ⟨v1, v2, v3, v4, v5⟩ := DV
          have q5 : ∀ e p, p < 6 → 328492 + 181 * (6 * e + p) ≠ 327382 + 185 * q ∧ 328492 + 181 * (6 * e + p) ≠ 327382 + 185 * q + 1 := fun e p hp => by omega
          refine ⟨?_, ?_, fun p hp => ?_, fun e he p hp => ?_, fun y hy => ?_⟩
          · rw [other 48 (ne_o O (by omega) a0) (ne_o O (by omega) b0), mo _ (by omega) (by omega)]; exact v1
          · rw [other 48 (ne_o O (by omega) a0) (ne_o O (by omega) b0), mo _ (by omega) (by omega)]; exact v2
          · obtain ⟨w1, w2, w3, w4, w5, w6, w7⟩ := v3 p hp
            simp only [gP_sI]
            rw [other (gP h 48 2) (ne_f O (by omega) c0 a0 (by omega)) (ne_f O (by omega) c0 b0 (by omega)), other (gP h 48 3) (ne_f O (by omega) d0 a0 (by omega)) (ne_f O (by omega) d0 b0 (by omega)), other (gP h 48 5) (ne_f O (by omega) f0 a0 (by omega)) (ne_f O (by omega) f0 b0 (by omega)), other (gP h (gP h 48 4) p) (zr 0 p a0).symm (zr 1 p b0).symm]
            have m2 := mo (327382 + 185 * p + 2) (by omega) (by omega)
            rw [mo (327382 + 185 * p + 3) (by omega) (by omega), mo (327382 + 185 * p + 4) (by omega) (by omega), m2, Nn.c m2]
            refine ⟨?_, ?_, w3, w4, w5, w6, fun j hj => ?_⟩
            · by_cases z : p = q
              · subst z
                simp (disch := omega) only [↓reduceIte, Nat.reduceLT, Nat.reduceLeDiff, Nat.reduceEqDiff, ZL, nAdd, nMul, nSub, nLt, nLe, nEq, nCl, nDiv, nRem2, nM1, nM2, nM3, nM4, nM5, nM6, gg_in, gg_rf, gg_T, if_true, if_false, ↓lt_eq, ob_some, b2_some, up1_some, kd_sI, ln_sI, gP_sI, gI_sI, kd_rI, ln_rI, gP_rI, gI_rI, kd_bmp, ln_bmp, gP_bmp, gI_bmp, up_at, i0, i1, n01]
              · simp (disch := omega) only [↓reduceIte, Nat.reduceLT, Nat.reduceLeDiff, Nat.reduceEqDiff, ZL, nAdd, nMul, nSub, nLt, nLe, nEq, nCl, nDiv, nRem2, nM1, nM2, nM3, nM4, nM5, nM6, gg_in, gg_rf, gg_T, if_true, if_false, ↓lt_eq, ob_some, b2_some, up1_some, kd_sI, ln_sI, gP_sI, gI_sI, kd_rI, ln_rI, gP_rI, gI_rI, kd_bmp, ln_bmp, gP_bmp, gI_bmp, up_at, i0, i1, n01, w1]
            · by_cases z : p = q
              · subst z
                simp (disch := omega) only [↓reduceIte, Nat.reduceLT, Nat.reduceLeDiff, Nat.reduceEqDiff, ZL, nAdd, nMul, nSub, nLt, nLe, nEq, nCl, nDiv, nRem2, nM1, nM2, nM3, nM4, nM5, nM6, gg_in, gg_rf, gg_T, if_true, if_false, ↓lt_eq, ob_some, b2_some, up1_some, kd_sI, ln_sI, gP_sI, gI_sI, kd_rI, ln_rI, gP_rI, gI_rI, kd_bmp, ln_bmp, gP_bmp, gI_bmp, up_at, i0, i1, n01]
              · simp (disch := omega) only [↓reduceIte, Nat.reduceLT, Nat.reduceLeDiff, Nat.reduceEqDiff, ZL, nAdd, nMul, nSub, nLt, nLe, nEq, nCl, nDiv, nRem2, nM1, nM2, nM3, nM4, nM5, nM6, gg_in, gg_rf, gg_T, if_true, if_false, ↓lt_eq, ob_some, b2_some, up1_some, kd_sI, ln_sI, gP_sI, gI_sI, kd_rI, ln_rI, gP_rI, gI_rI, kd_bmp, ln_bmp, gP_bmp, gI_bmp, up_at, i0, i1, n01, w2]
            · have := (I.2.2.2.2.1.1 p hp).2.2.2.2
              have := (this.eq (by omega)).2
              rw [mo _ (by omega) (by omega)]
              exact w7 j hj
          · have ne6 : Nn (va_up (va_up m (327382 + 185 * q) (nI a)) (327382 + 185 * q + 1) (nI b)) 6 = Nn m 6 := Nn.c (mo 6 (by omega) (by omega))
            rw [ne6] at he
            obtain ⟨w1, w2, w3⟩ := v4 e he p hp
            obtain ⟨z1, z2⟩ := q5 e p hp
            simp only [gP_sI]
            rw [other (gP h 48 5) (ne_f O (by omega) f0 a0 (by omega)) (ne_f O (by omega) f0 b0 (by omega)), other (gP h (gP h 48 4) _) (zr 0 _ a0).symm (zr 1 _ b0).symm, mo _ z1 z2, Nn.c (mo _ z1 z2)]
            exact ⟨w1, w2, fun j hj => by rw [mo _ (by omega) (by omega)]; exact w3 j hj⟩
          · have ne5 : Nn (va_up (va_up m (327382 + 185 * q) (nI a)) (327382 + 185 * q + 1) (nI b)) 5 = Nn m 5 := Nn.c (mo 5 (by omega) (by omega))
            rw [ne5] at hy
            have h5 := (I.1.2.2.2.2.2.1.eq (by omega)).2
            simp only [gP_sI]
            rw [other (gP h 48 7) (ne_f O (by omega) g7 a0 (by omega)) (ne_f O (by omega) g7 b0 (by omega)), other (gP h 48 8) (ne_f O (by omega) g8 a0 (by omega)) (ne_f O (by omega) g8 b0 (by omega)), other (gP h 48 9) (ne_f O (by omega) g9 a0 (by omega)) (ne_f O (by omega) g9 b0 (by omega)), other (gP h 48 10) (ne_f O (by omega) g10 a0 (by omega)) (ne_f O (by omega) g10 b0 (by omega)), mo _ (by omega) (by omega), mo _ (by omega) (by omega), mo _ (by omega) (by omega), mo _ (by omega) (by omega)]
            exact v5 y hy
        · have Ih := I.2.2.2.2.1
          obtain ⟨-, -, -, -, -, ⟨-, h5⟩, ⟨-, h6⟩, ⟨-, h7⟩⟩ := I.1.f
          refine MI.desk (fun x hx => mo x (by omega) (by omega)) I (I.1.2.2.2.2.2.1.c (mo _ (by omega) (by omega))) (I.1.2.2.2.2.2.2.1.c (mo _ (by omega) (by omega))) ⟨fun p hp => ?_, fun e he p hp => ?_, fun j hj => ?_, fun y hy => ?_⟩
          · obtain ⟨j1, j2, j3, j4, j5⟩ := Ih.1 p hp
            by_cases z : p = q
            · subst z
              have e1 : va_up (va_up m (327382 + 185 * p) (nI a)) (327382 + 185 * p + 1) (nI b) (327382 + 185 * p) = nI a := by simp (disch := omega) only [↓reduceIte, Nat.reduceLT, Nat.reduceLeDiff, Nat.reduceEqDiff, ZL, nAdd, nMul, nSub, nLt, nLe, nEq, nCl, nDiv, nRem2, nM1, nM2, nM3, nM4, nM5, nM6, gg_in, gg_rf, gg_T, if_true, if_false, ↓lt_eq, ob_some, b2_some, up1_some, kd_sI, ln_sI, gP_sI, gI_sI, kd_rI, ln_rI, gP_rI, gI_rI, kd_bmp, ln_bmp, gP_bmp, gI_bmp, up_at, i0, i1]
              have e2 : va_up (va_up m (327382 + 185 * p) (nI a)) (327382 + 185 * p + 1) (nI b) (327382 + 185 * p + 1) = nI b := by simp (disch := omega) only [↓reduceIte, Nat.reduceLT, Nat.reduceLeDiff, Nat.reduceEqDiff, ZL, nAdd, nMul, nSub, nLt, nLe, nEq, nCl, nDiv, nRem2, nM1, nM2, nM3, nM4, nM5, nM6, gg_in, gg_rf, gg_T, if_true, if_false, ↓lt_eq, ob_some, b2_some, up1_some, kd_sI, ln_sI, gP_sI, gI_sI, kd_rI, ln_rI, gP_rI, gI_rI, kd_bmp, ln_bmp, gP_bmp, gI_bmp, up_at, i0, i1]
              refine ⟨⟨a, by omega, e1⟩, ?_, ⟨b, by omega, e2⟩, ?_, j5.c (mo _ (by omega) (by omega))⟩
              · unfold Nn; rw [e1, nCl (by omega)]; exact ha1
              · unfold Nn; rw [e2, nCl (by omega)]; exact hb1
            · exact ⟨j1.c (mo _ (by omega) (by omega)), by rw [Nn.c (mo _ (by omega) (by omega))]; exact j2, j3.c (mo _ (by omega) (by omega)), by rw [Nn.c (mo _ (by omega) (by omega))]; exact j4, j5.c (mo _ (by omega) (by omega))⟩
          · rw [Nn.c (mo _ (by omega) (by omega))] at he
            exact (Ih.2.1 e he p hp).c (mo _ (by omega) (by omega))
          · rw [Nn.c (mo _ (by omega) (by omega))] at hj
            rw [mo _ (by omega) (by omega), Nn.c (mo 0 (by omega) (by omega)), Nn.c (mo 7 (by omega) (by omega))]
            exact Ih.2.2.1 j hj
          · rw [Nn.c (mo _ (by omega) (by omega))] at hy
            obtain ⟨j1, j2, j3, j4⟩ := Ih.2.2.2 y hy
            exact ⟨j1.c (mo _ (by omega) (by omega)), j2.c (mo _ (by omega) (by omega)), j3.c (mo _ (by omega) (by omega)), j4.c (mo _ (by omega) (by omega))⟩
        · obtain ⟨r0, r1, r2, r3, r4, r5, r6⟩ := R'
          refine ⟨sI (sI (sI h' 73 0 (nI 0)) 74 (327382 + 185 * q) (nI a)) 74 (327382 + 185 * q + 1) (nI b), ?_, ((th_fr (v := nI 0)).trans (Fr.sI (S := Rc) ⟨by omega, by omega⟩)).trans (Fr.sI (S := Rc) ⟨by omega, by omega⟩), ⟨r0.sI.sI.sI, ?_, ?_, ?_, ?_, ?_, ?_⟩, ?_⟩
          · simp (disch := omega) only [MX12_page, ↓reduceIte, Nat.reduceLT, Nat.reduceLeDiff, Nat.reduceEqDiff, ZL, nAdd, nMul, nSub, nLt, nLe, nEq, nCl, nDiv, nRem2, nM1, nM2, nM3, nM4, nM5, nM6, gg_in, gg_rf, gg_T, if_true, if_false, ↓lt_eq, ob_some, b2_some, up1_some, kd_sI, ln_sI, gP_sI, gI_sI, kd_rI, ln_rI, gP_rI, gI_rI, kd_bmp, ln_bmp, gP_bmp, gI_bmp, up_at, i0, i1, (c_isPage_t hq).2, r_isIn_t]
            simp (disch := omega) only [MX12_page_36, ↓reduceIte, Nat.reduceLT, Nat.reduceLeDiff, Nat.reduceEqDiff, ZL, nAdd, nMul, nSub, nLt, nLe, nEq, nCl, nDiv, nRem2, nM1, nM2, nM3, nM4, nM5, nM6, gg_in, gg_rf, gg_T, if_true, if_false, ↓lt_eq, ob_some, b2_some, up1_some, kd_sI, ln_sI, gP_sI, gI_sI, kd_rI, ln_rI, gP_rI, gI_rI, kd_bmp, ln_bmp, gP_bmp, gI_bmp, up_at, i0, i1, RS.f r0, vY]
          · simp (disch := omega) only [↓reduceIte, Nat.reduceLT, Nat.reduceLeDiff, Nat.reduceEqDiff, ZL, nAdd, nMul, nSub, nLt, nLe, nEq, nCl, nDiv, nRem2, nM1, nM2, nM3, nM4, nM5, nM6, gg_in, gg_rf, gg_T, if_true, if_false, ↓lt_eq, ob_some, b2_some, up1_some, kd_sI, ln_sI, gP_sI, gI_sI, kd_rI, ln_rI, gP_rI, gI_rI, kd_bmp, ln_bmp, gP_bmp, gI_bmp, up_at, i0, i1, r1]
          · simp (disch := omega) only [↓reduceIte, Nat.reduceLT, Nat.reduceLeDiff, Nat.reduceEqDiff, ZL, nAdd, nMul, nSub, nLt, nLe, nEq, nCl, nDiv, nRem2, nM1, nM2, nM3, nM4, nM5, nM6, gg_in, gg_rf, gg_T, if_true, if_false, ↓lt_eq, ob_some, b2_some, up1_some, kd_sI, ln_sI, gP_sI, gI_sI, kd_rI, ln_rI, gP_rI, gI_rI, kd_bmp, ln_bmp, gP_bmp, gI_bmp, up_at, i0, i1, r2]
          · simp (disch := omega) only [↓reduceIte, Nat.reduceLT, Nat.reduceLeDiff, Nat.reduceEqDiff, ZL, nAdd, nMul, nSub, nLt, nLe, nEq, nCl, nDiv, nRem2, nM1, nM2, nM3, nM4, nM5, nM6, gg_in, gg_rf, gg_T, if_true, if_false, ↓lt_eq, ob_some, b2_some, up1_some, kd_sI, ln_sI, gP_sI, gI_sI, kd_rI, ln_rI, gP_rI, gI_rI, kd_bmp, ln_bmp, gP_bmp, gI_bmp, up_at, i0, i1, r3]
          · simp (disch := omega) only [↓reduceIte, Nat.reduceLT, Nat.reduceLeDiff, Nat.reduceEqDiff, ZL, nAdd, nMul, nSub, nLt, nLe, nEq, nCl, nDiv, nRem2, nM1, nM2, nM3, nM4, nM5, nM6, gg_in, gg_rf, gg_T, if_true, if_false, ↓lt_eq, ob_some, b2_some, up1_some, kd_sI, ln_sI, gP_sI, gI_sI, kd_rI, ln_rI, gP_rI, gI_rI, kd_bmp, ln_bmp, gP_bmp, gI_bmp, up_at, i0, i1, r4]
          · simp (disch := omega) only [↓reduceIte, Nat.reduceLT, Nat.reduceLeDiff, Nat.reduceEqDiff, ZL, nAdd, nMul, nSub, nLt, nLe, nEq, nCl, nDiv, nRem2, nM1, nM2, nM3, nM4, nM5, nM6, gg_in, gg_rf, gg_T, if_true, if_false, ↓lt_eq, ob_some, b2_some, up1_some, kd_sI, ln_sI, gP_sI, gI_sI, kd_rI, ln_rI, gP_rI, gI_rI, kd_bmp, ln_bmp, gP_bmp, gI_bmp, up_at, i0, i1, r5]
          · simp (disch := omega) only [↓reduceIte, Nat.reduceLT, Nat.reduceLeDiff, Nat.reduceEqDiff, ZL, nAdd, nMul, nSub, nLt, nLe, nEq, nCl, nDiv, nRem2, nM1, nM2, nM3, nM4, nM5, nM6, gg_in, gg_rf, gg_T, if_true, if_false, ↓lt_eq, ob_some, b2_some, up1_some, kd_sI, ln_sI, gP_sI, gI_sI, kd_rI, ln_rI, gP_rI, gI_rI, kd_bmp, ln_bmp, gP_bmp, gI_bmp, up_at, i0, i1, r6]
          · simp (disch := omega) only [↓reduceIte, Nat.reduceLT, Nat.reduceLeDiff, Nat.reduceEqDiff, ZL, nAdd, nMul, nSub, nLt, nLe, nEq, nCl, nDiv, nRem2, nM1, nM2, nM3, nM4, nM5, nM6, gg_in, gg_rf, gg_T, if_true, if_false, ↓lt_eq, ob_some, b2_some, up1_some, kd_sI, ln_sI, gP_sI, gI_sI, kd_rI, ln_rI, gP_rI, gI_rI, kd_bmp, ln_bmp, gP_bmp, gI_bmp, up_at, i0, i1]
end
