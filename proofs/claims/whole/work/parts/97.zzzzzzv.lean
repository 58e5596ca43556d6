/-! style: a style's text read, both sides -/
noncomputable def styP (b : Nat → Nat) (e : Nat) : Nat ⊕ List Rl := if e ≤ ik b e 0 then .inr [] else stP b e 13 [] 0
/-- the reader's cells -/
def D3s (h : Hp) (y : Nat) : Prop := y = 4 ∨ DSt h y
section
variable {tg : Nat → List Nat} {h0 h h1 h' g0 g g1 : Hp} {b : Nat → Nat} {m k t : Nat → Int32} {i n f : Int32} {D : Nat → Prop} {e a a' j p v r d : Nat} {rs R : List Rl}
theorem CSt.f3 (C : CSt tg h m k i t n f) (F : Fr D h h') (hD : ∀ b, D b → b ≠ 0 ∧ [3] <:+ tg b) : CSt tg h' m k i t n f := by
  obtain ⟨O, X, X2, S, V, Dk, DV, I, T, Im, Tr⟩ := C
  obtain ⟨t1, t2, t3, -, t5, t13, t19, t48, -⟩ := tgs O X
  have A : ∀ y, y ≠ 3 → Aw tg D y := fun y hy => Aw.of hD hy
  have n1 : ¬ D 1 := fun d => by
    have := (hD 1 d).2
    rw [t1] at this
    have := this.length_le
    simp at this
  have n2 : ¬ D 2 := fun d => by
    have := (hD 2 d).2
    rw [t2] at this
    have := suf1 this (List.suffix_refl [0])
    omega
  have e5 := sm3.fr (r := 19) O t3 F (A 5 (by omega)) (by omega) (by rw [t19]; exact List.suffix_refl _)
  have e6 := sm3.fr (r := 48) O t3 F (A 6 (by omega)) (by omega) (by rw [t48]; exact List.suffix_refl _)
  have X2' : XS2 h' := by
    obtain ⟨a1, a2, a3, a4, a5, a6, a7, a8, a9, a10, a11, a12, s5, s13⟩ := X2
    have H : ∀ b, (b = 0 ∨ [4] <:+ tg b) → sm h h' b := fun b u => F.sm (fun z => by
      obtain ⟨z1, z2⟩ := A 4 (by omega) b z
      rcases u with u | u
      · exact z1 u
      · exact z2 u)
    refine ⟨a1.fr F, a2.fr F, a3.fr F, a4.fr F, a5.fr F, a6.fr F, a7.fr F, a8.fr F, a9.fr F, a10.fr F, a11.fr F, a12.fr F, s5.fr F, s13.congr ?_ ?_⟩
    · exact H 13 (Or.inr (by rw [t13]; exact List.suffix_refl _))
    · intro j
      refine H _ ?_
      by_cases z : gP h 13 j = 0
      · exact Or.inl z
      · refine Or.inr ?_
        rw [tgc O z (by omega), t13]
        exact List.suffix_cons _ _
  exact ⟨O.fr F, X.fr F, X2', S.congr e5, V.congr e5, Dk.congr e6, DV.congr e6, I, T.fr F n1 n2, Im.fr O X F (A 9 (by omega)) (A 10 (by omega)), tr_fr Tr O X F (A 11 (by omega))⟩
theorem aps_of (O : Own tg h) (X : XS h) (S : StyS h 5) : APs h ∧ ∀ b, D3s h b → b ≠ 0 ∧ [3] <:+ tg b := by
  obtain ⟨t1, t2, t3, t4, t5, -⟩ := tgs O X
  obtain ⟨s1, s2, s3, s4, s5, s6, -⟩ := S
  have nz : ∀ k, 2 ≤ k → k ≤ 6 → gP h 5 k ≠ 0 := fun k h1 h2 => by
    have : k = 2 ∨ k = 3 ∨ k = 4 ∨ k = 5 ∨ k = 6 := by omega
    rcases this with rfl | rfl | rfl | rfl | rfl
    · exact s2.1
    · exact s3.1
    · exact s4.1
    · exact s5.1
    · exact s6.1
  have tk : ∀ k, 2 ≤ k → k ≤ 6 → tg (gP h 5 k) = [k, 5, 3] := fun k h1 h2 => by rw [tgc O (nz k h1 h2) (by omega), t5]
  have ne : ∀ {x y : Nat} {l l' : List Nat}, tg x = l → tg y = l' → l ≠ l' → x ≠ y := fun hx hy hl e => hl (by rw [← hx, ← hy, e])
  refine ⟨⟨fun k y h1 h2 hy => ?_, fun j k h1 h2 h3 h4 hj => ?_⟩, fun b hb => ?_⟩
  · have l3 : (tg (gP h 5 k)).length = 3 := by rw [tk k h1 h2]; rfl
    intro e
    rw [e] at l3
    rcases hy with rfl | rfl | rfl | rfl
    · rw [t2] at l3; exact absurd l3 (by decide)
    · rw [t3] at l3; exact absurd l3 (by decide)
    · rw [t4] at l3; exact absurd l3 (by decide)
    · rw [t5] at l3; exact absurd l3 (by decide)
  · refine ne (tk j h1 h2) (tk k h3 h4) (fun e => hj ?_)
    injection e
  · rcases hb with rfl | rfl | rfl | ⟨k, h1, h2, rfl⟩
    · exact ⟨by omega, by rw [t4]; exact List.suffix_cons _ _⟩
    · exact ⟨by omega, by rw [t3]; exact List.suffix_refl _⟩
    · exact ⟨by omega, by rw [t5]; exact List.suffix_cons _ _⟩
    · exact ⟨nz k h1 h2, by rw [tk k h1 h2]; exact ⟨[k, 5], rfl⟩⟩
/-- the class reads a style's text -/
theorem c_fstS (X : XS h) (S : StyS h 5) (A : APs h) (e4 : e ≤ 400) (hb : ∀ i, i < e → gI h 2 i = bS (b i) ∧ b i ≤ 255) : (∀ p, styP b e = .inl p → p ≤ e ∧ ∃ h', MX10_firstWrong h 3 (nI e) = some (nI p, h') ∧ Fr (D3s h) h h') ∧ ∀ R, styP b e = .inr R → GdR R e ∧ ∃ h0 h' a, MX10_firstWrong h 3 (nI e) = some (-nI 1, h') ∧ Fr (D3s h) h h0 ∧ KS h0 h' a R ∧ KBs h0 b e ∧ gP h0 = gP h := by
  obtain ⟨x1, x2, x3, x4, x5, x6, x7, x8, x9, x10, x11, -⟩ := id X
  obtain ⟨s1, -⟩ := id S
  obtain ⟨h3, hh3⟩ : ∃ h3, h3 = sI h 5 1 (nI 0) := ⟨_, rfl⟩
  obtain ⟨h19, hh19⟩ : ∃ h19, h19 = sI (sI (sI h3 3 1 (nI e)) 3 2 (nI 0)) 3 3 (-nI 1) := ⟨_, rfl⟩
  have F19 : Fr (D3s h) h h19 := by
    rw [hh19, hh3]
    exact (((Fr.sI (S := D3s h) (Or.inr (Or.inr (Or.inl rfl)))).trans (Fr.sI (S := D3s h) (Or.inr (Or.inl rfl)))).trans (Fr.sI (S := D3s h) (Or.inr (Or.inl rfl)))).trans (Fr.sI (S := D3s h) (Or.inr (Or.inl rfl)))
  have g1 : gI h19 3 1 = nI e := by rw [hh19, gI_sI, if_pos rfl, up_at, if_neg (by decide), gI_sI, if_pos rfl, up_at, if_neg (by decide), gI_sI, if_pos rfl, up_at, if_pos rfl]
  have g2 : gI h19 3 2 = nI 0 := by rw [hh19, gI_sI, if_pos rfl, up_at, if_neg (by decide), gI_sI, if_pos rfl, up_at, if_pos rfl]
  have g3 : gI h19 3 3 = -nI 1 := by rw [hh19, gI_sI, if_pos rfl, up_at, if_pos rfl]
  have g5 : gI h19 5 1 = nI 0 := by rw [hh19, gI_sI, if_neg (by decide), gI_sI, if_neg (by decide), gI_sI, if_neg (by decide), hh3, gI_sI, if_pos rfl, up_at, if_pos rfl]
  have gt : ∀ i, gI h19 2 i = gI h 2 i := fun i => by rw [hh19, gI_sI, if_neg (by decide), gI_sI, if_neg (by decide), gI_sI, if_neg (by decide), hh3, gI_sI, if_neg (by decide)]
  have hb' : ∀ i, i < e → gI h19 2 i = bS (b i) ∧ b i ≤ 255 := fun i hi => by rw [gt]; exact hb i hi
  obtain ⟨h25, k1, k2, k3⟩ := c_ink (h := h19) (b := b) (e := e) (by rw [F19.1]; exact x6) (by rw [F19.2.2.1]; exact x7) (by rw [F19.2.2.1]; exact x8) (by rw [F19.1]; exact x3) (by rw [F19.2.1]; exact x4) (by rw [F19.1]; exact x9) (by rw [F19.2.1]; exact x10) g1 e4 hb'
  have F25 : Fr (D3s h) h h25 := F19.trans (k2.mono (fun y z => Or.inl z))
  have o25 : ∀ y, y ≠ 4 → gI h25 y = gI h19 y := fun y hy => k2.2.2.2.2.2.2 y hy
  have T25 : TQ h25 b e := ⟨by rw [F25.1]; exact x6, by rw [F25.2.2.1]; exact x7, by rw [F25.2.2.1]; exact x8, by rw [F25.2.2.1]; exact x11, by rw [F25.1]; exact x3, by rw [F25.2.1]; exact x4, by rw [F25.1]; exact x9, by rw [F25.2.1]; exact x10, by rw [o25 3 (by omega)]; exact g1, e4, fun i hi => by rw [o25 2 (by omega)]; exact hb' i hi, k3⟩
  have A25 : APs h25 := by
    unfold APs at A ⊢
    rw [F25.2.2.1]
    exact A
  have B25 : KBs h25 b e := ⟨T25, S.fr F25, by rw [o25 3 (by omega)]; exact g3, A25⟩
  have K25 : KS h25 h25 0 [] := ⟨Fr.rfl, fun _ _ => rfl, by rw [o25 3 (by omega)]; exact g2, by rw [o25 5 (by omega)]; exact g5, fun _ _ => rfl, fun r hr => absurd hr (Nat.not_lt_zero r)⟩
  have G0 : GdR [] 0 := ⟨Nat.zero_le _, Nat.zero_le _, Nat.le_refl _, fun r hr => absurd hr (Nat.not_lt_zero r)⟩
  have jm : jmin (nI e) (nI (ln h3 2)) = nI e := by
    rw [hh3, ln_sI, x4, lmin (by omega) (by omega), Nat.min_eq_left e4]
  obtain ⟨i1, i2⟩ := ik_le (b := b) (Nat.zero_le e)
  have pre : MX10_firstWrong h 3 (nI e) = if e ≤ ik b e 0 then it (fun q : Int32 × Int32 × Hp => BX10_firstWrong_56 q.2.2 3 q.1 q.2.1) (nI 0, nI 0, h25) else it (fun q : Int32 × Int32 × Hp => BX10_firstWrong_56 q.2.2 3 q.1 q.2.1) (nI 1, nI 0, h25) := by
    unfold MX10_firstWrong MX10_firstWrong_53 MX10_firstWrong_56
    simp only [ZL]
    rw [gg_t x6, x11, gg_t s1, lt_eq, ← hh3, show gP h 3 0 = 2 from x7, gg_t x3, jm, lt_eq, lt_eq, lt_eq, ← hh19, k1, ob_some, gg_t T25.1, T25.2.2.1, gg_t T25.2.2.2.2.2.2.1, T25.2.2.2.2.2.2.2.1, gg_in (by omega) (by omega), nCl (by omega), k3 0 (Nat.zero_le _), T25.2.2.2.2.2.2.2.2.1]
    by_cases z : e ≤ ik b e 0
    · rw [if_pos (nI_le z (by omega)), if_pos z]
    · rw [if_neg (nI_ge (by omega) (by omega)), if_neg z]
  have mD : ∀ y, DSt h25 y → D3s h y := fun y z => by
    unfold DSt at z
    rw [F25.2.2.1] at z
    exact Or.inr z
  unfold styP
  rw [pre]
  by_cases z : e ≤ ik b e 0
  · rw [if_pos z, if_pos z, c_st0 T25.1]
    refine ⟨fun p hp => (nomatch hp), fun R hR => ?_⟩
    have hR : R = [] := by cases hR; rfl
    subst hR
    exact ⟨⟨Nat.zero_le _, Nat.zero_le _, Nat.le_add_right _ _, G0.2.2.2⟩, h25, h25, 0, by rw [B25.2.2.1], F25, K25, B25, F25.2.2.1⟩
  · rw [if_neg z, if_neg z]
    obtain ⟨c1, c2⟩ := c_st B25 12 h25 0 0 [] K25 (Nat.zero_le _) (Nat.zero_le _) rfl G0 (by decide) rfl
    obtain ⟨p1, p2⟩ := stP_g (b := b) (e := e) 13 [] 0 G0 (Nat.zero_le _) rfl
    refine ⟨fun p hp => ?_, fun R hR => ?_⟩
    · obtain ⟨h', y1, y2⟩ := c1 p hp
      exact ⟨p1 p hp, h', y1, F25.trans (y2.mono mD)⟩
    · obtain ⟨h', a', y1, y2⟩ := c2 R hR
      exact ⟨p2 R hR, h25, h', a', y1, F25, y2, B25, F25.2.2.1⟩
/-- the reference reads a style's text -/
theorem r_fstS (T : TR g b e) (ha : gI g 73 8 = nI 0) : (∀ p, styP b e = .inl p → ∃ g', MX12_readStyle g 73 = some (nI 0, g') ∧ Fr DFt g g' ∧ (∀ j, j ≠ 8 → j ≠ 9 → j ≠ 10 → j ≠ 11 → j ≠ 19 → j ≠ 20 → gI g' 73 j = gI g 73 j) ∧ gI g' 73 9 = nI p) ∧ ∀ R, styP b e = .inr R → ∃ g', MX12_readStyle g 73 = some (nI 1, g') ∧ Fr DFt g g' ∧ (∀ j, j ≠ 8 → j ≠ 8 → j ≠ 10 → j ≠ 11 → j ≠ 19 → j ≠ 20 → gI g' 73 j = gI g 73 j) ∧ gI g' 73 19 = nI R.length ∧ gI g' 73 20 = nI (poL R R.length) ∧ (∀ r, r < R.length → RdF (gI g' 83) R r) ∧ ∀ j, ¬ (2 ≤ j ∧ j < 2 + 5 * R.length) → ¬ (62 ≤ j ∧ j < poL R R.length) → gI g' 83 j = gI g 83 j := by
  obtain ⟨g12, hg12⟩ : ∃ g12, g12 = sI (sI (sI g 73 19 (nI 0)) 73 20 (nI 62)) 73 10 (nI 0) := ⟨_, rfl⟩
  have f73 : ∀ (g : Hp) (j : Nat) (x : Int32), Fr DFt g (sI g 73 j x) := fun g j x => Fr.sI (S := DFt) (Or.inl rfl)
  have F12 : Fr DFt g g12 := by rw [hg12]; exact ((f73 _ _ _).trans (f73 _ _ _)).trans (f73 _ _ _)
  have o12 : ∀ j, j ≠ 10 → j ≠ 19 → j ≠ 20 → gI g12 73 j = gI g 73 j := fun j h1 h2 h3 => by rw [hg12, gI_sI, if_pos rfl, up_at, if_neg h1, gI_sI, if_pos rfl, up_at, if_neg h3, gI_sI, if_pos rfl, up_at, if_neg h2]
  have T12 : TR g12 b e := by rw [hg12]; exact ((T.s (by omega)).s (by omega)).s (by omega)
  have e4 := T.2.2.1
  have a12 : gI g12 73 8 = nI 0 := by rw [o12 8 (by omega) (by omega) (by omega)]; exact ha
  have bk := r_bk T12 a12 (Nat.zero_le e)
  obtain ⟨i1, i2⟩ := ik_le (b := b) (Nat.zero_le e)
  obtain ⟨g18, hg18⟩ : ∃ g18, g18 = sI g12 73 8 (nI (ik b e 0)) := ⟨_, rfl⟩
  rw [← hg18] at bk
  have T18 : TR g18 b e := by rw [hg18]; exact T12.s (by omega)
  have F18 : Fr DFt g g18 := by rw [hg18]; exact F12.trans (f73 _ _ _)
  have a18 : gI g18 73 8 = nI (ik b e 0) := by rw [hg18]; exact at8
  have o18 : ∀ j, j ≠ 8 → j ≠ 10 → j ≠ 19 → j ≠ 20 → gI g18 73 j = gI g 73 j := fun j h0 h1 h2 h3 => by rw [hg18, gI_sI, if_pos rfl, up_at, if_neg h0]; exact o12 j h1 h2 h3
  have o83 : ∀ j, gI g18 83 j = gI g 83 j := fun j => by rw [hg18, gI_sI, if_neg (by decide), hg12, gI_sI, if_neg (by decide), gI_sI, if_neg (by decide), gI_sI, if_neg (by decide)]
  have q10 : gI g18 73 10 = nI 0 := by rw [hg18, gI_sI, if_pos rfl, up_at, if_neg (by decide), hg12, gI_sI, if_pos rfl, up_at, if_pos rfl]
  have q19 : gI g18 73 19 = nI 0 := by rw [hg18, gI_sI, if_pos rfl, up_at, if_neg (by decide), hg12, gI_sI, if_pos rfl, up_at, if_neg (by decide), gI_sI, if_pos rfl, up_at, if_neg (by decide), gI_sI, if_pos rfl, up_at, if_pos rfl]
  have q20 : gI g18 73 20 = nI 62 := by rw [hg18, gI_sI, if_pos rfl, up_at, if_neg (by decide), hg12, gI_sI, if_pos rfl, up_at, if_neg (by decide), gI_sI, if_pos rfl, up_at, if_pos rfl]
  have K18 : RPs g18 g18 (ik b e 0) [] ([] : List Rl).length ([] : List Rl).length := ⟨Fr.rfl, fun _ _ _ _ _ _ _ => rfl, a18, q10, q19, q20, fun r hr => absurd hr (Nat.not_lt_zero r), fun _ _ _ => rfl⟩
  have G0 : GdR [] 0 := ⟨Nat.zero_le _, Nat.zero_le _, Nat.le_refl _, fun r hr => absurd hr (Nat.not_lt_zero r)⟩
  have pre : MX12_readStyle g 73 = if e ≤ ik b e 0 then it (fun q : Int32 × Hp => BX12_readStyle_37 q.2 73 q.1) (nI 0, g18) else it (fun q : Int32 × Hp => BX12_readStyle_37 q.2 73 q.1) (nI 1, g18) := by
    unfold MX12_readStyle MX12_readStyle_36 MX12_readStyle_37
    simp only [ZL]
    rw [gg_t (RS.f T.1).1, lt_eq, lt_eq, lt_eq, ← hg12, bk, ob_some, gg_t (RS.f T18.1).1, T18.2.1, a18]
    by_cases z : e ≤ ik b e 0
    · rw [if_pos (nI_le z (by omega)), if_pos z]
    · rw [if_neg (nI_ge (by omega) (by omega)), if_neg z]
  unfold styP
  rw [pre]
  by_cases z : e ≤ ik b e 0
  · rw [if_pos z, if_pos z]
    refine ⟨fun p hp => (nomatch hp), fun R hR => ?_⟩
    have hR : R = [] := by cases hR; rfl
    subst hR
    refine ⟨g18, it_done ?_, F18, fun j h1 _ h3 _ h5 h6 => o18 j h1 h3 h5 h6, q19, q20, fun r hr => absurd hr (Nat.not_lt_zero r), fun j _ _ => o83 j⟩
    show BX12_readStyle_37 g18 73 (nI 0) = _
    unfold BX12_readStyle_37
    simp only [ZL]
    rw [if_pos trivial]
  · rw [if_neg z, if_neg z]
    obtain ⟨c1, c2⟩ := r_st T18 13 g18 (ik b e 0) 0 [] K18 i2 (Nat.zero_le _) (ik_i (Nat.zero_le _)) G0 rfl
    refine ⟨fun p hp => ?_, fun R hR => ?_⟩
    · obtain ⟨g', y1, y2, y3, y4⟩ := c1 p hp
      exact ⟨g', y1, F18.trans y2, fun j h1 h2 h3 h4 h5 h6 => by rw [y3 j h1 h2 h3 h4 h5 h6]; exact o18 j h1 h3 h5 h6, y4⟩
    · obtain ⟨g', a', y1, y2, y3, y4, y5, y6, y7, y8, y9⟩ := c2 R hR
      exact ⟨g', y1, F18.trans y2, fun j h1 h2 h3 h4 h5 h6 => by rw [y3 j h1 h2 h3 h4 h5 h6]; exact o18 j h1 h3 h5 h6, y6, y7, y8, fun j z1 z2 => by rw [y9 j z1 z2]; exact o83 j⟩
end
