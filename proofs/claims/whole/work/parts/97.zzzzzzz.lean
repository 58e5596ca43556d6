/-! style: a style is added, both sides -/
section
variable {tg tg' : Nat → List Nat} {g g' h h0 h1 h2 h' : Hp} {m M : Nat → Int32} {r x c y a S du po n Y : Nat} {d d0 : Nat → Int32} {R : List Rl} {b : Nat → Nat} {e : Nat}
theorem c_adSty (K : Rt tg h r 5) (hr : r ≤ sz h) (h9 : 109 ≤ sz h) (S0 : RmS h r) (V : RmV h r m) (I : MI m) (hS : S = Nn m 2) (S10 : S < 10) (t5 : tg 5 = [5, 3]) (S5 : StyS h 5) (C : CoS h 5 R) (D : DrD d0 R d) (G : GdR R 400) : ∃ tg' h', MX7_addStyle h r 5 (nI du) = some h' ∧ Rx tg h tg' h' (fun y => y = 5) ∧ cst h' + rmP h' r ≤ cst h + rmP h r ∧ RmS h' r ∧ RmV h' r (styM m S du R.length (poL R R.length) d) ∧ kd h' 5 = 8 ∧ gI h' 5 1 = nI R.length := by
  obtain ⟨-, -, ⟨b2, b2'⟩, -⟩ := I.1.f
  obtain ⟨B, v1, v2, v3, v4⟩ := rv_split.mp V
  have hA : gP h r 2 ≠ 0 := S0.2.2.1.1
  obtain ⟨tg1, h1, c, k1, W⟩ := own2 K hr h9 S0 S10
  obtain ⟨w1, w2, w3, w4, w5, w6⟩ := W
  have K1 := w1.rt K hr h9
  have hr1 : r ≤ sz h1 := by have := w1.2.1; omega
  have eP : gP h1 r = gP h r := w3.2.1
  have hA1 : gP h1 r 2 ≠ 0 := by rw [eP]; exact hA
  rw [← eP] at w5
  have tc := K1.o (k := 2) (j := S) (by rw [← w5]; exact w6)
  rw [← w5] at tc
  have c3 : c ≠ 3 := by rw [w5]; exact K1.o3
  have cS : StyS h1 c := by rw [w5]; exact w4.2.2.2.2.2.2.2.2.2.2.2.2.2.2.2.2.2.1 S (by rw [← w5]; exact w6)
  -- the reader's style is as it was
  have le5 : ∀ k, gP h 5 k ≤ sz h := fun k => K.1.2.2.2.2.2 5 k
  have A5 : Aq (fun y => y = 5) (tg 5) := fun y hy hs => by
    subst hy
    rw [t5] at hs
    have := suf1 hs (List.suffix_cons 5 [3])
    omega
  have o5 := w1.2.2.2 5 (by omega) (Or.inr A5)
  obtain ⟨u1, u2, u3⟩ := w1.2.2.1 5 (by omega)
  have ak : ∀ k, gP h 5 k ≠ 0 → Aq (fun y => y = 5) (tg (gP h 5 k)) := fun k hk y hy hs => by
    subst hy
    rw [tgc K.1 hk (by omega), t5] at hs
    have := suf1 hs (⟨[k, 5], rfl⟩ : [3] <:+ [k, 5, 3])
    omega
  have oa : ∀ k, gP h 5 k ≠ 0 → gI h1 (gP h 5 k) = gI h (gP h 5 k) ∧ kd h1 (gP h 5 k) = kd h (gP h 5 k) ∧ ln h1 (gP h 5 k) = ln h (gP h 5 k) := fun k hk => ⟨(w1.2.2.2 _ (le5 k) (Or.inr (ak k hk))).1, (w1.2.2.1 _ (le5 k)).2⟩
  have S51 : StyS h1 5 := by
    obtain ⟨s1, s2, s3, s4, s5, s6, s7, s8⟩ := S5
    unfold StyS ar
    rw [o5.2, u2, (oa 2 s2.1).2.1, (oa 2 s2.1).2.2, (oa 3 s3.1).2.1, (oa 3 s3.1).2.2, (oa 4 s4.1).2.1, (oa 4 s4.1).2.2, (oa 5 s5.1).2.1, (oa 5 s5.1).2.2, (oa 6 s6.1).2.1, (oa 6 s6.1).2.2, (oa 7 s7.1).2.1, (oa 7 s7.1).2.2, (oa 8 s8.1).2.1, (oa 8 s8.1).2.2]
    exact ⟨s1, s2, s3, s4, s5, s6, s7, s8⟩
  have C1 : CoS h1 5 R := by
    obtain ⟨s1, s2, s3, s4, s5, s6, s7, s8⟩ := S5
    unfold CoS
    rw [o5.1, o5.2, (oa 2 s2.1).1, (oa 3 s3.1).1, (oa 4 s4.1).1, (oa 5 s5.1).1, (oa 6 s6.1).1]
    exact C
  have A := AP.of K1.1 w6 c3 (by omega : (5 : Nat) ≠ 3) tc (u1.trans t5) (by intro z; simpa using congrArg List.length z) (fun k z => by
    have := congrArg List.getLast? z
    simp at this) (fun k z => by simpa using congrArg List.length z)
  obtain ⟨h2, k2, Cc⟩ := c_cpSty A cS S51
  have sS := (cy_sty (m := m) (Y := 320962) A cS Cc).1
  have C2 := C1.cy G Cc cS
  have hD : ∀ b, (b = c ∨ ∃ k, gP h1 c k ≠ 0 ∧ b = gP h1 c k) → b ≠ 0 ∧ [S, 2, 5] <:+ tg1 b := fun b hb => by
    rcases hb with hb | ⟨k, hk, hb⟩
    · rw [hb]; exact ⟨w6, by rw [tc]; exact List.suffix_refl _⟩
    · rw [hb]; exact ⟨hk, by rw [tgc K1.1 hk c3, tc]; exact List.suffix_append [k] _⟩
  obtain ⟨h3, hh3⟩ : ∃ h3, h3 = sI h2 c 0 (nI du) := ⟨_, rfl⟩
  have F3 : Fr (fun b => b = c ∨ ∃ k, gP h1 c k ≠ 0 ∧ b = gP h1 c k) h1 h3 := by rw [hh3]; exact Cc.1.trans (Fr.sI (Or.inl rfl))
  have sS3 : StyS h3 c := by rw [hh3]; exact sS
  have nc : ∀ k, gP h2 c k ≠ c := fun k => by
    rw [Cc.1.2.2.1]
    by_cases z : gP h1 c k = 0
    · rw [z]; exact fun e => w6 e.symm
    · exact (A.2.2.2 k z).1
  have C3 : CoS h3 c R := by
    unfold CoS
    rw [hh3, gI_sI, if_pos rfl, up_at, if_neg (by decide), gP_sI, gI_sI, if_neg (nc 2), gI_sI, if_neg (nc 3), gI_sI, if_neg (nc 4), gI_sI, if_neg (nc 5), gI_sI, if_neg (nc 6)]
    exact C2
  have e0 : gI h3 c 0 = nI du := by rw [hh3, gI_sI, if_pos rfl, up_at, if_pos rfl]
  have Z2 := Of.fr K1 F3 hA1 hD
  have eP' : gP h3 = gP h1 := F3.2.2.1
  have ec : gP h3 (gP h3 r 2) S = c := by rw [eP']; exact w5.symm
  have ec2 : gP h3 (gP h1 r 2) S = c := by rw [eP']; exact w5.symm
  have X3 : Rx tg h tg1 h3 (fun y => y = 5) := w1.trans (Rx.fr K1.1 F3 (fun b hb => ⟨(hD b hb).1, 5, rfl, (List.suffix_append [S, 2] [5]).trans (hD b hb).2⟩))
  have Z : Of tg h h3 r 5 2 S := w3.trans Z2 w1.2.1 (fun z hz => (w1.2.2.1 z hz).1)
  have RS3 : RmS h3 r := w4.ob K1 hr1 (by omega) Z2 hA1 (by rw [ec2]; exact ⟨fun z => by omega, fun _ => sS3, fun z => by omega, fun z => by omega⟩)
  have K3 : Rt tg1 h3 r 5 := K1.fr F3
  have V3 : RmV h3 r m := rv_split.mpr ⟨RB.of K hr Z hA (by omega) B, fun i hi => VP.of K hr Z hA (fun z => by omega) (v1 i hi), fun i hi => VM.of K hr Z hA (fun z => by omega) (v2 i hi), fun i hi => VL.of K hr Z hA (fun z => by omega) (v3 i hi), fun i hi => VY.of K hr Z hA (fun z => by omega) (v4 i hi)⟩
  have poB : poL R R.length ≤ 562 := by have := G.2.2.1; omega
  have VN : VY h3 r (styM m S du R.length (poL R R.length) d) S := by
    unfold VY
    rw [ec]
    exact ⟨w6, C3.v e0 D G S10⟩
  obtain ⟨RS4, V4, F4⟩ := rv_st (M := styM m S du R.length (poL R R.length) d) K3 RS3 I V3 hS S10 VN (fun y h2 hy => styM_o poB h2 hy) (by unfold styM; rw [if_pos rfl]) rfl
  have X4 : Rx tg h tg1 (sI h3 r 3 (nI (S + 1))) (fun y => y = 5) := X3.trans (Rx.fr K3.1 F4 (fun b hb => by
    rw [hb]
    exact ⟨K.2.2.2.2, 5, rfl, by rw [K3.2.2.1]; exact List.suffix_refl _⟩))
  have g5c : (5 : Nat) ≠ c := fun e => by
    have : tg1 5 = tg1 c := by rw [← e]
    rw [u1, t5, tc] at this
    simpa using congrArg List.length this
  have g5r : (5 : Nat) ≠ r := fun e => by
    have := K.2.2.1
    rw [← e, t5] at this
    simpa using congrArg List.length this
  have o35 : gI h3 5 = gI h1 5 := F3.2.2.2.2.2.2 5 (fun z => by
    rcases z with z | ⟨k, z1, z2⟩
    · exact g5c z
    · exact (A.2.2.2 k z1).2.1 z2.symm)
  refine ⟨tg1, sI h3 r 3 (nI (S + 1)), ?_, X4, ?_, RS4, V4, ?_, ?_⟩
  · have e3 : gI h r 3 = nI S := by rw [V.2.2.1, b2, hS]
    have e33 : gI h3 r 3 = nI S := by
      have := (Z.cells K hr hA).1.2.2.1
      rw [this]; exact e3
    unfold MX7_addStyle
    simp only [ZL]
    rw [gg_t S0.1, e3, k1, b2_some, gg_t cS.1, k2, ob_some, gg_t sS.1, lt_eq, ← hh3, show kd h2 r = 6 by rw [show kd h2 r = kd h3 r by rw [hh3]; rfl]; exact RS3.1, gg_t (show (6 : Nat) = 6 from rfl), e33, nAdd, lt_eq]
  · rw [(rmP_fr F4).1, (rmP_fr (r := r) F4).2, (rmP_fr F3).1, (rmP_fr (r := r) F3).2]
    exact w2
  · show kd h3 5 = 8
    rw [F3.1]; exact S51.1
  · rw [gI_sI, if_neg g5r, o35]; exact C1.1
/-- the reference copies its draft -/
theorem r_100 (Rg : RS g) (em : gI g 74 = m) (e20 : gI g 73 20 = nI po) (e19 : gI g 73 19 = nI n) (e2 : m 2 = nI S) (hS : S < 10) (p2 : 2 ≤ po) (hp : po ≤ 562) : ∃ g', MX12_style_100 g 73 (nI du) (nI (320962 + 562 * S)) (nI 2) = some (nI n, g') ∧ Fr (fun y => y = 74) g g' ∧ gI g' 74 = styM m S du n po (gI g 83) := by
  obtain ⟨Y, hY⟩ : ∃ Y, Y = 320962 + 562 * S := ⟨_, rfl⟩
  rw [← hY]
  have Kl : ∀ d k z, k + d = po → 2 ≤ k → Fr (fun y => y = 74) g z → (∀ y, gI z 74 y = if Y + 2 ≤ y ∧ y < Y + k then gI g 83 (y - Y) else m y) → ∃ z', it (fun q : Int32 × Hp => BX12_style_100 q.2 73 (nI du) (nI Y) q.1) (nI k, z) = MX12_style_128 z' 73 (nI du) (nI Y) ∧ Fr (fun y => y = 74) g z' ∧ ∀ y, gI z' 74 y = if Y + 2 ≤ y ∧ y < Y + po then gI g 83 (y - Y) else m y := fun d => by
    induction d with
    | zero =>
      intro k z hk k2 F hz
      have hk : k = po := hk
      subst hk
      refine ⟨z, it_u1 (X := MX12_style_128 z 73 (nI du) (nI Y)) ?_, F, hz⟩
      show BX12_style_100 z 73 (nI du) (nI Y) (nI k) = _
      unfold BX12_style_100
      rw [gg_t (RS.f (Rg.fr F)).1, F.2.2.2.2.2.2 73 (by decide), e20, if_pos (nI_le (Nat.le_refl _) (by omega))]
    | succ d ih =>
      intro k z hk k2 F hz
      have Rz := RS.f (Rg.fr F)
      have st : BX12_style_100 z 73 (nI du) (nI Y) (nI k) = some (.inl (nI (k + 1), sI z 74 (Y + k) (gI g 83 k))) := by
        unfold BX12_style_100
        simp only [ZL, Rz]
        rw [gg_T, F.2.2.2.2.2.2 73 (by decide), e20, if_neg (nI_ge (by omega) (by omega)), gg_T, gg_in (by omega) (by omega), gg_T, nAdd, gg_in (by omega) (by omega), nCl (by omega), nCl (by omega), F.2.2.2.2.2.2 83 (by decide), lt_eq, nAdd]
      obtain ⟨z', q1, q2⟩ := ih (k + 1) (sI z 74 (Y + k) (gI g 83 k)) (by omega) (by omega) (F.trans (Fr.sI (S := fun y => y = 74) rfl)) (fun y => by
        rw [gI_sI, if_pos rfl, up_at, hz]
        by_cases w : y = Y + k
        · rw [if_pos w, if_pos (by omega), w, Nat.add_sub_cancel_left]
        · rw [if_neg w]
          by_cases v : Y + 2 ≤ y ∧ y < Y + k
          · rw [if_pos v, if_pos (by omega)]
          · rw [if_neg v, if_neg (by omega)])
      exact ⟨z', by rw [it_next (s' := (nI (k + 1), sI z 74 (Y + k) (gI g 83 k))) st]; exact q1, q2⟩
  obtain ⟨z, q1, q2, q3⟩ := Kl (po - 2) 2 g (by omega) (by omega) Fr.rfl (fun y => by rw [if_neg (by omega), em])
  have Rz := RS.f (Rg.fr q2)
  have o73 : ∀ j, gI z 73 j = gI g 73 j := fun j => by rw [q2.2.2.2.2.2.2 73 (by decide)]
  obtain ⟨z1, hz1⟩ : ∃ z1, z1 = sI (sI z 74 Y (nI du)) 74 (Y + 1) (nI n) := ⟨_, rfl⟩
  have z2 : gI z1 74 2 = nI S := by
    rw [hz1, gI_sI, if_pos rfl, up_at, if_neg (by omega), gI_sI, if_pos rfl, up_at, if_neg (by omega), q3, if_neg (by omega)]
    exact e2
  refine ⟨sI z1 74 2 (nI (S + 1)), ?_, ?_, ?_⟩
  · unfold MX12_style_100
    rw [q1]
    unfold MX12_style_128
    simp only [ZL, Rz]
    rw [gg_T, gg_T, gg_in (by omega) (by omega), nCl (by omega), lt_eq, nAdd, gg_in (by omega) (by omega), nCl (by omega), show gI (sI z 74 Y (nI du)) 73 19 = nI n by rw [gI_sI, if_neg (by decide), o73]; exact e19, lt_eq, ← hz1, gg_in (by omega) (by omega), nCl (by omega), z2, nAdd, lt_eq, show gI (sI z1 74 2 (nI (S + 1))) 73 19 = nI n by rw [gI_sI, if_neg (by decide), hz1, gI_sI, if_neg (by decide), gI_sI, if_neg (by decide), o73]; exact e19]
  · rw [hz1]
    exact ((q2.trans (Fr.sI (S := fun y => y = 74) rfl)).trans (Fr.sI (S := fun y => y = 74) rfl)).trans (Fr.sI (S := fun y => y = 74) rfl)
  · funext y
    rw [gI_sI, if_pos rfl, up_at, hz1, gI_sI, if_pos rfl, up_at, gI_sI, if_pos rfl, up_at, q3]
    unfold styM
    rw [← hY]
    by_cases w : y = 2
    · rw [if_pos w, if_pos w]
    · rw [if_neg w, if_neg w]
      by_cases v : y = Y
      · rw [if_neg (by omega), if_pos v, if_pos v]
      · rw [if_neg v, if_neg v]
end
