/-! feed -/
/-- a loop of n rounds, told by what holds ahead of each -/
theorem it_cnt {σ ρ : Type} {f : σ → Option (σ ⊕ ρ)} {Q : ρ → Prop} (P : Nat → σ → Prop) (n : Nat) (hs : ∀ j s, j < n → P j s → ∃ s', f s = some (.inl s') ∧ P (j + 1) s') (hf : ∀ s, P n s → ∃ r, f s = some (.inr r) ∧ Q r) {s : σ} (h0 : P 0 s) : ∃ r, it f s = some r ∧ Q r := by
  have K : ∀ d j s, j + d = n → P j s → ∃ r, it f s = some r ∧ Q r := by
    intro d
    induction d with
    | zero =>
      intro j s e p
      have e : j = n := e
      subst e
      obtain ⟨r, e1, q⟩ := hf s p
      exact ⟨r, it_done e1, q⟩
    | succ d ih =>
      intro j s e p
      obtain ⟨s', e1, p'⟩ := hs j s (by omega) p
      rw [it_next e1]
      exact ih (j + 1) s' (by omega) p'
  exact K n 0 s (Nat.zero_add n) h0
def tpB (t : Nat → Int32) (l : Nat) (v : Int32) : Nat → Nat → Int32
  | 0 => t
  | j + 1 => va_up (tpB t l v j) (l + j) ((v >>> (nI (24 - 8 * j) &&& nI 31)) &&& nI 255)
def shN (j : Nat) : Int32 := if j = 4 then -nI 8 else nI (24 - 8 * j)
theorem shN_s : ∀ j, j < 4 → shN j + -nI 8 = shN (j + 1) ∧ ¬ shN j < nI 0 ∧ shN j = nI (24 - 8 * j) := by decide
theorem shN_4 : shN 4 < nI 0 := by decide
theorem bS_and : ∀ b, b < 256 → bS b &&& 255 = nI b := by decide +kernel
theorem toInt8_and (x : Int32) : (x &&& 255).toInt8 = x.toInt8 := by
  rw [← Int8.toBitVec_inj, Int32.toBitVec_toInt8, Int32.toBitVec_toInt8, Int32.toBitVec_and]
  refine BitVec.eq_of_getLsbD_eq fun i hi => ?_
  have h255 : ∀ i, i < 8 → (255 : Int32).toBitVec.getLsbD i = true := by decide
  rw [BitVec.getLsbD_signExtend, BitVec.getLsbD_signExtend, if_pos (show i < 32 by omega), if_pos (show i < 32 by omega), BitVec.getLsbD_and, h255 i hi, Bool.and_true]
theorem bS_8 : ∀ b, b < 256 → (nI b).toInt8.toInt32 = bS b := by decide +kernel
/-- a byte of a number, on both sides -/
theorem by_s (x : Int32) : ∃ b, b ≤ 255 ∧ x &&& nI 255 = nI b ∧ vp_nar .byte x.toInt8.toInt32 = bS b := by
  obtain ⟨b, hb, e⟩ := byN x
  refine ⟨b, hb, e, ?_⟩
  rw [pk_vb, ← toInt8_and x, e, bS_8 b (by omega)]
theorem gIl : ∀ (h : Hp) (a i : Nat) (v : Int32), gI (sI h a i v) a i = v := fun h a i v => by rw [gI_sI, if_pos rfl, up_at, if_pos rfl]
section
variable {tg : Nat → List Nat} {h h' : Hp} {m k t : Nat → Int32} {i n f : Int32}
theorem TpV.byte {l b : Nat} (T : TpV h t (nI l) f) (hl : l < 400) (hb : b ≤ 255) : TpV (sI (sI h 2 l (bS b)) 1 1 (nI (l + 1))) (va_up t l (nI b)) (nI (l + 1)) f := by
  obtain ⟨T1, -, T3, T4⟩ := T
  refine ⟨by simp (disch := omega) only [↓reduceIte, Nat.reduceLT, Nat.reduceLeDiff, Nat.reduceEqDiff, ZL, nAdd, nMul, nSub, nLt, nLe, nEq, nCl, nDiv, nRem2, nM1, nM2, nM3, nM4, nM5, nM6, gg_in, gg_rf, gg_T, if_true, if_false, ↓lt_eq, ob_some, b2_some, up1_some, kd_sI, ln_sI, gP_sI, gI_sI, kd_rI, ln_rI, gP_rI, gI_rI, kd_bmp, ln_bmp, gP_bmp, gI_bmp, up_at, i0, i1], ⟨l + 1, by omega, rfl⟩, by simp (disch := omega) only [↓reduceIte, Nat.reduceLT, Nat.reduceLeDiff, Nat.reduceEqDiff, ZL, nAdd, nMul, nSub, nLt, nLe, nEq, nCl, nDiv, nRem2, nM1, nM2, nM3, nM4, nM5, nM6, gg_in, gg_rf, gg_T, if_true, if_false, ↓lt_eq, ob_some, b2_some, up1_some, kd_sI, ln_sI, gP_sI, gI_sI, kd_rI, ln_rI, gP_rI, gI_rI, kd_bmp, ln_bmp, gP_bmp, gI_bmp, up_at, i0, i1, T3], fun j hj => ?_⟩
  by_cases z : j = l
  · subst z
    have e : Nn (va_up t j (nI b)) j = b := by unfold Nn; rw [up_at, if_pos rfl, nCl (by omega)]
    refine ⟨?_, ⟨b, hb, by rw [up_at, if_pos rfl]⟩⟩
    rw [e]
    simp (disch := omega) only [↓reduceIte, Nat.reduceLT, Nat.reduceLeDiff, Nat.reduceEqDiff, ZL, nAdd, nMul, nSub, nLt, nLe, nEq, nCl, nDiv, nRem2, nM1, nM2, nM3, nM4, nM5, nM6, gg_in, gg_rf, gg_T, if_true, if_false, ↓lt_eq, ob_some, b2_some, up1_some, kd_sI, ln_sI, gP_sI, gI_sI, kd_rI, ln_rI, gP_rI, gI_rI, kd_bmp, ln_bmp, gP_bmp, gI_bmp, up_at, i0, i1]
  · have e1 : va_up t l (nI b) j = t j := by rw [up_at, if_neg z]
    obtain ⟨c1, c2⟩ := T4 j hj
    refine ⟨?_, c2.c e1⟩
    rw [Nn.c e1]
    simp (disch := omega) only [↓reduceIte, Nat.reduceLT, Nat.reduceLeDiff, Nat.reduceEqDiff, ZL, nAdd, nMul, nSub, nLt, nLe, nEq, nCl, nDiv, nRem2, nM1, nM2, nM3, nM4, nM5, nM6, gg_in, gg_rf, gg_T, if_true, if_false, ↓lt_eq, ob_some, b2_some, up1_some, kd_sI, ln_sI, gP_sI, gI_sI, kd_rI, ln_rI, gP_rI, gI_rI, kd_bmp, ln_bmp, gP_bmp, gI_bmp, up_at, i0, i1, z, c1]
theorem c_fnum {l : Nat} (X : XS h) (T : TpV h t (nI l) f) (hl : l + 4 ≤ 400) (v : Int32) : ∃ h1, MX11_feedNumber h 1 v = some h1 ∧ (Fr (fun b => b = 1 ∨ b = 2) h h1 ∧ TpV h1 (tpB t l v 4) (nI (l + 4)) f) := by
  unfold MX11_feedNumber MX11_feedNumber_3
  refine it_cnt (fun j s => s.1 = shN j ∧ Fr (fun b => b = 1 ∨ b = 2) h s.2 ∧ TpV s.2 (tpB t l v j) (nI (l + j)) f) 4 (fun j s hj p => ?_) (fun s p => ?_) ⟨show (24 : Int32) = shN 0 by decide, Fr.rfl, T⟩
  · obtain ⟨x, g⟩ := s
    obtain ⟨p1, F, T'⟩ := p
    have p1 : x = shN j := p1
    subst p1
    obtain ⟨a1, a2, a3⟩ := shN_s j hj
    have X' : XS g := X.fr F
    obtain ⟨b, hb, e1, e2⟩ := by_s (v >>> (nI (24 - 8 * j) &&& nI 31))
    refine ⟨(shN (j + 1), sI (sI g 2 (l + j) (bS b)) 1 1 (nI (l + j + 1))), ?_, rfl, (F.trans (Fr.sI (Or.inr rfl))).trans (Fr.sI (Or.inl rfl)), ?_⟩
    · show BX11_feedNumber_3 g 1 v (shN j) = _
      have T1 := T'.1
      have e3 := e2
      simp (disch := omega) only [↓reduceIte, Nat.reduceLT, Nat.reduceLeDiff, Nat.reduceEqDiff, ZL, nAdd, nMul, nSub, nLt, nLe, nEq, nCl, nDiv, nRem2, nM1, nM2, nM3, nM4, nM5, nM6, gg_in, gg_rf, gg_T, if_true, if_false, ↓lt_eq, ob_some, b2_some, up1_some, kd_sI, ln_sI, gP_sI, gI_sI, kd_rI, ln_rI, gP_rI, gI_rI, kd_bmp, ln_bmp, gP_bmp, gI_bmp, up_at, i0, i1, BX11_feedNumber_3, X'.f, T1, if_neg a2]
      rw [a1, a3, e2]
    · have := T'.byte (b := b) (by omega) hb
      show TpV _ (va_up (tpB t l v j) (l + j) _) _ f
      rw [e1]
      exact this
  · obtain ⟨x, g⟩ := s
    obtain ⟨p1, F, T'⟩ := p
    have p1 : x = shN 4 := p1
    subst p1
    refine ⟨g, ?_, F, T'⟩
    show BX11_feedNumber_3 g 1 v (shN 4) = _
    unfold BX11_feedNumber_3
    rw [if_pos (show shN 4 < 0 by decide)]
theorem RSt.byte {l : Nat} (R : RSt h m k i t (nI l) f) (x : Int32) : RSt (sI (sI h 77 l x) 73 6 (nI (l + 1))) m k i (va_up t l x) (nI (l + 1)) f := by
  obtain ⟨r0, r1, r2, r3, r4, r5, r6⟩ := R
  refine ⟨r0.sI.sI, ?_, ?_, ?_, ?_, ?_, ?_⟩
  · simp (disch := omega) only [↓reduceIte, Nat.reduceLT, Nat.reduceLeDiff, Nat.reduceEqDiff, ZL, nAdd, nMul, nSub, nLt, nLe, nEq, nCl, nDiv, nRem2, nM1, nM2, nM3, nM4, nM5, nM6, gg_in, gg_rf, gg_T, if_true, if_false, ↓lt_eq, ob_some, b2_some, up1_some, kd_sI, ln_sI, gP_sI, gI_sI, kd_rI, ln_rI, gP_rI, gI_rI, kd_bmp, ln_bmp, gP_bmp, gI_bmp, up_at, i0, i1, r1]
  · simp (disch := omega) only [↓reduceIte, Nat.reduceLT, Nat.reduceLeDiff, Nat.reduceEqDiff, ZL, nAdd, nMul, nSub, nLt, nLe, nEq, nCl, nDiv, nRem2, nM1, nM2, nM3, nM4, nM5, nM6, gg_in, gg_rf, gg_T, if_true, if_false, ↓lt_eq, ob_some, b2_some, up1_some, kd_sI, ln_sI, gP_sI, gI_sI, kd_rI, ln_rI, gP_rI, gI_rI, kd_bmp, ln_bmp, gP_bmp, gI_bmp, up_at, i0, i1, r2]
  · simp (disch := omega) only [↓reduceIte, Nat.reduceLT, Nat.reduceLeDiff, Nat.reduceEqDiff, ZL, nAdd, nMul, nSub, nLt, nLe, nEq, nCl, nDiv, nRem2, nM1, nM2, nM3, nM4, nM5, nM6, gg_in, gg_rf, gg_T, if_true, if_false, ↓lt_eq, ob_some, b2_some, up1_some, kd_sI, ln_sI, gP_sI, gI_sI, kd_rI, ln_rI, gP_rI, gI_rI, kd_bmp, ln_bmp, gP_bmp, gI_bmp, up_at, i0, i1, r3]
  · rw [gI_sI, if_neg (by omega), gI_sI, if_pos rfl, r4]
  · simp (disch := omega) only [↓reduceIte, Nat.reduceLT, Nat.reduceLeDiff, Nat.reduceEqDiff, ZL, nAdd, nMul, nSub, nLt, nLe, nEq, nCl, nDiv, nRem2, nM1, nM2, nM3, nM4, nM5, nM6, gg_in, gg_rf, gg_T, if_true, if_false, ↓lt_eq, ob_some, b2_some, up1_some, kd_sI, ln_sI, gP_sI, gI_sI, kd_rI, ln_rI, gP_rI, gI_rI, kd_bmp, ln_bmp, gP_bmp, gI_bmp, up_at, i0, i1]
  · simp (disch := omega) only [↓reduceIte, Nat.reduceLT, Nat.reduceLeDiff, Nat.reduceEqDiff, ZL, nAdd, nMul, nSub, nLt, nLe, nEq, nCl, nDiv, nRem2, nM1, nM2, nM3, nM4, nM5, nM6, gg_in, gg_rf, gg_T, if_true, if_false, ↓lt_eq, ob_some, b2_some, up1_some, kd_sI, ln_sI, gP_sI, gI_sI, kd_rI, ln_rI, gP_rI, gI_rI, kd_bmp, ln_bmp, gP_bmp, gI_bmp, up_at, i0, i1, r6]
theorem r_fnum {l : Nat} {g : Int32 × Hp → Option ((Int32 × Hp) ⊕ (Int32 × Hp))} {v : Int32} (K : Hp → Option (Int32 × Hp)) (hg : ∀ x h, g (x, h) = if x < 0 then up1 (K h) else gg (kd h 73 = 11) <| Option.bind (MX12_byteCame h 73 (v >>> (x &&& 31))) fun (h1 : Hp) => some (.inl ((x + (-8)), h1))) (R : RSt h m k i t (nI l) f) (hl : l + 4 ≤ 400) (z : gI h 73 0 = nI 0) : ∃ h1, it g (24, h) = K h1 ∧ Fr Rc h h1 ∧ RSt h1 m k i (tpB t l v 4) (nI (l + 4)) f ∧ gI h1 73 0 = nI 0 := by
  have st : ∀ j h', j < 4 → RSt h' m k i (tpB t l v j) (nI (l + j)) f → ∃ h1, g (shN j, h') = some (.inl (shN (j + 1), h1)) ∧ Fr Rc h' h1 ∧ RSt h1 m k i (tpB t l v (j + 1)) (nI (l + j + 1)) f ∧ gI h1 73 0 = gI h' 73 0 := fun j h' hj R' => by
    obtain ⟨a1, a2, a3⟩ := shN_s j hj
    refine ⟨sI (sI h' 77 (l + j) ((v >>> (nI (24 - 8 * j) &&& nI 31)) &&& nI 255)) 73 6 (nI (l + j + 1)), ?_, (Fr.sI (S := Rc) ⟨by omega, by omega⟩).trans (Fr.sI (S := Rc) ⟨by omega, by omega⟩), R'.byte _, ?_⟩
    · rw [hg]
      obtain ⟨r0, r1, r2, r3, r4, r5, r6⟩ := R'
      simp (disch := omega) only [↓reduceIte, Nat.reduceLT, Nat.reduceLeDiff, Nat.reduceEqDiff, ZL, nAdd, nMul, nSub, nLt, nLe, nEq, nCl, nDiv, nRem2, nM1, nM2, nM3, nM4, nM5, nM6, gg_in, gg_rf, gg_T, if_true, if_false, ↓lt_eq, ob_some, b2_some, up1_some, kd_sI, ln_sI, gP_sI, gI_sI, kd_rI, ln_rI, gP_rI, gI_rI, kd_bmp, ln_bmp, gP_bmp, gI_bmp, up_at, i0, i1, MX12_byteCame, RS.f r0, r5, if_neg a2]
      rw [a1, a3]
    · rw [gI_sI, if_pos rfl, up_at, if_neg (by omega), gI_sI, if_neg (by omega)]
  obtain ⟨h1, e1, F1, R1, z1⟩ := st 0 h (by omega) R
  obtain ⟨h2, e2, F2, R2, z2⟩ := st 1 h1 (by omega) R1
  obtain ⟨h3, e3, F3, R3, z3⟩ := st 2 h2 (by omega) R2
  obtain ⟨h4, e4, F4, R4, z4⟩ := st 3 h3 (by omega) R3
  refine ⟨h4, ?_, ((F1.trans F2).trans F3).trans F4, R4, by rw [z4, z3, z2, z1, z]⟩
  rw [show (24 : Int32) = shN 0 from by decide, it_next e1, it_next e2, it_next e3, it_next e4]
  have e5 : g (shN 4, h4) = up1 (K h4) := by rw [hg, if_pos (show shN 4 < 0 by decide)]
  cases hk : K h4 with
  | none =>
    rw [hk] at e5
    rw [it_eq, e5]; rfl
  | some r =>
    rw [hk] at e5
    exact it_done e5
theorem p_feed (C : CSt tg h m k i t n f) (R : RSt h m k i t n f) (a b c d e : Int32) : Pr (cm []) Gq h (nX (MX11_feed h 1 a b c d e)) (fun h' => MX12_feed h' 73 a b c d e) := by
  obtain ⟨O, X, X2, S, V, D, DV, I, T, Im, Tr⟩ := id C
  obtain ⟨l, hl, rfl⟩ := T.2.1
  have T1 := T.1
  by_cases z : l + 20 ≤ 400
  · obtain ⟨h1, e1, F1, V1⟩ := c_fnum X T (by omega) a
    have X1 := X.fr F1
    obtain ⟨h2, e2, F2, V2⟩ := c_fnum X1 V1 (by omega) b
    have X2 := X1.fr F2
    obtain ⟨h3, e3, F3, V3⟩ := c_fnum X2 V2 (by omega) c
    have X3 := X2.fr F3
    obtain ⟨h4, e4, F4, V4⟩ := c_fnum X3 V3 (by omega) d
    have X4 := X3.fr F4
    obtain ⟨h5, e5, F5, V5⟩ := c_fnum X4 V4 (by omega) e
    have X5 := X4.fr F5
    refine Pr.tape (h1 := h5) C R (nI (l + 4 + 4 + 4 + 4 + 4)) ?_ ((((F1.trans F2).trans F3).trans F4).trans F5) V5 fun h' R' => ?_
    · unfold MX11_feed
      rw [gg_t X.1, T1, if_pos (by simp (disch := omega) only [ZL, nAdd, nMul, nSub, nLt, nLe, nEq, nCl, nDiv, nRem2]; exact z), e1, ob_some, gg_t X1.1, e2, ob_some, gg_t X2.1, e3, ob_some, gg_t X3.1, e4, ob_some, gg_t X4.1, e5, ob_some, gg_t X5.1, V5.1]
      rfl
    · have R0 := R'.th (v := nI 0)
      have z0 : gI (sI h' 73 0 (nI 0)) 73 0 = nI 0 := th_get
      have K : ∃ g5, MX12_feed_24 (sI h' 73 0 (nI 0)) 73 a b c d e 24 = MX12_feed_137 g5 73 ∧ Fr Rc (sI h' 73 0 (nI 0)) g5 ∧ RSt g5 m k i (tpB (tpB (tpB (tpB (tpB t l a 4) (l + 4) b 4) (l + 4 + 4) c 4) (l + 4 + 4 + 4) d 4) (l + 4 + 4 + 4 + 4) e 4) (nI (l + 4 + 4 + 4 + 4 + 4)) f ∧ gI g5 73 0 = nI 0 := by
        obtain ⟨g1, k1, G1, R1, z1⟩ := r_fnum (g := fun q : Int32 × Hp => BX12_feed_24 q.2 73 a b c d e q.1) (v := a) (fun h => MX12_feed_43 h 73 b c d e) (fun x h => rfl) R0 (by omega) z0
        obtain ⟨g2, k2, G2, R2, z2⟩ := r_fnum (g := fun q : Int32 × Hp => BX12_feed_47 q.2 73 b c d e q.1) (v := b) (fun h => MX12_feed_66 h 73 c d e) (fun x h => rfl) R1 (by omega) z1
        obtain ⟨g3, k3, G3, R3, z3⟩ := r_fnum (g := fun q : Int32 × Hp => BX12_feed_70 q.2 73 c d e q.1) (v := c) (fun h => MX12_feed_89 h 73 d e) (fun x h => rfl) R2 (by omega) z2
        obtain ⟨g4, k4, G4, R4, z4⟩ := r_fnum (g := fun q : Int32 × Hp => BX12_feed_93 q.2 73 d e q.1) (v := d) (fun h => MX12_feed_113 h 73 e) (fun x h => rfl) R3 (by omega) z3
        obtain ⟨g5, k5, G5, R5, z5⟩ := r_fnum (g := fun q : Int32 × Hp => BX12_feed_117 q.2 73 e q.1) (v := e) (fun h => MX12_feed_137 h 73) (fun x h => rfl) R4 (by omega) z4
        refine ⟨g5, ?_, (((G1.trans G2).trans G3).trans G4).trans G5, R5, z5⟩
        exact k1.trans (k2.trans (k3.trans (k4.trans k5)))
      obtain ⟨g5, k5, G5, R5, z5⟩ := K
      refine ⟨g5, ?_, th_fr.trans G5, R5, z5⟩
      unfold MX12_feed
      rw [gg_t (RS.f R'.1).1]
      simp (disch := omega) only [ZL, nAdd, nMul, nSub, nLt, nLe, nEq, nCl, nDiv, nRem2, lt_eq]
      rw [show gI (sI h' 73 0 (nI 0)) 73 6 = nI l from R0.2.2.2.2.2.1, nAdd, if_pos (nI_le z (by omega))]
      refine k5.trans ?_
      unfold MX12_feed_137
      rw [gg_t (RS.f R5.1).1, R5.2.2.2.2.2.1]
  · refine Pr.get C R (-nI 1) ?_ fun h' R' => ?_
    · unfold MX11_feed
      rw [gg_t X.1, T1, if_neg (by simp (disch := omega) only [ZL, nAdd, nMul, nSub, nLt, nLe, nEq, nCl, nDiv, nRem2]; exact z)]
      rfl
    · unfold MX12_feed
      rw [gg_t (RS.f R'.1).1]
      simp (disch := omega) only [ZL, nAdd, nMul, nSub, nLt, nLe, nEq, nCl, nDiv, nRem2, lt_eq]
      rw [show gI (sI h' 73 0 (nI 0)) 73 6 = nI l from (R'.th (v := nI 0)).2.2.2.2.2.1, nAdd, if_neg (nI_ge (by omega) (by omega))]
end
