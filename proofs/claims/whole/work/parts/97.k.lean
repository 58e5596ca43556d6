/-! judge, part -/
def fnV (B : Nat → Bool) (n : Nat) : Int32 := (fs (fun l => B l = false) n).elim (-nI 1) (fun j => nI j)
def ctB (B : Nat → Bool) : Nat → Nat
  | 0 => 0
  | n + 1 => ctB B n + (if B n = true then 1 else 0)
theorem ctB_le {B : Nat → Bool} : ∀ n, ctB B n ≤ n
  | 0 => Nat.le_refl 0
  | n + 1 => by
    have := ctB_le (B := B) n
    unfold ctB
    split <;> omega
section
variable {tg : Nat → List Nat} {h h1 h2 h' : Hp} {m k t : Nat → Int32} {i n f : Int32} {p q l r x X : Nat}
/-- the room that is asked, whatever its scratch says -/
theorem rq_sc (K : Rt tg h r x) (S : RmS h r) (V : RmV h r m) (a : Sc tg r x h h1) : Rt tg h1 r x ∧ RmS h1 r ∧ RmV h1 r m ∧ gP h1 = gP h ∧ kd h1 = kd h ∧ ∀ c, ¬ scT x (tg c) → gI h1 c = gI h c := ⟨a.rt K, a.rs K S, a.rv K V, a.1.gp, a.1.ek, fun _ hc => (a.1.same hc).2.2.1⟩
theorem c_firstNot (K : Rt tg h r x) (S : RmS h r) (V : RmV h r m) (I : MI m) (hq : vP m q) (es : m (130 + 645 * q + 3) = nI 1) : ∃ h1, MX7_firstNotRight h r (gP h (gP h r 5) q) = some (fnV (rtB m q) (Nn m (130 + 645 * q + 4)), h1) ∧ Sc tg r x h h1 := by
  obtain ⟨p, hp, ec, p0, PS, PV⟩ := c_findPart_t S V I.1 hq
  rw [← hp]
  have J := I.2.1 q hq
  obtain ⟨e4, l4⟩ := J.2.2.2.2.2.1.eq (by omega)
  have c9 : gI h p 9 = nI (Nn m (130 + 645 * q + 4)) := by rw [PV.2.2.2.2.2.2.2.1, if_pos es, e4]
  have A := Pa.rm K (by rw [← hp]; exact PS) (by rw [← hp]; exact p0)
  rw [← hp] at A
  obtain ⟨L, hL⟩ : ∃ L, L = Nn m (130 + 645 * q + 4) := ⟨_, rfl⟩
  unfold MX7_firstNotRight MX7_firstNotRight_2
  have K0 : ∃ z, it (fun s : Int32 × Hp => BX7_firstNotRight_2 s.2 r p s.1) (nI 0, h) = some z ∧ (z.1 = fnV (rtB m q) L ∧ Sc tg r x h z.2) := by
    have step : ∀ j g, j < L → Sc tg r x h g → ∃ g1, Sc tg r x h g1 ∧ BX7_firstNotRight_2 g r p (nI j) = if bI (rtB m q j) = nI 0 then some (.inr (nI j, g1)) else some (.inl (nI (j + 1), g1)) := fun j g hj sc => by
      obtain ⟨Kg, Sg, Vg, eg, ek, ei⟩ := rq_sc K S V sc
      obtain ⟨g1, y1, y2⟩ := c_isRight Kg Sg Vg I hq es (l := j) (by omega)
      rw [eg, ← hp] at y1
      refine ⟨g1, sc.trans y2, ?_⟩
      unfold BX7_firstNotRight_2
      rw [ek, gg_t PS.1, ei p A.1, c9, if_neg (nI_ge (by omega) (by omega)), gg_t S.1, y1, b2_some]
      simp only [ZL]
      rw [nAdd]
    refine it_ff (fun j s => s.1 = nI j ∧ Sc tg r x h s.2) (rtB m q) L (fun j s hj pp hb => ?_) (fun j s hj pp hb ha => ?_) (fun s pp ha => ?_) ⟨rfl, Sc.rfl S⟩
    · obtain ⟨a, g⟩ := s
      obtain ⟨p1, sc⟩ := pp
      replace p1 : a = nI j := p1
      subst p1
      obtain ⟨g1, y1, y2⟩ := step j g hj sc
      refine ⟨(nI (j + 1), g1), ?_, rfl, y1⟩
      show BX7_firstNotRight_2 g r p (nI j) = _
      rw [y2, hb, if_neg (by decide)]
    · obtain ⟨a, g⟩ := s
      obtain ⟨p1, sc⟩ := pp
      replace p1 : a = nI j := p1
      subst p1
      obtain ⟨g1, y1, y2⟩ := step j g hj sc
      refine ⟨(nI j, g1), ?_, ?_, y1⟩
      · show BX7_firstNotRight_2 g r p (nI j) = _
        rw [y2, hb, if_pos (show bI false = nI 0 from rfl)]
      · show nI j = fnV (rtB m q) L
        unfold fnV
        rw [fs_some (P := fun l => rtB m q l = false) hb (fun i hi => by rw [ha i hi]; simp) L hj]
        rfl
    · obtain ⟨a, g⟩ := s
      obtain ⟨p1, sc⟩ := pp
      replace p1 : a = nI L := p1
      subst p1
      obtain ⟨Kg, Sg, Vg, eg, ek, ei⟩ := rq_sc K S V sc
      refine ⟨(-nI 1, g), ?_, ?_, sc⟩
      · show BX7_firstNotRight_2 g r p (nI L) = _
        unfold BX7_firstNotRight_2
        rw [ek, gg_t PS.1, ei p A.1, c9, hL, if_pos (nI_le (Nat.le_refl _) (by omega))]
        rfl
      · show -nI 1 = fnV (rtB m q) L
        unfold fnV
        rw [fs_none (P := fun l => rtB m q l = false) L (fun i hi => by rw [ha i hi]; simp)]
        rfl
  obtain ⟨⟨a, g⟩, k1, k2, k3⟩ := K0
  replace k2 : a = fnV (rtB m q) L := k2
  exact ⟨g, by simp only [ZL]; rw [k1, k2, hL], k3⟩
theorem r_judge (R : RS h) (em : gI h 74 = m) (I : MI m) (hq : vP m q) (es : m (130 + 645 * q + 3) = nI 1) : ∃ h1, MX12_judge_46 h 73 (nI q) (nI 0) = some (fnV (rtB m q) (Nn m (130 + 645 * q + 4)), h1) ∧ Rw h h1 := by
  have J := I.2.1 q hq
  have hq0 := hq.1
  obtain ⟨e4, l4⟩ := J.2.2.2.2.2.1.eq (by omega)
  obtain ⟨L, hL⟩ : ∃ L, L = Nn m (130 + 645 * q + 4) := ⟨_, rfl⟩
  rw [← hL] at e4 ⊢
  unfold MX12_judge_46
  have K0 : ∃ z, it (fun s : Int32 × Hp => BX12_judge_46 s.2 73 (nI q) s.1) (nI 0, h) = some z ∧ (z.1 = fnV (rtB m q) L ∧ Rw h z.2) := by
    have step : ∀ j g, j < L → Rw h g → ∃ g1, Rw h g1 ∧ BX12_judge_46 g 73 (nI q) (nI j) = if bI (rtB m q j) = nI 0 then some (.inr (nI j, g1)) else some (.inl (nI (j + 1), g1)) := fun j g hj rw => by
      have R1 := rw.rk.rs R
      have m1 := rw.em em
      obtain ⟨g1, y1, y2⟩ := r_isRight R1 m1 I hq es (l := j) (by omega)
      refine ⟨g1, rw.trans y2, ?_⟩
      unfold BX12_judge_46
      rw [gg_t (RS.f R1).1, r_part0, ob_some]
      simp only [ZL]
      have nl : (nI L ≤ nI j) = False := eq_false (nI_ge hj (by omega))
      simp (disch := omega) only [RS.f R1, gg_rf, gg_T, gg_in, nAdd, nCl, m1, e4, nl, if_false, y1, b2_some]
    refine it_ff (fun j s => s.1 = nI j ∧ Rw h s.2) (rtB m q) L (fun j s hj pp hb => ?_) (fun j s hj pp hb ha => ?_) (fun s pp ha => ?_) ⟨rfl, Rw.rfl⟩
    · obtain ⟨a, g⟩ := s
      obtain ⟨p1, sc⟩ := pp
      replace p1 : a = nI j := p1
      subst p1
      obtain ⟨g1, y1, y2⟩ := step j g hj sc
      refine ⟨(nI (j + 1), g1), ?_, rfl, y1⟩
      show BX12_judge_46 g 73 (nI q) (nI j) = _
      rw [y2, hb, if_neg (by decide)]
    · obtain ⟨a, g⟩ := s
      obtain ⟨p1, sc⟩ := pp
      replace p1 : a = nI j := p1
      subst p1
      obtain ⟨g1, y1, y2⟩ := step j g hj sc
      refine ⟨(nI j, g1), ?_, ?_, y1⟩
      · show BX12_judge_46 g 73 (nI q) (nI j) = _
        rw [y2, hb, if_pos (show bI false = nI 0 from rfl)]
      · show nI j = fnV (rtB m q) L
        unfold fnV
        rw [fs_some (P := fun l => rtB m q l = false) hb (fun i hi => by rw [ha i hi]; simp) L hj]
        rfl
    · obtain ⟨a, g⟩ := s
      obtain ⟨p1, sc⟩ := pp
      replace p1 : a = nI L := p1
      subst p1
      have R1 := (show Rw h g from sc).rk.rs R
      have m1 := (show Rw h g from sc).em em
      refine ⟨(-nI 1, g), ?_, ?_, sc⟩
      · show BX12_judge_46 g 73 (nI q) (nI L) = _
        unfold BX12_judge_46
        rw [gg_t (RS.f R1).1, r_part0, ob_some]
        simp only [ZL]
        have nl : (nI L ≤ nI L) = True := eq_true (nI_le (Nat.le_refl L) (by omega))
        simp (disch := omega) only [RS.f R1, gg_rf, gg_T, gg_in, nAdd, nCl, m1, e4, nl, if_true]
      · show -nI 1 = fnV (rtB m q) L
        unfold fnV
        rw [fs_none (P := fun l => rtB m q l = false) L (fun i hi => by rw [ha i hi]; simp)]
        rfl
  obtain ⟨⟨a, g⟩, k1, k2, k3⟩ := K0
  replace k2 : a = fnV (rtB m q) L := k2
  exact ⟨g, by rw [k1, k2], k3⟩
theorem p_judge (C : CSt tg h m k i t n f) (R : RSt h m k i t n f) (v : Int32) : Pr (cm [1, 5]) Gq h (MX11_judge h 1 v) (fun h' => MX12_judge h' 73 v) := by
  obtain ⟨O, X, X2, S, V, D, DV, I, T, Im, Tr⟩ := id C
  have K := C.rt
  rcases vP.d m v with hv | ⟨q, hq, rfl⟩
  · refine Pr.thr C R 1 1 rfl (by omega) (by omega) ?_ fun h' R' => ⟨nI 0, ?_⟩
    · unfold MX11_judge
      rw [gg_t X.1, X5 X, gg_t S.1, c_findPart_f S V I.1 hv, ob_some, if_pos rfl]
    · unfold MX12_judge
      rw [gg_t (RS.f R'.1).1, r_isPart_f R'.1 R'.2.1 I.1 hv, ob_some, if_pos (by decide)]
      simp (disch := omega) only [MX12_judge_32, ↓reduceIte, Nat.reduceLT, Nat.reduceLeDiff, Nat.reduceEqDiff, ZL, nAdd, nMul, nSub, nLt, nLe, nEq, nCl, nDiv, nRem2, nM1, nM2, nM3, nM4, nM5, nM6, gg_in, gg_rf, gg_T, if_true, if_false, ↓lt_eq, ob_some, b2_some, up1_some, kd_sI, ln_sI, gP_sI, gI_sI, kd_rI, ln_rI, gP_rI, gI_rI, kd_bmp, ln_bmp, gP_bmp, gI_bmp, up_at, i0, i1, RS.f R'.1]
  · obtain ⟨c, hc, ec, c0, cS, cV⟩ := c_findPart_t S V I.1 hq
    have J := I.2.1 q hq
    have hb := hq.1
    obtain ⟨s, hs, es⟩ := J.2.2.2.2.1
    have c11 := cV.2.2.2.2.2.1
    rcases (show s = 0 ∨ s = 1 by omega) with rfl | rfl
    · refine Pr.thr C R 5 2 rfl (by omega) (by omega) ?_ fun h' R' => ⟨nI 0, ?_⟩
      · unfold MX11_judge
        rw [gg_t X.1, X5 X, gg_t S.1, ec, ob_some, if_neg c0, gg_t cS.1, c11, es, if_pos (show nI 0 = 0 from rfl)]
      · unfold MX12_judge
        rw [gg_t (RS.f R'.1).1, r_isPart_t R'.1 R'.2.1 I.1 hq, ob_some, if_neg (by decide), r_part0, ob_some]
        simp (disch := omega) only [MX12_judge_32, ↓reduceIte, Nat.reduceLT, Nat.reduceLeDiff, Nat.reduceEqDiff, ZL, nAdd, nMul, nSub, nLt, nLe, nEq, nCl, nDiv, nRem2, nM1, nM2, nM3, nM4, nM5, nM6, gg_in, gg_rf, gg_T, if_true, if_false, ↓lt_eq, ob_some, b2_some, up1_some, kd_sI, ln_sI, gP_sI, gI_sI, kd_rI, ln_rI, gP_rI, gI_rI, kd_bmp, ln_bmp, gP_bmp, gI_bmp, up_at, i0, i1, RS.f R'.1, R'.2.1, es]
    · obtain ⟨h1, k1, k2⟩ := c_firstNot K S V I hq es
      rw [← hc] at k1
      refine Pr.sc C R (fnV (rtB m q) (Nn m (130 + 645 * q + 4))) ?_ k2 fun h' R' => ?_
      · unfold MX11_judge
        rw [gg_t X.1, X5 X, gg_t S.1, ec, ob_some, if_neg c0, gg_t cS.1, c11, es, if_neg (by decide), k1, b2_some]
      · have R0 := R'.th (v := nI 0)
        obtain ⟨h2, a1, a2⟩ := r_judge R0.1 R0.2.1 I hq es
        refine ⟨h2, ?_, th_fr.trans a2.rk.fr, a2.rk.st R0, by rw [a2.rk.2.1, th_get]⟩
        unfold MX12_judge
        rw [gg_t (RS.f R'.1).1, r_isPart_t R'.1 R'.2.1 I.1 hq, ob_some, if_neg (by decide), r_part0, ob_some]
        rw [← a1]
        simp (disch := omega) only [MX12_judge_32, ↓reduceIte, Nat.reduceLT, Nat.reduceLeDiff, Nat.reduceEqDiff, ZL, nAdd, nMul, nSub, nLt, nLe, nEq, nCl, nDiv, nRem2, nM1, nM2, nM3, nM4, nM5, nM6, gg_in, gg_rf, gg_T, if_true, if_false, ↓lt_eq, ob_some, b2_some, up1_some, kd_sI, ln_sI, gP_sI, gI_sI, kd_rI, ln_rI, gP_rI, gI_rI, kd_bmp, ln_bmp, gP_bmp, gI_bmp, up_at, i0, i1, RS.f R'.1, R'.2.1, es, n10]
end
