/-! correct: putWord, the class's run -/
section
variable {h h1 : Hp} {m M : Nat → Int32} {p o q w f f2 n wd X l pc ba : Nat} {L C : Nat → Nat} {T : Nat → Nat → Nat} {b : Nat → Nat} {s0 s : TX}
theorem apF_lo {α : Type} {f g : Nat → α} {n k y : Nat} (h : y < n) : apF f n g k y = f y := by
  unfold apF
  rw [if_neg (by omega)]
theorem apF_hi {α : Type} {f g : Nat → α} {n k y : Nat} (h : n ≤ y) (h2 : y < n + k) : apF f n g k y = g (y - n) := by
  unfold apF
  rw [if_pos ⟨h, h2⟩]
theorem ru_47 (T0 : TI 1 1 ba s0) (hba : ba ≤ 40) (es : ruT 1 1 ba b s0 l = .inr s) {i : Nat} (hi : i < l) : b i ≠ 47 := fun e47 => by
  cases c : ruT 1 1 ba b s0 i with
  | inl p =>
    have := ruT_e c (l - i)
    rw [show i + (l - i) = l by omega, es] at this
    cases this
  | inr s1 =>
    have T1 := ti_ru T0 (by omega) hba i s1 c
    have st := ruT_s c
    have e : ∃ p, stT 1 1 ba s1 (b i) i = .inl p := by
      rw [e47]
      unfold stT
      rw [show lB 47 = false by decide, if_neg (by decide)]
      cases bb : s1.2.2.1 with
      | true => exact ⟨i, by rw [if_pos rfl]⟩
      | false =>
        have h1 := T1.1
        exact ⟨i, by rw [if_neg (by decide), if_neg (show ¬ ((47 : Nat) = 45 ∧ 0 < s1.2.1) by omega), if_neg (by omega), if_neg (by decide)]⟩
    obtain ⟨p, e⟩ := e
    rw [e] at st
    have := ruT_e st (l - (i + 1))
    rw [show i + 1 + (l - (i + 1)) = l by omega, es] at this
    cases this
theorem c_putW (S : PtS h p) (N : PtN h p) (O : SrO h p o m q) (n3 : ¬ PD h p (gP h o 3)) (n4 : ¬ PD h p (gP h o 4)) (hw : w < Nn m (130 + 645 * q)) (F : FW m q w f) (F2 : FW m q (w + 1) f2) (T0 : TI 1 1 (Nn m (130 + 645 * q + 1) - (f2 - f)) s0) (z0 : s0.1 = 0) (z1 : s0.2.1 = 0) (z2 : s0.2.2.1 = false) (z3 : tp s0 = 0) (z4 : tw s0 = 0) (hX : ¬ PD h p X) (kX : kd h X = 21) (lX : l ≤ ln h X) (lb : ln h X < 100000) (hc : ∀ i, i < l → gI h X i = bS (b i) ∧ b i ≤ 255) (es : ruT 1 1 (Nn m (130 + 645 * q + 1) - (f2 - f)) b s0 l = .inr s) (ebh : s.2.2.1 = false) (etw : 0 < tw s) : s.1 = 0 ∧ TI 1 1 (Nn m (130 + 645 * q + 1) - (f2 - f)) s ∧ ∃ h', MX5_putWord h p o (nI w) X (nI l) = some h' ∧ Fr (PD h p) h h' ∧ PtS h' p ∧ ∀ M, Chd m M q f f2 (tp s) (nI w) s.2.2.2.2.2.2.1 s.2.2.2.2.2.2.2 → M (130 + 645 * q + 2) = nI 0 → M (130 + 645 * q + 3) = nI 0 → M (70 + q / 5) = m (70 + q / 5) → M (90 + q / 5) = m (90 + q / 5) → PtV h' p M q := by
  have J := O.2.2.1
  obtain ⟨e1, b40⟩ := J.2.1.eq (by omega)
  obtain ⟨e0, b24⟩ := J.1.eq (by omega)
  obtain ⟨d1, d2⟩ := FW_2 J F F2 hw
  have f2n := F2.1
  have Ts := ti_ru T0 (by omega) (by omega) l s es
  have s1 : s.1 = 0 := by have := Ts.1; omega
  obtain ⟨t1, t2, t3, t4, t5⟩ := ti_nm Ts (by omega)
  obtain ⟨g1, k1, G1, v1⟩ := c_emptyPt (u := gI h o 7) (v := gI h o 8) S
  have G1' : Fr (PD h p) h g1 := G1.mono (fun y hy => Or.inl hy)
  have eP1 : gP g1 = gP h := G1.2.2.1
  have gI1 : ∀ k, k ≤ 2 → gI g1 (gP h p k) = gI h (gP h p k) := fun k hk => G1.2.2.2.2.2.2 _ (fun e => by
    rcases (show k = 0 ∨ k = 1 ∨ k = 2 by omega) with rfl | rfl | rfl
    · exact N.1 e.symm
    · exact N.2.1 e.symm
    · exact N.2.2.1 e.symm)
  have S1 : PtS g1 p := by
    obtain ⟨s1, s2, s3, s4, s5, s6, s7, s8, s9, s10⟩ := id S
    unfold PtS ar
    rw [G1.1, G1.2.1, eP1, gI1 1 (by omega), gI1 2 (by omega), v1 10, v1 11, if_pos (by omega), if_pos (by omega)]
    exact ⟨s1, s2, s3, s4, s5, s6, s7, Or.inl rfl, Or.inl rfl, s10⟩
  have N1 : PtN g1 p := by unfold PtN; rw [eP1]; exact N
  have O1 : SrO g1 p o m q := sro_fr O G1' n3 n4
  have nk3 : ¬ PD g1 p (gP g1 o 3) := by unfold PD at n3 ⊢; rw [eP1]; exact n3
  have nk4 : ¬ PD g1 p (gP g1 o 4) := by unfold PD at n4 ⊢; rw [eP1]; exact n4
  obtain ⟨r, k2, Fr2⟩ := c_fBit (w := w) O1.1 O1.2.1 J (by omega)
  have := FW_u Fr2 F
  subst this
  have A1 : PI g1 g1 p 0 0 (fun _ => 0) (fun _ => 0) (fun _ _ => 0) := pi_0 S1 (by rw [v1 5, if_pos (by omega)]) (by rw [v1 6, if_pos (by omega)])
  obtain ⟨g2, k3, A2⟩ := c_addBits (a := 0) (k := r) S1 N1 O1 A1 (fun y hy => by omega) (by omega) (by omega)
  rw [Nat.zero_add] at k3
  have cs := ct_s J (a := 0) r (by omega)
  obtain ⟨wa0, waf, waf2, wan⟩ := wA_f J hw F F2
  rw [Nat.zero_add r, wa0, waf, Nat.add_zero] at cs
  rw [Nat.zero_add r, cs, Nat.zero_add w] at A2
  obtain ⟨L2, hL2⟩ : ∃ L2, L2 = apF (fun _ => 0) 0 (fun i => Nn m (130 + 645 * q + 125 + (0 + i))) r := ⟨_, rfl⟩
  have L12 : ∀ y, y < r → L2 y ≤ 12 := fun y hy => by
    rw [hL2]
    unfold apF
    rw [if_pos (by omega)]
    exact ((J.2.2.2.2.2.2.1 (0 + (y - 0)) (by omega)).2.1.eq (by omega)).2
  obtain ⟨S2, N2⟩ := pi_S S1 N1 A2
  have A2F := A2.1
  have e2P : gP g2 = gP g1 := A2F.2.2.1
  have pd1 : ∀ y, PD g1 p y → PD h p y := fun y hy => by unfold PD at hy ⊢; rw [eP1] at hy; exact hy
  have nX2 : ¬ PD g2 p X := fun z => hX (pd1 X (by unfold PD at z ⊢; rw [e2P] at z; exact z))
  have G2 : Fr (PD h p) h g2 := G1'.trans (A2F.mono pd1)
  have x2 := G2.sm hX
  have E0 : lS L2 r ≤ 12 * r := lS_b r L12
  obtain ⟨a1, g3, k4, A3⟩ := c_addTx (h := g2) (p := p) (B0 := r) (W0 := w) (E0 := lS L2 r) (X := X) (f := 0) (t := l) (b := b) S2 N2 T0 (by omega) (by omega) (by omega) E0 nX2 (by rw [x2.1]; exact kX) (by rw [x2.2.1]; exact lX) (by rw [x2.2.1]; exact lb) (fun i _ hi => by rw [x2.2.2.1]; exact ⟨(hc i hi).1, (hc i hi).2, ru_47 T0 (by omega) es hi⟩) (Nat.zero_le _) A2.2.2.2.1 A2.2.2.2.2.1 (by rw [e2P, hL2]; exact A2.2.2.2.2.2.1 r (Nat.le_refl _)) (show ruT 1 1 (Nn m (130 + 645 * q + 1) - (f2 - r)) b s0 0 = .inr s0 from rfl) z1 z2 z3 z4 es ebh
  have o0 : 40 * s.1 = 0 := by omega
  rw [o0] at A3
  obtain ⟨y1, y2⟩ := Ts.2.2.2.2.2.2.2 0 (by omega)
  have ep : Nn s.2.2.2.2.1 0 = tp s := by unfold tp; rw [s1]
  have ew : Nn s.2.2.2.1 0 = tw s := by unfold tw; rw [s1]
  rw [ep] at y1 y2
  rw [ew] at y1
  have wz : ∀ x, x < tp s → s.2.2.2.2.2.1 (0 + x) = nI 0 := fun x hx => by
    obtain ⟨⟨c1, -⟩, -, -⟩ := y2 x hx
    rw [show 40 * 0 + x = 0 + x by omega] at c1
    obtain ⟨v1, v2⟩ := c1.eq (by omega)
    rw [v1, show Nn s.2.2.2.2.2.1 (0 + x) = 0 by omega]
  rw [hL2] at A3
  have A4 := pi_txt (K := fun i => if i + 1 = tp s then 1 else 0) (U := fun i l => Nn s.2.2.2.2.2.2.2 (12 * (0 + i) + l)) A2 A3 (fun i hi => by
    by_cases z : i + 1 = tp s
    · rw [if_neg (by omega), if_neg (by decide), if_pos z]
    · rw [if_pos (by omega), wz i hi, wz (i + 1) (by omega), if_pos rfl, if_neg z]) (fun i hi l hl => by
    obtain ⟨-, -, c3⟩ := y2 i hi
    rw [show 40 * 0 + i = 0 + i by omega] at c3
    exact ((c3 l hl).eq (by omega)).1)
  have A4F := A4.1
  have nG3 : Fr (PD g1 p) g1 g3 := A4F
  have O3 : SrO g3 p o m q := sro_fr O1 nG3 nk3 nk4
  have e3 := c_bow O3.1 O3.2.1 J hw F F2
  have tw1 : tw s = 1 := by omega
  obtain ⟨g4, k5, A5⟩ := c_addBits (a := f2) (k := Nn m (130 + 645 * q + 1) - f2) S1 N1 O1 A4 (fun y hy => by
    by_cases z : y < r
    · rw [apF_lo z, ← hL2]
      exact L12 y z
    · rw [apF_hi (by omega) hy]
      have := t4 (y - r) (by omega)
      rw [o0] at this
      exact this) (by omega) (by omega)
  have cs2 := ct_s J (a := f2) (Nn m (130 + 645 * q + 1) - f2) (by omega)
  rw [show f2 + (Nn m (130 + 645 * q + 1) - f2) = Nn m (130 + 645 * q + 1) by omega, waf2, wan] at cs2
  rw [show f2 + (Nn m (130 + 645 * q + 1) - f2) = Nn m (130 + 645 * q + 1) by omega] at k5
  rw [show w + tw s + lS (fun i => ctN m q (f2 + i)) (Nn m (130 + 645 * q + 1) - f2) = Nn m (130 + 645 * q) by omega] at A5
  obtain ⟨S5, N5⟩ := pi_S S1 N1 A5
  have kp1 : ∀ {g : Hp}, Fr (PD h p) h g → kd g p = 4 := fun G => by rw [G.1]; exact S.1
  have ko1 : kd h o = 4 := O.1.1
  refine ⟨s1, Ts, g4, ?_, G1'.trans (A5.1.mono pd1), S5, fun M H H2 H3 H7 H9 => ?_⟩
  · unfold MX5_putWord
    rw [gg_t ko1, gg_t S.1, k1, ob_some, gg_t O1.1.1, k2, ob_some, gg_t S1.1]
    simp only [ZL]
    rw [k3, ob_some, gg_t S2.1, k4, ob_some, gg_t O3.1.1, e3, ob_some, gg_t (pi_S S1 N1 A4).1.1, nAdd, show r + (f2 - r) = f2 by omega, O3.2.1.1, e1, k5, ob_some]
  · obtain ⟨c1, c2, c3, c4⟩ := ch_pc (M := M) J hw F F2 Ts s1 etw H
    have pv := pi_v (q := q) (M := M) A5 (by omega) H.1 c4
    obtain ⟨q1, q2, q3, q4, q5, q6, q7, q8⟩ := A5
    unfold PtV
    have w7 : gI g1 p 7 = gI h o 7 := by rw [v1 7, if_neg (by omega), if_pos rfl]
    have w8 : gI g1 p 8 = gI h o 8 := by rw [v1 8, if_neg (by omega), if_neg (by omega), if_pos rfl]
    have w9 : gI g1 p 9 = nI 0 := by rw [v1 9, if_pos (by omega)]
    have w10 : gI g1 p 10 = nI 0 := by rw [v1 10, if_pos (by omega)]
    have w11 : gI g1 p 11 = nI 0 := by rw [v1 11, if_pos (by omega)]
    rw [q4, q5, q2 7 (by decide) (by decide), q2 8 (by decide) (by decide), q2 9 (by decide) (by decide), q2 10 (by decide) (by decide), q2 11 (by decide) (by decide), w7, w8, w9, w10, w11, H.1, H.2.1, H2, H3, H7, H9, O.2.1.2.2.1, O.2.1.2.2.2.1]
    exact ⟨rfl, e0.symm, rfl, rfl, rfl, rfl, pv, by rw [if_neg (by decide)], fun z => absurd z (by decide)⟩
end
