/-! a story: the class adds a part -/
section
variable {tg : Nat → List Nat} {g : Hp} {r x q X e f t : Nat} {M : Nat → Int32} {u v : Int32} {b : Nat → Nat} {s0 sf st : TX}
theorem c_part (K : Rt tg g r x) (hr : r ≤ sz g) (h9 : 109 ≤ sz g) (S : RmS g r) (hq : q < 100) (T0 : TI 5 24 0 s0) (hX : X ≤ sz g) (nX : ¬ [q, 5, x] <:+ tg X) (nX5 : X ≠ gP g r 5) (X0 : X ≠ 0) (kX : kd g X = 21) (lX : t ≤ ln g X) (lb : ln g X < 100000) (hc : ∀ i, f ≤ i → i < t → gI g X i = bS (b i) ∧ b i ≤ 255 ∧ b i ≠ 47) (ft : f ≤ t) (hf : ruT 5 24 0 b s0 f = .inr sf) (f1 : sf.2.1 = 0) (f2 : sf.2.2.1 = false) (f3 : tp sf = 0) (f4 : tw sf = 0) (ht : ruT 5 24 0 b s0 t = .inr st) (hb : st.2.2.1 = false) (M0 : M (130 + 645 * q) = nI (tw st)) (M1 : M (130 + 645 * q + 1) = nI (tp st)) (M2 : M (130 + 645 * q + 2) = nI 0) (M3 : M (130 + 645 * q + 3) = nI 0) (M7 : M (70 + q / 5) = u) (M9 : M (90 + q / 5) = v) (MW : ∀ y, y < tp st → M (130 + 645 * q + 85 + y) = st.2.2.2.2.2.1 (40 * st.1 + y) ∧ M (130 + 645 * q + 125 + y) = st.2.2.2.2.2.2.1 (40 * st.1 + y) ∧ ∀ l, l < 12 → M (130 + 645 * q + 165 + 12 * y + l) = st.2.2.2.2.2.2.2 (12 * (40 * st.1 + y) + l)) : st.1 = sf.1 ∧ ∃ tg' g1 g2 g' c, MX7_ownPart g r (nI q) = some (c, g1) ∧ kd g1 c = 4 ∧ MX5_empty g1 c u v = some g2 ∧ kd g2 c = 4 ∧ MX5_addText g2 c X (nI f) (nI t) = some g' ∧ TkSt tg g tg' g' r x 5 q ∧ VP g' r M q ∧ sm g g' X := by
  obtain ⟨tg1, g1, c, k1, W⟩ := own5 K hr h9 S hq
  obtain ⟨w1, w2, w3, w4, w5, w6⟩ := id W
  have K1 := w1.rt K hr h9
  have eP : gP g1 r = gP g r := w3.2.1
  have cc : c = gP g1 (gP g1 r 5) q := by rw [eP]; exact w5
  have cS : PtS g1 c := by rw [cc]; exact w4.2.2.2.2.2.2.2.2.2.2.2.2.2.2.2.2.1 q (by rw [← cc]; exact w6)
  have tc := K1.o (k := 5) (j := q) (by rw [← cc]; exact w6)
  rw [← cc] at tc
  have c3 : c ≠ 3 := by rw [cc]; exact K1.o3
  obtain ⟨g2, k2, F2, w0⟩ := c_emptyPt (u := u) (v := v) cS
  obtain ⟨s1, s2, s3, s4, s5, s6, s7, s8, s9, s10⟩ := id cS
  have N1 : PtN g1 c := ⟨ne_o K1.1 c3 s2.1, ne_o K1.1 c3 s3.1, ne_o K1.1 c3 s4.1, ne_f K1.1 c3 s2.1 s3.1 (by omega), ne_f K1.1 c3 s2.1 s4.1 (by omega), ne_f K1.1 c3 s3.1 s4.1 (by omega)⟩
  have e2P : gP g2 = gP g1 := F2.2.2.1
  have N2 : PtN g2 c := by unfold PtN; rw [e2P]; exact N1
  have h2r : ∀ k, gP g1 c k ≠ 0 → gI g2 (gP g1 c k) = gI g1 (gP g1 c k) := fun k hk => F2.2.2.2.2.2.2 _ (fun e => ne_o K1.1 c3 hk e.symm)
  have S2 : PtS g2 c := by
    unfold PtS ar
    rw [F2.1, F2.2.1, e2P, h2r 1 s3.1, h2r 2 s4.1, w0 10, w0 11, if_pos (by omega), if_pos (by omega)]
    exact ⟨s1, s2, s3, s4, s5, s6, s7, Or.inl rfl, Or.inl rfl, s10⟩
  have tX : tg1 X = tg X := (w1.2.2.1 X hX).1
  have nc : ∀ g2' : Hp, gP g2' = gP g1 → ¬ PD g2' c X := fun g2' e z => by
    unfold PD at z
    rw [e] at z
    rcases z with z | z | z | z
    · exact nX (by rw [← tX, z, tc]; exact List.suffix_refl _)
    · exact nX (by rw [← tX, z, tgc K1.1 s2.1 c3, tc]; exact List.suffix_cons _ _)
    · exact nX (by rw [← tX, z, tgc K1.1 s3.1 c3, tc]; exact List.suffix_cons _ _)
    · exact nX (by rw [← tX, z, tgc K1.1 s4.1 c3, tc]; exact List.suffix_cons _ _)
  have sX1 : sm g g1 X := w3.1 X hX (Or.inr nX) nX5
  have sX2 : sm g g2 X := by
    have xc : X ≠ c := fun e => nc g1 rfl (Or.inl e)
    exact ⟨by rw [F2.1]; exact sX1.1, by rw [F2.2.1]; exact sX1.2.1, by rw [F2.2.2.2.2.2.2 X xc]; exact sX1.2.2.1, by rw [e2P]; exact sX1.2.2.2⟩
  obtain ⟨a1, g3, k3, A⟩ := c_addTx (h := g2) (p := c) (B0 := 0) (W0 := 0) (E0 := 0) S2 N2 T0 (by omega) (by omega) (Nat.le_refl 0) (Nat.zero_le _) (nc g2 e2P) (by rw [sX2.1]; exact kX) (by rw [sX2.2.1]; exact lX) (by rw [sX2.2.1]; exact lb) (fun i h1 h2 => by rw [sX2.2.2.1]; exact hc i h1 h2) ft (by rw [w0 5, if_pos (by omega)]) (by rw [w0 6, if_pos (by omega)]) (by rw [e2P, h2r 1 s3.1]; exact s7) hf f1 f2 f3 f4 ht hb
  obtain ⟨A1, A2, A3, A4, A5, A6, A7, A8, A9, A10, A11⟩ := A
  have e3P : gP g3 = gP g1 := A1.2.2.1.trans e2P
  rw [e2P] at A5 A6 A7 A8 A9 A10 A11
  have TS := ti_ru T0 (by omega) (by omega) t st ht
  obtain ⟨n1, n2, n3, n4, n5⟩ := ti_nm TS (by omega)
  have S3 : PtS g3 c := by
    unfold PtS ar
    rw [A1.1, A1.2.1, e3P, F2.1, F2.2.1, A5 0 (Nat.le_refl 0), h2r 1 s3.1, A2 10 (by decide) (by decide), A2 11 (by decide) (by decide), w0 10, w0 11, if_pos (by omega), if_pos (by omega)]
    exact ⟨s1, s2, s3, s4, s5, s6, s7, Or.inl rfl, Or.inl rfl, A8⟩
  have C : Fr (fun b => b = c ∨ ∃ k, gP g1 c k ≠ 0 ∧ b = gP g1 c k) g1 g3 := by
    refine (F2.mono (fun y hy => Or.inl hy)).trans (A1.mono (fun y hy => ?_))
    unfold PD at hy
    rw [e2P] at hy
    rcases hy with z | z | z | z
    · exact Or.inl z
    · exact Or.inr ⟨0, s2.1, z⟩
    · exact Or.inr ⟨1, s3.1, z⟩
    · exact Or.inr ⟨2, s4.1, z⟩
  have hA : gP g r 5 ≠ 0 := by
    have := S.2.2.2.1
    exact this.1
  obtain ⟨P1, P2⟩ := stp_own K hr h9 (F := 5) (by omega) hA W C ⟨fun _ => S3, fun z => by omega, fun z => by omega, fun z => by omega⟩
  refine ⟨a1, tg1, g1, g2, g3, c, k1, s1, k2, by rw [F2.1]; exact s1, k3, P1, ?_, ?_⟩
  · unfold VP
    rw [P2]
    refine ⟨w6, ?_⟩
    have tpN : Nn M (130 + 645 * q + 1) = tp st := by unfold Nn; rw [M1, nCl (by omega)]
    have z9 : gI g2 c 9 = nI 0 := by rw [w0 9, if_pos (by omega)]
    have z10 : gI g2 c 10 = nI 0 := by rw [w0 10, if_pos (by omega)]
    have z11 : gI g2 c 11 = nI 0 := by rw [w0 11, if_pos (by omega)]
    unfold PtV
    rw [A3, A4, A2 7 (by decide) (by decide), A2 8 (by decide) (by decide), A2 9 (by decide) (by decide), A2 10 (by decide) (by decide), A2 11 (by decide) (by decide), w0 7, w0 8, z9, z10, z11, M0, M1, M2, M3, M7, M9, e3P, Nat.zero_add, Nat.zero_add]
    refine ⟨rfl, rfl, rfl, rfl, rfl, rfl, fun y hy => ?_, by rw [if_neg (by decide)], fun z => absurd z (by decide)⟩
    have hy : y < tp st := by
      rw [tpN] at hy
      exact hy
    obtain ⟨m1, m2, m3⟩ := MW y hy
    obtain ⟨-, c8⟩ := TS.2.2.2.2.2.2.2 st.1 (Nat.le_refl _)
    obtain ⟨-, ⟨d1, -⟩, -⟩ := c8 y hy
    obtain ⟨d2, d3⟩ := d1.eq (by omega)
    have b0 := A9 y (by omega)
    have b1 := A9 (y + 1) (by omega)
    rw [Nat.zero_add, Nat.zero_add] at b0 b1
    refine ⟨?_, ?_, fun l hl => ?_⟩
    · rw [b0, b1, m2, d2, nAdd]
      rfl
    · have k0 := A10 y hy
      rw [Nat.zero_add] at k0
      rw [k0, m1, tpN]
      by_cases z : y + 1 < tp st
      · obtain ⟨m4, -, -⟩ := MW (y + 1) z
        rw [if_pos z, m4]
        by_cases w : st.2.2.2.2.2.1 (40 * st.1 + y) = st.2.2.2.2.2.1 (40 * st.1 + (y + 1))
        · rw [if_pos w, if_neg (fun o => o.elim (fun o => by omega) (fun o => o w))]
        · rw [if_neg w, if_pos (Or.inr w)]
      · rw [if_neg z, if_neg (by decide), if_pos (Or.inl (by omega))]
    · have hl' : l < Nn st.2.2.2.2.2.2.1 (40 * st.1 + y) := by unfold Nn at hl; rw [m2] at hl; exact hl
      have l12 : l < 12 := by omega
      have lb := lT_b (f := st.2.2.2.2.2.2.1) (o := 40 * st.1) y (fun z hz => n4 z (by omega))
      have k0 := A11 y hy l hl'
      rw [Nat.zero_add] at k0
      rw [b0, nCl (by omega), k0, m3 l l12]
  · have nd := nc g2 e2P
    exact ⟨by rw [A1.1]; exact sX2.1, by rw [A1.2.1]; exact sX2.2.1, by rw [A1.2.2.2.2.2.2 X nd]; exact sX2.2.2.1, by rw [A1.2.2.1]; exact sX2.2.2.2⟩
end
