/-! machine: the pair -/
section
variable {tg tg' tg1 : Nat → List Nat} {h h' h1 : Hp} {m M k t : Nat → Int32} {i n f : Int32} {D : Nat → Prop} {p KK F j r x a b N nn bk c : Nat}
theorem rmP_fr (F : Fr D h h') : rmP h' r = rmP h r ∧ cst h' = cst h := by
  obtain ⟨e1, e2, e3, e4, e5, e6, -⟩ := F
  refine ⟨?_, ?_⟩
  · unfold rmP slP
    rw [e3, e2]
  · unfold cst
    rw [e5, e6]
theorem c_addMa (K : Rt tg h r x) (hr : r ≤ sz h) (h9 : 109 ≤ sz h) (S : RmS h r) (V : RmV h r m) (I : MI m) (hN : N = Nn m 3) (N4 : N < 4) : ∃ tg' h', MX7_addMachine h r (nI nn) (nI bk) = some (nI N, h') ∧ Rx tg h tg' h' (fun y => y = x) ∧ cst h' + rmP h' r ≤ cst h + rmP h r ∧ RmS h' r ∧ RmV h' r (mcN m N nn bk) := by
  obtain ⟨tg1, h1, c, k1, ⟨R1, e1, sm1, gr1, hc, c0, oth⟩, S1, V1⟩ := c_ownMa K hr h9 S V N4
  have K1 := R1.rt K hr h9
  rw [← gr1] at hc
  have hz : gP h1 (gP h1 r 8) N ≠ 0 := by rw [← hc]; exact c0
  have cS : MaS h1 c := by rw [hc]; exact S1.2.2.2.2.2.2.2.2.2.2.2.2.2.2.2.2.2.2.1 N hz
  have tc := K1.o hz
  rw [← hc] at tc
  have c3 : c ≠ 3 := by rw [hc]; exact K1.o3
  obtain ⟨h2, k2, F2, w0, w1, w2⟩ := c_emptyMa cS (ne_o K1.1 c3 cS.2.1.1) (nI nn) (nI bk)
  have hD : ∀ y, (y = c ∨ y = gP h1 c 0) → y ≠ 0 ∧ (N :: 8 :: tg1 r) <:+ tg1 y := fun y hy => by
    rw [K1.2.2.1]
    rcases hy with z | z
    · rw [z]
      exact ⟨c0, by rw [tc]; exact List.suffix_refl _⟩
    · rw [z]
      exact ⟨cS.2.1.1, by rw [tgc K1.1 cS.2.1.1 c3, tc]; exact List.suffix_cons _ _⟩
  have sf := obj_sm (s0 := N) (F := 8) K1.1 K1.2.1 K1.2.2.1 K1.2.2.2.1 K1.2.2.2.2 F2 hD
  have K2 : Rt tg1 h2 r x := K1.fr F2
  have e3 : gP h2 = gP h1 := F2.2.2.1
  obtain ⟨s1, s2, s3, s4, s5, s6, s7, s8⟩ := cS
  have n10 : gP h1 c 10 ≠ c ∧ gP h1 c 10 ≠ gP h1 c 0 := ⟨fun e => (ne_o K1.1 c3 s6.1) e.symm, ne_f K1.1 c3 s6.1 s2.1 (by omega)⟩
  have S2 : RmS h2 r := S1.ma F2 sf (by
    rw [← hc]
    unfold MaS ar
    rw [F2.1, F2.2.1, e3, w2 2 (by omega) (by omega), F2.2.2.2.2.2.2 _ (fun z => by
      rcases z with z | z
      · exact n10.1 z
      · exact n10.2 z)]
    exact ⟨s1, s2, s3, s4, s5, s6, Or.inl rfl, s8⟩)
  have V2 : RmV h2 r m := RmV.ma I V1 F2 sf N4 (fun _ _ => rfl) (fun z => absurd z (by omega))
  obtain ⟨q1, q2, q3, q4⟩ := mcN_f (m := m) (nn := nn) (bk := bk) N4
  have zz : ∀ l, 28 ≤ l → l < 33 → mcN m N nn bk (320230 + 183 * N + l) = nI 0 := fun l h1 h2 => by
    rw [q1 _ (by omega) (by omega)]
    exact I.2.2.2.2.2.2.1.2 N (by omega) N4 l h1 h2
  have N29 : Nn (mcN m N nn bk) (320230 + 183 * N + 29) = 0 := by unfold Nn; rw [zz 29 (by omega) (by omega), nCl (by omega)]
  have W : MaV h2 (gP h2 (gP h2 r 8) N) (mcN m N nn bk) N := by
    rw [e3, ← hc]
    refine ⟨fun l hl => by rw [e3, w0 l hl, q3 l hl], by rw [w1, q4], by rw [w2 2 (by omega) (by omega), zz 28 (by omega) (by omega)], by rw [w2 3 (by omega) (by omega), zz 29 (by omega) (by omega)], by rw [w2 4 (by omega) (by omega), zz 30 (by omega) (by omega)], by rw [w2 5 (by omega) (by omega), zz 31 (by omega) (by omega)], by rw [w2 6 (by omega) (by omega), zz 32 (by omega) (by omega)], fun l hl => ?_⟩
    rw [N29] at hl
    exact absurd hl (by omega)
  have V3 := rv_c3 K2 I V2 hN N4 (by rw [e3]; exact hz) W (fun y h1 h2 => q1 y h1 (by omega)) q2 (zz 29 (by omega) (by omega))
  obtain ⟨h3, hh3⟩ : ∃ h3, h3 = sI h2 r 9 (nI (N + 1)) := ⟨_, rfl⟩
  rw [← hh3] at V3
  have F3 : Fr (fun y => y = r) h2 h3 := by rw [hh3]; exact Fr.sI rfl
  have g9 : gI h r 9 = nI N := by
    rw [V.2.2.2.1, hN]
    exact (I.1.f).2.2.2.1.1
  have g9' : gI h2 r 9 = nI N := by
    rw [V2.2.2.2.1, hN]
    exact (I.1.f).2.2.2.1.1
  have r0 := K2.2.2.2.2
  have S3 : RmS h3 r := by
    refine S2.of F3 ?_
    obtain ⟨n1, n2, n3, n4, n5⟩ := S2.n
    have k1 : ∀ k, gP h2 r k ≠ r := fun k e => by
      have := K2.a (k := k) (by rw [e]; exact r0)
      rw [e, K2.2.2.1] at this
      have := congrArg List.length this
      simp at this
    have k2 : ∀ k j, gP h2 (gP h2 r k) j ≠ r := fun k j e => by
      have := K2.o (k := k) (j := j) (by rw [e]; exact r0)
      rw [e, K2.2.2.1] at this
      have := congrArg List.length this
      simp at this
    have k3 : ∀ k j l, gP h2 (gP h2 (gP h2 r k) j) l ≠ r := fun k j l e => by
      have := K2.q (k := k) (j := j) (i := l) (by rw [e]; exact r0)
      rw [e, K2.2.2.1] at this
      have := congrArg List.length this
      simp at this
    have f : ∀ y, y ≠ r → gI h3 y = gI h2 y := fun y hy => F3.2.2.2.2.2.2 y hy
    unfold RmN
    rw [F3.2.2.1]
    refine ⟨by rw [f _ (k1 4)]; exact n1, by rw [f _ (k2 14 8), f _ (k2 14 9)]; exact n2, fun q hq => ?_, fun q hq => ?_, fun q hq => ?_⟩
    · rw [f _ (k3 5 q 1), f _ (k2 5 q), f _ (k3 5 q 2)]
      exact n3 q hq
    · rw [f _ (k2 8 q), f _ (k3 8 q 10)]
      exact n4 q hq
    · rw [f _ (k2 10 q)]
      exact n5 q hq
  have R2 : Rx tg1 h1 tg1 h2 (fun y => y = x) := Rx.fr K1.1 F2 (fun y hy => ⟨(hD y hy).1, x, rfl, by
    have := (hD y hy).2
    rw [K1.2.2.1] at this
    exact (List.suffix_append [N, 8] [x]).trans this⟩)
  have R3 : Rx tg1 h2 tg1 h3 (fun y => y = x) := Rx.fr K2.1 F3 (fun y hy => by
    have hy : y = r := hy
    rw [hy]
    exact ⟨r0, x, rfl, by rw [K2.2.2.1]; exact List.suffix_refl _⟩)
  refine ⟨tg1, h3, ?_, (R1.trans R2).trans R3, ?_, S3, V3⟩
  · have kr2 : kd h2 r = 6 := S2.1
    unfold MX7_addMachine
    rw [gg_t S.1, g9, k1, b2_some, gg_t s1, k2, ob_some, gg_t kr2, lt_eq, g9']
    simp only [ZL]
    rw [nAdd, ← hh3]
    have : gI h3 r 9 = nI (N + 1) := by rw [hh3, gI2, if_pos ⟨rfl, rfl⟩]
    rw [this, nSub (by omega)]
    rfl
  · rw [(rmP_fr (r := r) F3).1, (rmP_fr (r := r) F3).2, (rmP_fr (r := r) F2).1, (rmP_fr (r := r) F2).2]
    omega
theorem mcM_0 : mcM m N nn 0 = m := by
  funext y
  unfold mcM
  rw [if_neg (by omega)]
theorem mcM_s {l : Nat} : va_up (mcM m N nn l) (320230 + 183 * N + l) (nI nn) = mcM m N nn (l + 1) := by
  funext y
  rw [up_at]
  unfold mcM
  by_cases z : y = 320230 + 183 * N + l
  · rw [if_pos z, if_pos (by omega)]
  · rw [if_neg z]
    by_cases w : 320230 + 183 * N ≤ y ∧ y < 320230 + 183 * N + l
    · rw [if_pos w, if_pos (by omega)]
    · rw [if_neg w, if_neg (by omega)]
theorem r_addMa (R : RSt h m k i t n f) (I : MI m) (hN : N = Nn m 3) (N4 : N < 4) : ∃ h2, MX12_machine_40 h 73 (nI nn) (nI bk) 73 (nI 0) = some (nI N, h2) ∧ Fr Rc h h2 ∧ RSt h2 (mcN m N nn bk) k i t n f ∧ gI h2 73 0 = nI 0 := by
  have b3 : m 3 = nI N := by rw [hN]; exact (I.1.f).2.2.2.1.1
  have K0 : ∃ z, it (fun q : Int32 × Hp => BX12_machine_65 q.2 73 (nI nn) (nI bk) (nI (320230 + 183 * N)) q.1) (nI 0, sI h 73 0 (nI 0)) = some z ∧ (z.1 = nI N ∧ Fr Rc h z.2 ∧ RSt z.2 (mcN m N nn bk) k i t n f ∧ gI z.2 73 0 = nI 0) := by
    refine it_cnt (fun j s => s.1 = nI j ∧ Fr Rc h s.2 ∧ RSt s.2 (mcM m N nn j) k i t n f ∧ gI s.2 73 0 = nI 0) 27 (fun j s hj pp => ?_) (fun s pp => ?_) ⟨rfl, th_fr, by rw [mcM_0]; exact R.th, th_get⟩
    · obtain ⟨u, g⟩ := s
      obtain ⟨p1, p2, p3, p4⟩ := pp
      replace p1 : u = nI j := p1
      replace p2 : Fr Rc h g := p2
      replace p3 : RSt g (mcM m N nn j) k i t n f := p3
      replace p4 : gI g 73 0 = nI 0 := p4
      subst p1
      refine ⟨(nI (j + 1), sI g 74 (320230 + 183 * N + j) (nI nn)), ?_, rfl, p2.trans fr74, ?_, ?_⟩
      · show BX12_machine_65 g 73 (nI nn) (nI bk) (nI (320230 + 183 * N)) (nI j) = _
        have nl : ¬ nI 27 ≤ nI j := nI_ge hj (by omega)
        unfold BX12_machine_65
        simp only [ZL]
        rw [if_neg nl, gg_t (RS.f p3.1).1, (RS.f p3.1).2.1, gg_t (RS.f p3.1).2.2.1, (RS.f p3.1).2.2.2.1, nAdd, gg_in (by omega) (by omega), lt_eq, nCl (by omega), nAdd]
      · show RSt (sI g 74 (320230 + 183 * N + j) (nI nn)) (mcM m N nn (j + 1)) k i t n f
        rw [← mcM_s]
        exact p3.m1
      · show gI (sI g 74 (320230 + 183 * N + j) (nI nn)) 73 0 = nI 0
        rw [n74]
        exact p4
    · obtain ⟨u, g⟩ := s
      obtain ⟨p1, p2, p3, p4⟩ := pp
      replace p1 : u = nI 27 := p1
      replace p2 : Fr Rc h g := p2
      replace p3 : RSt g (mcM m N nn 27) k i t n f := p3
      replace p4 : gI g 73 0 = nI 0 := p4
      subst p1
      have R2 : RSt (sI g 74 (320230 + 183 * N + 27) (nI bk)) (va_up (mcM m N nn 27) (320230 + 183 * N + 27) (nI bk)) k i t n f := p3.m1
      obtain ⟨g2, hg2⟩ : ∃ g2, g2 = sI g 74 (320230 + 183 * N + 27) (nI bk) := ⟨_, rfl⟩
      rw [← hg2] at R2
      have v3 : gI g2 74 3 = nI N := by
        rw [R2.2.1, up_at, if_neg (by omega)]
        unfold mcM
        rw [if_neg (by omega)]
        exact b3
      have R3 : RSt (sI g2 74 3 (nI (N + 1))) (mcN m N nn bk) k i t n f := R2.m1
      refine ⟨(nI N, sI g2 74 3 (nI (N + 1))), ?_, rfl, ?_, R3, ?_⟩
      · show BX12_machine_65 g 73 (nI nn) (nI bk) (nI (320230 + 183 * N)) (nI 27) = _
        unfold BX12_machine_65 MX12_machine_88
        simp only [ZL]
        rw [if_pos (nI_le (Nat.le_refl _) (by omega)), gg_t (RS.f p3.1).1, (RS.f p3.1).2.1, gg_t (RS.f p3.1).2.2.1, (RS.f p3.1).2.2.2.1, nAdd, gg_in (by omega) (by omega), lt_eq, nCl (by omega), ← hg2, gg_in (by omega) (by omega), lt_eq, nCl (by omega), v3, nAdd]
        rw [show gI (sI g2 74 3 (nI (N + 1))) 74 3 = nI (N + 1) from by rw [gI2, if_pos ⟨rfl, rfl⟩], nSub (by omega), up1_some]
        rfl
      · show Fr Rc h (sI g2 74 3 (nI (N + 1)))
        have f2 : Fr Rc g g2 := by rw [hg2]; exact fr74
        exact (p2.trans f2).trans fr74
      · show gI (sI g2 74 3 (nI (N + 1))) 73 0 = nI 0
        rw [n74, hg2, n74]
        exact p4
  obtain ⟨⟨w, z⟩, k1, k2, k3, k4, k5⟩ := K0
  replace k2 : w = nI N := k2
  refine ⟨z, ?_, k3, k4, k5⟩
  have R1 : RSt (sI h 73 0 (nI 0)) m k i t n f := R.th
  have v3 : gI (sI h 73 0 (nI 0)) 74 3 = nI N := by rw [R1.2.1]; exact b3
  unfold MX12_machine_40 MX12_machine_65
  simp only [ZL]
  rw [gg_t (RS.f R.1).1, lt_eq, gg_t (RS.f R.1).1, th_get, if_pos (nI_le (Nat.le_refl _) (by omega)), (RS.f R.1).2.1, gg_t (RS.f R.1).2.2.1, (RS.f R.1).2.2.2.1, gg_in (by omega) (by omega), nCl (by omega), v3, r_machine0, ob_some, k1, k2]
theorem p_machine (C : CSt tg h m k i t n f) (R : RSt h m k i t n f) (h9 : 109 ≤ sz h) (v u : Int32) : Pr (cm [2, 3]) Gm h (MX11_machine h 1 v u) (fun h' => MX12_machine h' 73 v u) := by
  obtain ⟨O, X, X2, S, V, D, DV, I, T, Im, Tr⟩ := id C
  obtain ⟨-, -, -, ⟨b3, b3'⟩, -⟩ := I.1.f
  have mn : ∀ {X Y}, Pr (cm [2, 3]) Gq h X Y → Pr (cm [2, 3]) Gm h X Y := fun ⟨o, h1, tg, m, k, i, t, n, f, a1, a2, a3, a4, a5⟩ => ⟨o, h1, tg, m, k, i, t, n, f, a1, a2, a3, a4.gm, a5⟩
  have E1 : ∀ h' c, RSt h' m k i t n f → 1 ≤ c → c ≤ 3 → MX12_machine_40 h' 73 v u 73 (nI c) = some (nI 0, sI h' 73 0 (nI c)) := fun h' c R' h1 h3 => by
    have nl : ¬ (nI c ≤ nI 0) := nI_ge (by omega) (by omega)
    unfold MX12_machine_40
    simp only [ZL]
    rw [gg_t (RS.f R'.1).1, lt_eq, gg_t (RS.f R'.1).1, th_get, if_neg nl]
  rcases ni_d v 41 with hv | ⟨nn, hn, rfl⟩
  · refine mn (Pr.thr C R 2 1 rfl (by omega) (by omega) ?_ fun h' R' => ⟨nI 0, ?_⟩)
    · unfold MX11_machine
      rw [c_isBr_f hv, ob_some, if_pos (show nI 0 = 0 from rfl)]
    · unfold MX12_machine MX12_machine_21
      rw [show (0 : Int32) = nI 0 from rfl, show (40 : Int32) = nI 40 from rfl, r_isIn_f (b := 40) (by omega) hv, ob_some, if_pos rfl]
      exact E1 h' 1 R' (by omega) (by omega)
  · have c1 : MX11_machine h 1 (nI nn) u = if u < nI 0 then some (.inr 2, bmp h 1 6) else if u ≤ nI 9 then (if Nn m 3 < 4 then b2 (MX7_addMachine h 19 (nI nn) u) fun (t11 : Int32) (h10 : Hp) => some (.inl t11, h10) else some (.inr 3, bmp h 1 6)) else some (.inr 2, bmp h 1 6) := by
      unfold MX11_machine
      rw [c_isBr (by omega), ob_some, if_neg (show ¬ nI 1 = 0 by decide), gg_t X.1, X5 X, gg_t S.1, V.2.2.2.1, b3]
      simp (disch := omega) only [ZL, nLt]
    have c2 : ∀ h', RSt h' m k i t n f → MX12_machine h' 73 (nI nn) u = Option.bind (MX12_isIn h' u (nI 0) (nI 9)) fun (t40) => if t40 = 0 then MX12_machine_40 h' 73 (nI nn) u 73 (nI 1) else if Nn m 3 = 4 then MX12_machine_40 h' 73 (nI nn) u 73 (nI 2) else MX12_machine_40 h' 73 (nI nn) u 73 (nI 0) := fun h' R' => by
      have m3 : gI h' 74 3 = nI (Nn m 3) := by rw [R'.2.1]; exact b3
      unfold MX12_machine MX12_machine_21
      simp only [ZL]
      rw [r_isIn_t (by omega) (by omega) (by omega), ob_some, if_neg (by decide), gg_t (RS.f R'.1).1, (RS.f R'.1).2.1, gg_t (RS.f R'.1).2.2.1, (RS.f R'.1).2.2.2.1, gg_in (by omega) (by omega), nCl (by omega), m3]
      simp (disch := omega) only [nEq]
    rcases ni_d u 10 with hu | ⟨bk, hb, rfl⟩
    · refine mn (Pr.thr C R 2 1 rfl (by omega) (by omega) ?_ fun h' R' => ⟨nI 0, ?_⟩)
      · rw [c1]
        rcases ni_c (N := 10) (by omega) hu with z | ⟨z1, z2, z3⟩
        · rw [if_pos z]
        · have z4 : ¬ u ≤ nI 9 := fun z => by
            rcases arg2 u with y | ⟨w, hw, rfl⟩
            · exact z1 y
            · rw [nLe (by omega) (by omega)] at z
              rw [nLe (by omega) (by omega)] at z2
              omega
          rw [if_neg z1, if_neg z4]
      · rw [c2 h' R', r_isIn_f (b := 9) (by omega) hu, ob_some, if_pos (show nI 0 = 0 from rfl)]
        exact E1 h' 1 R' (by omega) (by omega)
    · rw [if_neg (show ¬ nI bk < nI 0 from nI_pos (by omega)), if_pos (nI_le (by omega) (by omega))] at c1
      by_cases N4 : Nn m 3 < 4
      · rw [if_pos N4] at c1
        obtain ⟨tg', h1, k1, X1, e1, S1, V1⟩ := c_addMa (nn := nn) (bk := bk) C.rt (by omega : 19 ≤ sz h) h9 S V I rfl N4
        obtain ⟨q1, q2, q3, q4⟩ := mcN_f (m := m) (nn := nn) (bk := bk) N4
        have I1 : MI (mcN m (Nn m 3) nn bk) := mc_mi I rfl N4 (by omega) (by omega) q1 q2 q3 q4
        have w5 : ∀ y, y = 5 → y = 5 ∨ y = 6 ∨ y = 9 ∨ y = 10 ∨ y = 11 := fun y hy => Or.inl hy
        obtain ⟨-, -, t3, -, -, -, -, t48, -⟩ := tgs O X
        have s48 := rx_sm3 X1 (⟨O, t3, t48, by omega, by omega⟩ : Rt tg h 48 6) (by omega) (by omega : ¬ 6 = 5)
        have HD : ∀ y, rgDk y → mcN m (Nn m 3) nn bk y = m y := fun y hy => q1 y (by unfold rgDk at hy; omega) (by unfold rgDk at hy; omega)
        refine Pr.rx C R h9 (nI (Nn m 3)) (by rw [c1, k1, b2_some]) X1 w5 (C.rx h9 X1 w5 S1 V1 (D.congr s48) ((DV.congr s48).mc HD I.1 I.2.2.2.2.1) I1 (rx_img X1 O X h9 (by omega) (by omega) Im) (rx_tr X1 O X h9 (by omega) Tr)) ⟨?_, X1.2.1⟩ fun h' R' => ?_
        · have := mu_rm X1 O X h9 (fun y hy => hy) e1
          omega
        · obtain ⟨h2, u1, u2, u3, u4⟩ := r_addMa (nn := nn) (bk := bk) R' I rfl N4
          refine ⟨h2, ?_, u2, u3, u4⟩
          rw [c2 h' R', r_isIn_t (by omega) (by omega) (by omega), ob_some, if_neg (show ¬ nI 1 = 0 by decide), if_neg (by omega)]
          exact u1
      · rw [if_neg N4] at c1
        refine mn (Pr.thr C R 3 2 rfl (by omega) (by omega) c1 fun h' R' => ⟨nI 0, ?_⟩)
        rw [c2 h' R', r_isIn_t (by omega) (by omega) (by omega), ob_some, if_neg (show ¬ nI 1 = 0 by decide), if_pos (by omega)]
        exact E1 h' 2 R' (by omega) (by omega)
end
