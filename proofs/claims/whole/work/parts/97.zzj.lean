/-! a machine's minute, its part set: the class -/
/-- the first job of machine k: line l of part q, to line en -/
def JC (m : Nat → Int32) (k q l en fr : Nat) : Prop := vP m q ∧ m (130 + 645 * q + 3) = nI 1 ∧ l < Nn m (130 + 645 * q + 4) ∧ m (320230 + 183 * k + 33) = nI q ∧ m (320230 + 183 * k + 34) = nI l ∧ m (320230 + 183 * k + 35) = nI en ∧ m (320230 + 183 * k + 36) = nI fr ∧ fr ≤ 1 ∧ l < en ∧ en ≤ 40 ∧ (m (320230 + 183 * k + 37) = nI 1 → m (130 + 645 * q + 4) = nI en)
/-- what the memory is behind the minute -/
noncomputable def oM (m : Nat → Int32) (k n q l en fr i T o : Nat) : Nat → Int32 := if hs (cnP m k (wtL m q l)) 27 = true then spM m k n else if 300 ≤ Nn m 4 ∨ hs (shP m k (wtL m q l) T) 27 = true then waM m k else adM (caM m (Nn m 4) k q l i (nI fr) (wtL m q l) o) k n (l + 1) en
section
variable {tg : Nat → List Nat} {h h1 g : Hp} {m M : Nat → Int32} {r x k q l en fr n p c T i o : Nat}
theorem ca_cs (I : MI m) (vq : vP m q) (es : m (130 + 645 * q + 3) = nI 1) (hl : l < Nn m (130 + 645 * q + 4)) (hs : Nn m 4 < 300) (hk : k < Nn m 3) (hi : i < 8) (eo : m (130 + 645 * q + 45 + l) = nI o) (ho : o ≤ 300) : Cs (potM m o) (caM m (Nn m 4) k q l i (nI fr) (wtL m q l) o) (Nn m 4) k q l i (nI fr) (wtL m q l) := by
  obtain ⟨o4, oz, -, -⟩ := pot_o I vq es hl eo ho
  have f3 := I.1.f.2.2.2.1.2
  have l4 := ((I.2.1 q vq).2.2.2.2.2.1.eq (by omega)).2
  exact cs_of hs (by omega) vq.1 (by omega) hi ((ln_set I vq es hl).2.2.2.2.2) o4 (fun z => (oz z).2.2.2.2) rfl
theorem md_rx (K : Rt tg h r x) (F : Md tg h h1 r x k) : Rx tg h tg h1 (fun y => y = x) ∧ cst h1 + rmP h1 r = cst h + rmP h r := by
  have := rmP_fr (r := r) F
  refine ⟨Rx.fr K.1 F (fun b hb => ⟨hb.1, x, rfl, (List.suffix_append [k, 8] [x]).trans hb.2⟩), by omega⟩
theorem c_step (K : Rt tg h r x) (hr : r ≤ sz h) (h9 : 109 ≤ sz h) (S : RmS h r) (V : RmV h r m) (I : MI m) (hk : k < Nn m 3) (hc : c = gP h (gP h r 8) k) (hn : n = Nn m (320230 + 183 * k + 29)) (n1 : 1 ≤ n) (JJ : JC m k q l en fr) (hp : p = gP h (gP h r 5) q) (e0 : m 0 = nI (T + 1)) (hT : T < 1000000) (e7 : Nn m 7 = i + 1) (hi : i < 8) (eo : m (130 + 645 * q + 45 + l) = nI o) (ho : o ≤ 300) : ∃ tg' h', MX7_work_55 h r (nI k) c p = some h' ∧ Rx tg h tg' h' (fun y => y = x) ∧ cst h' + rmP h' r ≤ cst h + rmP h r ∧ RmS h' r ∧ RmV h' r (oM m k n q l en fr i T o) ∧ MI (oM m k n q l en fr i T o) := by
  obtain ⟨vq, es, hl, J0, J1, J2, J3, fr1, hle, e40, J4⟩ := JJ
  obtain ⟨f4, f4'⟩ := I.1.f.2.2.2.2.1
  have f3 := I.1.f.2.2.2.1.2
  have vb := vq.1
  have l4 := ((I.2.1 q vq).2.2.2.2.2.1.eq (by omega)).2
  obtain ⟨w, hw⟩ : ∃ w, w = wtL m q l := ⟨_, rfl⟩
  have n17 := S.2.2.2.2.2.2.2.2.2.2.2.1
  have n16 := S.2.2.2.2.2.2.2.2.2.2.1
  have n78 : gP h r 17 ≠ gP h r 16 := fun e => by
    have t17 := K.a n17.1
    rw [e, K.a n16.1] at t17
    exact absurd (List.cons.inj t17).1 (by omega)
  obtain ⟨c0, cV⟩ := V.2.2.2.2.2.2.2.2.1 k hk
  have cS := S.2.2.2.2.2.2.2.2.2.2.2.2.2.2.2.2.2.2.1 k c0
  rw [← hc] at c0 cV cS
  obtain ⟨-, j8, -, -⟩ := cV.2.2.2.2.2.2.2 0 (by omega)
  rw [show 320230 + 183 * k + 33 + 5 * 0 + 1 = 320230 + 183 * k + 34 by omega, J1] at j8
  obtain ⟨-, -, -, ⟨a8, a8k, a8l⟩, -⟩ := id cS
  -- needs
  obtain ⟨g1, y1, y2, y3⟩ := c_need (w := w) K S V I vq es hl hw
  have sc1 := sc178 K S y2
  have K1 := sc1.rt K
  have S1 := sc1.rs K S
  have V1 := sc1.rv K V
  have eP1 : gP g1 = gP h := y2.2.2.1
  have hc1 : c = gP g1 (gP g1 r 8) k := by rw [eP1]; exact hc
  have cV1 := (V1.2.2.2.2.2.2.2.2.1 k hk).2
  have cS1 := S1.2.2.2.2.2.2.2.2.2.2.2.2.2.2.2.2.2.2.1 k (by rw [← hc1]; exact c0)
  rw [← hc1] at cV1 cS1
  have can := c_cannot (h := g1) (A := gP h r 17) (w := w) (by rw [y2.1]; exact n17.2.1) (by rw [y2.2.1]; exact n17.2.2) y3 cS1 cV1
  have g1c1 : gI g1 c 1 = m (320230 + 183 * k + 27) := cV1.2.1
  have g1r0 : gI g1 r 0 = nI (T + 1) := by rw [V1.1, e0]
  -- brass out
  obtain ⟨g2, z1, z2, z3⟩ := c_countOut (k := k) (w := nI (T + 1) - m (320230 + 183 * k + 27)) (T := T) K1 S1 V1 I
  have sc2 := sc16 K1 S1 z2
  have K2 := sc2.rt K1
  have S2 := sc2.rs K1 S1
  have V2 := sc2.rv K1 V1
  have eP2 : gP g2 = gP h := z2.2.2.1.trans eP1
  have hc2 : c = gP g2 (gP g2 r 8) k := by rw [eP2]; exact hc
  have hp2 : p = gP g2 (gP g2 r 5) q := by rw [eP2]; exact hp
  have cV2 := (V2.2.2.2.2.2.2.2.2.1 k hk).2
  have cS2 := S2.2.2.2.2.2.2.2.2.2.2.2.2.2.2.2.2.2.2.1 k (by rw [← hc2]; exact c0)
  rw [← hc2] at cV2 cS2
  rw [eP1] at z2 z3
  have ek2 : kd g2 = kd h := z2.1.trans y2.1
  have el2 : ln g2 = ln h := z2.2.1.trans y2.2.1
  have need2 : ∀ s, s < 27 → gI g2 (gP h r 17) s = nI (sgC w s) := fun s hs => by rw [z2.2.2.2.2.2.2 _ n78]; exact y3 s hs
  have sho := c_short (h := g2) (A := gP h r 17) (B := gP h r 16) (w := w) (T := T) (by rw [ek2]; exact n17.2.1) (by rw [el2]; exact n17.2.2) need2 (by rw [ek2]; exact n16.2.1) (by rw [el2]; exact n16.2.2) z3 cS2 cV2
  have Rs1 : Rx tg h tg g1 (fun y => y = x) := Rx.fr K.1 sc1.1 (fun b hb => ⟨hb.1, x, rfl, scT.sf hb.2⟩)
  have Rs2 : Rx tg h tg g2 (fun y => y = x) := Rs1.trans (Rx.fr K1.1 sc2.1 (fun b hb => ⟨hb.1, x, rfl, scT.sf hb.2⟩))
  have m1 := rmP_fr (r := r) y2
  have m2 := rmP_fr (r := r) z2
  have r11 : gI g2 r 11 = nI (Nn m 4) := V2.2.2.2.2.1.trans f4
  have n01 : nI 1 ≠ nI 0 := by decide
  have pre : MX7_work_55 h r (nI k) c p = if hs (cnP m k w) 27 = true then Option.bind (MX4_spike g1 c) fun h45 => some h45 else if 300 ≤ Nn m 4 then MX7_work_127 g2 c else if hs (shP m k w T) 27 = true then MX7_work_127 g2 c else Option.bind (MX7_castLine g2 r (nI k) c p) fun h43 => some h43 := by
    unfold MX7_work_55
    simp only [ZL]
    rw [gg_t cS.1, gg_t a8k, a8l, gg_in (by omega) (by omega), gg_t S.1, nCl (by omega), j8, hp, y1, ob_some, gg_t S1.1, gg_t cS1.1, eP1, can, ob_some]
    by_cases z : hs (cnP m k w) 27 = true
    · rw [if_pos z, if_pos z, if_neg n01]
    · rw [if_neg z, if_neg z, if_pos rfl, g1r0, g1c1, nSub (by omega), Nat.add_sub_cancel, z1, ob_some, gg_t S2.1, r11, eP2]
      by_cases y : 300 ≤ Nn m 4
      · rw [if_pos (nI_le y (by omega)), if_pos y]
      · rw [if_neg (nI_ge (by omega) (by omega)), if_neg y, gg_t cS2.1, sho, ob_some]
        by_cases u : hs (shP m k w T) 27 = true
        · rw [if_pos u, if_pos u, if_neg n01]
        · rw [if_neg u, if_neg u, if_pos rfl]
  rw [pre]
  unfold oM
  rw [← hw]
  by_cases z : hs (cnP m k w) 27 = true
  · rw [if_pos z, if_pos z]
    obtain ⟨h', q1, q2, q3, q4, q5⟩ := c_spike K1 S1 V1 I hk hc1 hn n1
    obtain ⟨p1, p2⟩ := md_rx K1 q2
    exact ⟨tg, h', by rw [q1, ob_some], Rs1.trans p1, by omega, q3, q4, q5⟩
  · rw [if_neg z, if_neg z]
    have wt : ∃ tg' h', MX7_work_127 g2 c = some h' ∧ Rx tg h tg' h' (fun y => y = x) ∧ cst h' + rmP h' r ≤ cst h + rmP h r ∧ RmS h' r ∧ RmV h' r (waM m k) ∧ MI (waM m k) := by
      obtain ⟨h', q1, q2, q3, q4, q5⟩ := c_wait K2 S2 V2 I hk hc2
      obtain ⟨p1, p2⟩ := md_rx K2 q2
      exact ⟨tg, h', q1, Rs2.trans p1, by omega, q3, q4, q5⟩
    by_cases y : 300 ≤ Nn m 4
    · rw [if_pos y, if_pos (Or.inl y)]
      exact wt
    · rw [if_neg y]
      by_cases u : hs (shP m k w T) 27 = true
      · rw [if_pos u, if_pos (Or.inr u)]
        exact wt
      · rw [if_neg u, if_neg (fun v => by rcases v with v | v; exact y v; exact u v)]
        have HC := ca_cs (fr := fr) I vq es hl (by omega) hk hi eo ho
        rw [← hw] at HC
        obtain ⟨o4, oz, pox, pop⟩ := pot_o I vq es hl eo ho
        have H := ln_set I vq es hl
        have hb122 : ∀ j, j < w.length → w.getD j 0 ≤ 122 := by rw [hw]; exact wt_b I.1 (I.2.1 q vq) H.2.2.2.2.1
        have z2s := Rs2.2.1
        obtain ⟨tg', h', q1, q2, q3, q4, q5, q6, q7⟩ := c_cast (s := Nn m 4) K2 (by omega) (by omega) S2 V2 I rfl (by omega) hk hc2 (by omega) J0 J1 J3 fr1 vq es hl hp2 hw hb122 (by unfold Nn; rw [e0, nCl (by omega)]; omega) e7 eo ho HC
        have K3 := q2.rt K2 (by omega) (by omega)
        obtain ⟨M, hM⟩ : ∃ M, M = caM m (Nn m 4) k q l i (nI fr) w o := ⟨_, rfl⟩
        rw [← hM] at q5 q6 HC ⊢
        have out : ∀ y, ¬ plX y → (y < 64630 + 852 * Nn m 4 ∨ 64630 + 852 * Nn m 4 + 852 ≤ y) → y ≠ 4 → y ≠ 320230 + 183 * k + 30 → y ≠ 337180 + 5 * i + 1 + k → M y = m y := fun y p1 p2 p3 p4 p5 => by
          rw [HC.1 y p2 p3 p4 p5 (fun e => p1 (by unfold plX; omega)), pox y p1]
        have oK : ∀ y, y < 183 → y ≠ 30 → M (320230 + 183 * k + y) = m (320230 + 183 * k + y) := fun y h1 h2 => out _ (by unfold plX; omega) (by omega) (by omega) (by omega) (by omega)
        have n3 : Nn M 3 = Nn m 3 := Nn.c (out 3 (by unfold plX; omega) (by omega) (by omega) (by omega) (by omega))
        have n29 : Nn M (320230 + 183 * k + 29) = n := by rw [hn]; exact Nn.c (oK 29 (by omega) (by omega))
        have n33 : Nn M (320230 + 183 * k + 33) = q := by unfold Nn; rw [oK 33 (by omega) (by omega), J0, nCl (by omega)]
        obtain ⟨h2, a1, a2, a3, a4, a5⟩ := c_adv (n := n) (nx := l) (en := en) K3 q4 q5 q6 (by rw [n3]; exact hk) q7.symm n29.symm n1 (by rw [oK 34 (by omega) (by omega)]; exact J1) hle e40 (by rw [oK 35 (by omega) (by omega)]; exact J2) (fun z => by
          rw [oK 37 (by omega) (by omega)] at z
          rw [n33, out (130 + 645 * q + 3) (by unfold plX; omega) (by omega) (by omega) (by omega) (by omega), out (130 + 645 * q + 4) (by unfold plX; omega) (by omega) (by omega) (by omega) (by omega)]
          exact ⟨es, J4 z⟩)
        obtain ⟨p1, p2⟩ := md_rx K3 a2
        exact ⟨tg', h2, by rw [q1, a1, ob_some], (Rs2.trans q2).trans p1, by omega, a3, a4, a5⟩
end
