/-! a machine's minute, whole: both sides -/
noncomputable def wkM (m : Nat → Int32) (k i T : Nat) : Nat → Int32 := match prM m k (Nn m (320230 + 183 * k + 33)) with
  | none => spM m k (Nn m (320230 + 183 * k + 29))
  | some m1 => oM m1 k (Nn m (320230 + 183 * k + 29)) (Nn m (320230 + 183 * k + 33)) (Nn m1 (320230 + 183 * k + 34)) (Nn m1 (320230 + 183 * k + 35)) (Nn m1 (320230 + 183 * k + 36)) i T (Nn m1 (130 + 645 * Nn m (320230 + 183 * k + 33) + 45 + Nn m1 (320230 + 183 * k + 34)))
section
variable {tg : Nat → List Nat} {h h1 : Hp} {m m1 M kk t : Nat → Int32} {ii f u : Int32} {r x k q l en fr n T i o c : Nat}
theorem seF_se {v : Nat × Nat × Nat} (I : MI m) (vq : vP m q) (hk : k < 4) (hv : wyT m q (m 0) 0 = some v) : Se m (seF m q v.2.1 k) q v.2.1 k (lnC m q) := by
  obtain ⟨l1, l2, l3, l4, l5, l6⟩ := lnC_f I vq hv
  have vb := vq.1
  obtain ⟨n, hn⟩ : ∃ n, n = v.2.1 := ⟨_, rfl⟩
  rw [← hn] at l1 l2 ⊢
  unfold seF
  obtain ⟨m0, hm0⟩ : ∃ m0, m0 = va_up (va_up m (130 + 645 * q + 3) (nI 1)) (130 + 645 * q + 4) (nI n) := ⟨_, rfl⟩
  rw [← hm0]
  have W : ∀ y, y ≠ 320230 + 183 * k + 35 → va_up (seW m0 q (lnC m q) n) (320230 + 183 * k + 35) (nI n) y = seW m0 q (lnC m q) n y := fun y hy => by rw [up_at, if_neg hy]
  refine ⟨fun y h1 h2 => ?_, ?_, ?_, fun j hj => ⟨?_, ?_⟩, ?_⟩
  · rw [W y h2]
    unfold seW
    rw [if_neg (by omega), if_neg (by omega), hm0, up_at, if_neg (by omega), up_at, if_neg (by omega)]
  · rw [W _ (by omega)]
    unfold seW
    rw [if_neg (by omega), if_neg (by omega), hm0, up_at, if_neg (by omega), up_at, if_pos rfl]
  · rw [W _ (by omega)]
    unfold seW
    rw [if_neg (by omega), if_neg (by omega), hm0, up_at, if_pos rfl]
  · rw [W _ (by omega)]
    unfold seW
    rw [if_pos (by omega), Nat.add_sub_cancel_left]
  · rw [W _ (by omega)]
    unfold seW
    rw [if_neg (by omega), if_pos (by omega)]
  · rw [up_at, if_pos rfl]
theorem o1_v (I : MI m) {y : Nat} (z : oN m y 1) : m y = nI 0 ∨ m y = nI 1 := by
  obtain ⟨a, ha, e⟩ := z
  rcases (show a = 0 ∨ a = 1 by omega) with w | w
  · exact Or.inl (by rw [e, w])
  · exact Or.inr (by rw [e, w])
theorem jc_eo (I : MI m) (JJ : JC m k q l en fr) : m (130 + 645 * q + 45 + l) = nI (Nn m (130 + 645 * q + 45 + l)) ∧ Nn m (130 + 645 * q + 45 + l) ≤ 300 := (((I.2.1 q JJ.1).2.2.2.2.2.2.2.2.2.2.2 JJ.2.1).2.2.2 l JJ.2.2.1).2.1.eq (by omega)
/-- unset before: the job's context -/
theorem jc_se {v : Nat × Nat × Nat} (I : MI m) (vq : vP m q) (hk : k < Nn m 3) (hj : 1 ≤ Nn m (320230 + 183 * k + 29)) (J0 : m (320230 + 183 * k + 33) = nI q) (u3 : m (130 + 645 * q + 3) = nI 0) (hv : wyT m q (m 0) 0 = some v) : MI (seF m q v.2.1 k) ∧ JC (seF m q v.2.1 k) k q (Nn (seF m q v.2.1 k) (320230 + 183 * k + 34)) (Nn (seF m q v.2.1 k) (320230 + 183 * k + 35)) (Nn (seF m q v.2.1 k) (320230 + 183 * k + 36)) ∧ (∀ y, y < 130 ∨ (320230 + 183 * k ≤ y ∧ y < 320230 + 183 * k + 35) ∨ 326582 ≤ y → seF m q v.2.1 k y = m y) := by
  have f3 := I.1.f.2.2.2.1.2
  have vb := vq.1
  have H := seF_se I vq (by omega : k < 4) hv
  obtain ⟨l1, l2, l3, l4, l5, l6⟩ := lnC_f I vq hv
  obtain ⟨fk, d2, d3, -⟩ := se_j I vq u3 hk hj J0
  obtain ⟨-, -, -, -, J36, -, J36', -⟩ := ja_f I hk hj
  have IM := se_mi I vq u3 hk hj J0 l1 l2 l3 (fun j hj => (l5 j hj).1) l4 l6 H
  obtain ⟨H0, H3, H4, Hl, Hj⟩ := H
  obtain ⟨M, hM⟩ : ∃ M, M = seF m q v.2.1 k := ⟨_, rfl⟩
  rw [← hM] at IM H0 H3 H4 Hl Hj ⊢
  have o : ∀ y, y < 130 ∨ (320230 + 183 * k ≤ y ∧ y < 320230 + 183 * k + 35) ∨ 326582 ≤ y → M y = m y := fun y hy => H0 y (by omega) (by omega)
  have n34 : Nn M (320230 + 183 * k + 34) = 0 := by unfold Nn; rw [o _ (by omega), d3, nCl (by omega)]
  have n35 : Nn M (320230 + 183 * k + 35) = v.2.1 := by unfold Nn; rw [Hj, nCl (by omega)]
  have e36 : M (320230 + 183 * k + 36) = m (320230 + 183 * k + 36) := H0 _ (by omega) (by omega)
  refine ⟨IM, ?_, o⟩
  rw [n34, n35, Nn.c e36]
  refine ⟨vq.b (fun y hy => o y (by omega)), H3, by unfold Nn; rw [H4, nCl (by omega)]; omega, by rw [o _ (by omega)]; exact J0, by rw [o _ (by omega)]; exact d3, Hj, by rw [e36]; exact J36, J36', by omega, l2, fun _ => H4⟩
/-- set before: the job's context -/
theorem jc_st (I : MI m) (hk : k < Nn m 3) (hj : 1 ≤ Nn m (320230 + 183 * k + 29)) (hq : q = Nn m (320230 + 183 * k + 33)) (u3 : m (130 + 645 * q + 3) = nI 1) (hm : m1 = if m (320230 + 183 * k + 37) = nI 1 then va_up m (320230 + 183 * k + 35) (m (130 + 645 * q + 4)) else m) : MI m1 ∧ JC m1 k q (Nn m1 (320230 + 183 * k + 34)) (Nn m1 (320230 + 183 * k + 35)) (Nn m1 (320230 + 183 * k + 36)) ∧ (∀ y, y ≠ 320230 + 183 * k + 35 → m1 y = m y) := by
  have f3 := I.1.f.2.2.2.1.2
  obtain ⟨vq, J33, J34, J35, J36, j40, j1, jj⟩ := ja_f I hk hj
  rw [← hq] at vq J33 jj
  have vb := vq.1
  obtain ⟨e4, l4⟩ := (I.2.1 q vq).2.2.2.2.2.1.eq (by omega)
  rcases jj with ⟨a1, a2, a3, a4⟩ | ⟨a1, a2⟩
  · have em : m1 = m := by rw [hm, if_neg (by rw [a1]; decide)]
    subst em
    exact ⟨I, ⟨vq, u3, by omega, J33, J34, J35, J36, j1, a3, j40, fun z => absurd (a1.symm.trans z) (by decide)⟩, fun _ _ => rfl⟩
  · rw [if_pos a1] at hm
    have W : ∀ y, y ≠ 320230 + 183 * k + 35 → m1 y = m y := fun y hy => by rw [hm, up_at, if_neg hy]
    have e35 : m1 (320230 + 183 * k + 35) = nI (Nn m (130 + 645 * q + 4)) := by rw [hm, up_at, if_pos rfl]; exact e4
    have n35 : Nn m1 (320230 + 183 * k + 35) = Nn m (130 + 645 * q + 4) := by
      show (m1 (320230 + 183 * k + 35)).toNatClampNeg = _
      rw [e35, nCl (by omega)]
    refine ⟨by rw [hm]; exact f2_mi I hk hj a1 ⟨_, l4, e4⟩, ?_, W⟩
    rw [n35, Nn.c (W (320230 + 183 * k + 34) (by omega)), Nn.c (W (320230 + 183 * k + 36) (by omega))]
    refine ⟨vq.b (fun y hy => W y (by omega)), by rw [W _ (by omega)]; exact u3, by rw [Nn.c (W (130 + 645 * q + 4) (by omega))]; exact a2 u3, by rw [W _ (by omega)]; exact J33, by rw [W _ (by omega)]; exact J34, e35, by rw [W _ (by omega)]; exact J36, j1, a2 u3, l4, fun _ => by rw [W _ (by omega)]; exact e4⟩
theorem r_runs (R : RSt h m kk ii t u f) (I : MI m) (Z : StM m) (hk : k < Nn m 3) (hj : 1 ≤ Nn m (320230 + 183 * k + 29)) (e0 : m 0 = nI (T + 1)) (hT : T < 1000000) (e7 : Nn m 7 = i + 1) (hi : i < 8) : ∃ h2, MX12_runsOn h 73 (nI k) = some h2 ∧ Fr Rm h h2 ∧ RSt h2 (wkM m k i T) kk ii t u f ∧ gI h2 73 0 = gI h 73 0 := by
  have f3 := I.1.f.2.2.2.1.2
  obtain ⟨vq, J33, -⟩ := ja_f I hk hj
  obtain ⟨e29, h30⟩ := (I.2.2.2.1 k hk).2.2.2.1.eq (by omega)
  obtain ⟨q, hq⟩ : ∃ q, q = Nn m (320230 + 183 * k + 33) := ⟨_, rfl⟩
  unfold wkM
  rw [← hq] at vq J33 ⊢
  have vb := vq.1
  unfold prM
  rcases o1_v I (I.2.1 q vq).2.2.2.2.1 with u3 | u3
  · rw [if_pos u3]
    obtain ⟨c1, c2⟩ := r_setp R I Z vq u3 hk hj J33
    cases hv : wyT m q (m 0) 0 with
    | none =>
      obtain ⟨h2, a1, a2, a3, a4⟩ := c1 hv
      obtain ⟨h3, b1, b2, b3, b4⟩ := r_spikes a3 (by omega) e29 hj h30
      exact ⟨h3, by rw [a1, b1, ob_some], a2.trans b2, b3, by rw [b4, a4]⟩
    | some v =>
      obtain ⟨h2, a1, a2, a3, -, a4⟩ := c2 v hv
      obtain ⟨IM, JJ, o⟩ := jc_se I vq hk hj J33 u3 hv
      obtain ⟨eo, ho⟩ := jc_eo IM JJ
      obtain ⟨h3, b1, b2, b3, b4⟩ := r_step (n := Nn m (320230 + 183 * k + 29)) a3 IM (by rw [Nn.c (o 3 (by omega))]; exact hk) (Nn.c (o _ (by omega))).symm hj JJ (by rw [o 0 (by omega)]; exact e0) hT (by rw [Nn.c (o 7 (by omega))]; exact e7) hi eo ho
      exact ⟨h3, by rw [a1, b1], a2.trans b2, b3, by rw [b4, a4]⟩
  · rw [if_neg (by rw [u3]; decide)]
    obtain ⟨m1, hm1⟩ : ∃ m1, m1 = if m (320230 + 183 * k + 37) = nI 1 then va_up m (320230 + 183 * k + 35) (m (130 + 645 * q + 4)) else m := ⟨_, rfl⟩
    rw [← hm1]
    obtain ⟨IM, JJ, o⟩ := jc_st I hk hj hq u3 hm1
    obtain ⟨eo, ho⟩ := jc_eo IM JJ
    have f37 : oN m (320230 + 183 * k + 37) 1 := by
      have := ((I.2.2.2.1 k hk).2.2.2.2 0 hj).2.2.2.2.2.1
      rwa [show 320230 + 183 * k + 33 + 5 * 0 + 4 = 320230 + 183 * k + 37 by omega] at this
    have pre : MX12_runsOn h 73 (nI k) = MX12_runsOn_155 h 73 (nI k) (nI (320230 + 183 * k)) (nI (320230 + 183 * k + 33)) (nI q) (nI (130 + 645 * q)) := by
      have g33 : gI h 74 (320230 + 183 * k + 33) = nI q := by rw [R.2.1]; exact J33
      have g3 : gI h 74 (130 + 645 * q + 3) = nI 1 := by rw [R.2.1]; exact u3
      unfold MX12_runsOn
      simp only [ZL]
      rw [r_machine0, ob_some, gg_t (RS.f R.1).1, (RS.f R.1).2.1, gg_t (RS.f R.1).2.2.1, (RS.f R.1).2.2.2.1, nAdd, gg_in (by omega) (by omega), nCl (by omega), g33, r_part0, ob_some, nAdd, gg_in (by omega) (by omega), nCl (by omega), g3, if_neg (by decide)]
    obtain ⟨e, he, ee⟩ := f37
    obtain ⟨h2, a1, a2, a3⟩ := r_155 (k := k) (q := q) R (by omega) vb he ee
    have em : (if e = 1 then va_up m (320230 + 183 * k + 35) (m (130 + 645 * q + 4)) else m) = m1 := by
      rw [hm1, ee]
      by_cases z : e = 1
      · rw [if_pos z, if_pos (by rw [z])]
      · rw [if_neg z, if_neg (by rw [nEq (by omega) (by omega)]; exact z)]
    rw [em] at a3
    obtain ⟨h3, b1, b2, b3, b4⟩ := r_step (n := Nn m (320230 + 183 * k + 29)) a3 IM (by rw [Nn.c (o 3 (by omega))]; exact hk) (Nn.c (o _ (by omega))).symm hj JJ (by rw [o 0 (by omega)]; exact e0) hT (by rw [Nn.c (o 7 (by omega))]; exact e7) hi eo ho
    exact ⟨h3, by rw [pre, a1, b1], (f74_rc a2).trans b2, b3, by rw [b4, f74_73 a2]⟩
theorem c_work (K : Rt tg h r x) (hr : r ≤ sz h) (h9 : 109 ≤ sz h) (S : RmS h r) (V : RmV h r m) (I : MI m) (hk : k < Nn m 3) (hc : c = gP h (gP h r 8) k) (hj : 1 ≤ Nn m (320230 + 183 * k + 29)) (e0 : m 0 = nI (T + 1)) (hT : T < 1000000) (e7 : Nn m 7 = i + 1) (hi : i < 8) : ∃ tg' h', MX7_work h r (nI k) c = some h' ∧ Rx tg h tg' h' (fun y => y = x) ∧ cst h' + rmP h' r ≤ cst h + rmP h r ∧ RmS h' r ∧ RmV h' r (wkM m k i T) ∧ MI (wkM m k i T) := by
  have f3 := I.1.f.2.2.2.1.2
  obtain ⟨vq, J33, -, J35, -, j40, -, jj⟩ := ja_f I hk hj
  obtain ⟨e29, h30⟩ := (I.2.2.2.1 k hk).2.2.2.1.eq (by omega)
  obtain ⟨q, hq⟩ : ∃ q, q = Nn m (320230 + 183 * k + 33) := ⟨_, rfl⟩
  unfold wkM
  rw [← hq] at vq J33 jj ⊢
  have vb := vq.1
  unfold prM
  rcases o1_v I (I.2.1 q vq).2.2.2.2.1 with u3 | u3
  · rw [if_pos u3]
    obtain ⟨c1, c2⟩ := c_setp K S V I vq u3 hk hj J33 hc
    cases hv : wyT m q (m 0) 0 with
    | none =>
      obtain ⟨g, a1, a2⟩ := c1 hv
      have Kg := a2.rt K
      have hcg : c = gP g (gP g r 8) k := by rw [a2.1.gp]; exact hc
      obtain ⟨h', b1, b2, b3, b4, b5⟩ := c_spike Kg (a2.rs K S) (a2.rv K V) I hk hcg rfl hj
      obtain ⟨p1, p2⟩ := md_rx Kg b2
      have m1 := rmP_fr (r := r) a2.1
      have kc : kd g c = 3 := by
        rw [hcg]
        exact ((a2.rs K S).2.2.2.2.2.2.2.2.2.2.2.2.2.2.2.2.2.2.1 k ((a2.rv K V).2.2.2.2.2.2.2.2.1 k hk).1).1
      refine ⟨tg, h', ?_, (Rx.fr (W := fun y => y = x) K.1 a2.1 (fun b hb => ⟨hb.1, x, rfl, scT.sf hb.2⟩)).trans p1, by omega, b3, b4, b5⟩
      rw [a1]
      unfold MX7_work_30
      rw [gg_t kc, b1, ob_some]
    | some v =>
      obtain ⟨g, a1, a2, a3, a4, a5⟩ := c2 v hv _ (seF_se I vq (by omega) hv)
      obtain ⟨IM, JJ, o⟩ := jc_se I vq hk hj J33 u3 hv
      obtain ⟨eo, ho⟩ := jc_eo IM JJ
      have Kg := K.fr a2
      have eP : gP g = gP h := a2.2.2.1
      have zs : sz g = sz h := a2.2.2.2.1
      obtain ⟨tg', h', b1, b2, b3, b4, b5, b6⟩ := c_step (n := Nn m (320230 + 183 * k + 29)) (p := gP h (gP h r 5) q) (c := c) Kg (by omega) (by omega) a3 a4 IM (by rw [Nn.c (o 3 (by omega))]; exact hk) (by rw [eP]; exact hc) (Nn.c (o _ (by omega))).symm hj JJ (by rw [eP]) (by rw [o 0 (by omega)]; exact e0) hT (by rw [Nn.c (o 7 (by omega))]; exact e7) hi eo ho
      have m1 := rmP_fr (r := r) a2
      exact ⟨tg', h', by rw [a1, b1], (Rx.fr (W := fun y => y = x) K.1 a2 (fun b hb => ⟨hb.1, x, rfl, hb.2⟩)).trans b2, by omega, b4, b5, b6⟩
  · rw [if_neg (by rw [u3]; decide)]
    obtain ⟨m1, hm1⟩ : ∃ m1, m1 = if m (320230 + 183 * k + 37) = nI 1 then va_up m (320230 + 183 * k + 35) (m (130 + 645 * q + 4)) else m := ⟨_, rfl⟩
    rw [← hm1]
    obtain ⟨IM, JJ, o⟩ := jc_st I hk hj hq u3 hm1
    obtain ⟨eo, ho⟩ := jc_eo IM JJ
    have Vm : RmV h r m1 := by
      rw [hm1]
      by_cases z : m (320230 + 183 * k + 37) = nI 1
      · rw [if_pos z]; exact f2_rm V I hk z
      · rw [if_neg z]; exact V
    obtain ⟨tg', h', b1, b2, b3, b4, b5, b6⟩ := c_step (n := Nn m (320230 + 183 * k + 29)) (p := gP h (gP h r 5) q) (c := c) K hr h9 S Vm IM (by rw [Nn.c (o 3 (by omega))]; exact hk) hc (Nn.c (o _ (by omega))).symm hj JJ rfl (by rw [o 0 (by omega)]; exact e0) hT (by rw [Nn.c (o 7 (by omega))]; exact e7) hi eo ho
    refine ⟨tg', h', ?_, b2, b3, b4, b5, b6⟩
    rw [← b1]
    obtain ⟨p, hp, ep, p0, PS, PV⟩ := c_findPart_t S V I.1 vq
    rw [← hp]
    obtain ⟨c0, cV⟩ := V.2.2.2.2.2.2.2.2.1 k hk
    have cS := S.2.2.2.2.2.2.2.2.2.2.2.2.2.2.2.2.2.2.1 k c0
    rw [← hc] at c0 cV cS
    obtain ⟨j7, -, -, j9⟩ := cV.2.2.2.2.2.2.2 0 hj
    rw [show 320230 + 183 * k + 33 + 5 * 0 = 320230 + 183 * k + 33 by omega] at j7 j9
    rw [J33] at j7
    rw [← hq, u3, if_pos rfl] at j9
    obtain ⟨-, -, ⟨a7, a7k, a7l⟩, -, ⟨a9, a9k, a9l⟩, -, -, -⟩ := id cS
    have e11 : gI h p 11 = nI 1 := PV.2.2.2.2.2.1.trans u3
    obtain ⟨e4, l4⟩ := (I.2.1 q vq).2.2.2.2.2.1.eq (by omega)
    have j9' : ∃ y, y ≤ 40 ∧ gI h (gP h c 9) 0 = nI y := by
      rw [j9]
      split
      · exact ⟨_, l4, e4⟩
      · exact ⟨_, j40, J35⟩
    obtain ⟨y, hy, ey⟩ := j9'
    unfold MX7_work MX7_work_35
    simp only [ZL]
    rw [gg_t cS.1, gg_t a7k, a7l, gg_in (by omega) (by omega), gg_t S.1, nCl (by omega), j7, ep, ob_some, if_neg p0, gg_t PS.1, e11, if_neg (by decide), gg_t cS.1, gg_t a9k, a9l, gg_in (by omega) (by omega), ey, if_neg (by rw [nM6 (by omega)]; exact id)]
end
