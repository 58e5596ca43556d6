/-! a minute begins: the class -/
section
variable {tg : Nat → List Nat} {h h1 : Hp} {m M : Nat → Int32} {r x d e : Nat}
theorem hd_rm (K : Rt tg h r x) (S : RmS h r) (V : RmV h r m) (I : MI m) (n600 : Nn m 0 < 600) (hde : (d = Nn m 7 ∧ e = 0 ∧ Nn m 7 < 8) ∨ (d = 7 ∧ e = 1 ∧ Nn m 7 = 8)) (H : Hd m M d e) (F : Ft tg (hdT x) h h1) (vr : ∀ j, gI h1 r j = if j = 0 then nI (Nn m 0 + 1) else gI h r j) (v12 : ∀ j, gI h1 (gP h r 12) j = if Nn m 0 % 8 * 4 ≤ j ∧ j < Nn m 0 % 8 * 4 + 4 then -nI 1 else gI h (gP h r 12) j) (v13 : ∀ j, gI h1 (gP h r 13) j = if Nn m 0 % 8 * 4 ≤ j ∧ j < Nn m 0 % 8 * 4 + 4 then -nI 1 else gI h (gP h r 13) j) : RmS h1 r ∧ RmV h1 r M := by
  obtain ⟨H0, h0, h7, hr, hk, hs⟩ := H
  obtain ⟨B, Ip, Is, Im, Ih, Iy, Iz, Iq, Il⟩ := I
  obtain ⟨⟨g0, f0⟩, ⟨g1, f1⟩, ⟨g2, f2⟩, ⟨g3, f3⟩, ⟨g4, f4⟩, ⟨g5, f5⟩, ⟨g6, f6⟩, ⟨g7, f7⟩⟩ := B.f
  have eP : gP h1 = gP h := F.gp
  have Hb : ∀ x, x < 130 → x ≠ 0 → x ≠ 7 → M x = m x := fun x hx a b => H0 x a b (by omega)
  have Ho : ∀ x, 8 ≤ x → x < 337180 → M x = m x := fun x h1 h2 => H0 x (by omega) (by omega) (by omega)
  have n0 : Nn M 0 = Nn m 0 + 1 := by
    show (M 0).toNatClampNeg = _
    rw [h0, nCl (by omega)]
  have n7 : Nn M 7 = d + 1 := by unfold Nn; rw [h7, nCl (by omega)]
  constructor
  · refine S.of F ?_
    obtain ⟨n1, n2, n3, n4, n5⟩ := S.n
    unfold RmN
    rw [eP]
    refine ⟨?_, ?_, fun q' hq' => ?_, fun k' hk' => ?_, fun s' hz => ?_⟩
    · rw [(K.s1 (k := 4) F (by simp [hdT])).2.2.1]; exact n1
    · rw [(K.s2 (k := 14) (j := 8) F (by simp [hdT])).2.2.1, (K.s2 (k := 14) (j := 9) F (by simp [hdT])).2.2.1]; exact n2
    · rw [(K.s3 (k := 5) (j := q') (i := 1) F (by simp [hdT])).2.2.1, (K.s3 (k := 5) (j := q') (i := 2) F (by simp [hdT])).2.2.1, (K.s2 (k := 5) (j := q') F (by simp [hdT])).2.2.1]
      exact n3 q' hq'
    · rw [(K.s3 (k := 8) (j := k') (i := 10) F (by simp [hdT])).2.2.1, (K.s2 (k := 8) (j := k') F (by simp [hdT])).2.2.1]
      exact n4 k' hk'
    · rw [(K.s2 (k := 10) (j := s') F (by simp [hdT])).2.2.1]
      exact n5 s' hz
  · rw [rv_split] at V ⊢
    obtain ⟨⟨a1, a2, a3, a4, a5, a6, a7, dd⟩, VPs, VMs, VLs, VYs⟩ := V
    refine ⟨⟨?_, ?_, ?_, ?_, ?_, fun j hj => ?_, fun j hj => ?_, fun j hj k' hk' => ?_⟩, fun q' hq' => ?_, fun k' hk' => ?_, fun s' hs' => ?_, fun y hy => ?_⟩
    · rw [vr, if_pos rfl, h0]
    · rw [vr, if_neg (by omega), Hb 1 (by omega) (by omega) (by omega)]; exact a2
    · rw [vr, if_neg (by omega), Hb 2 (by omega) (by omega) (by omega)]; exact a3
    · rw [vr, if_neg (by omega), Hb 3 (by omega) (by omega) (by omega)]; exact a4
    · rw [vr, if_neg (by omega), Hb 4 (by omega) (by omega) (by omega)]; exact a5
    · rw [eP, (K.s1 (k := 1) F (by simp [hdT])).2.2.1, Hb (16 + j) (by omega) (by omega) (by omega)]; exact a6 j hj
    · rw [Nn.c (Hb 1 (by omega) (by omega) (by omega))] at hj
      rw [eP, (K.s1 (k := 6) F (by simp [hdT])).2.2.1, Hb (110 + j) (by omega) (by omega) (by omega)]; exact a7 j hj
    · rw [n7] at hj
      rw [eP, n0, n7, Nn.c (Hb 4 (by omega) (by omega) (by omega)), v12, v13]
      have lm : ∀ tt, lastS M (nI k') tt (Nn m 4) = lastS m (nI k') tt (Nn m 4) := fun tt => lastS.mc _ (fun s hs => ⟨Ho _ (by omega) (by omega), Ho _ (by omega) (by omega)⟩)
      rw [lm]
      by_cases z : j = d
      · subst z
        have ln : lastS m (nI k') (nI (Nn m 0 + 1 - (j + 1) + j + 1)) (Nn m 4) = -1 := lastS_n _ (fun s hs => by
          obtain ⟨-, -, -, -, y1, y2, -⟩ := Is s hs
          obtain ⟨y3, y4⟩ := y1.eq (by omega)
          rw [y3, Ne, nEq (by omega) (by omega)]
          omega)
        rw [if_pos (by omega), if_pos (by omega), hk k' hk', ln]
        exact ⟨rfl, rfl⟩
      · obtain ⟨w1, w2⟩ := dd (j + e) (by omega) k' hk'
        have e1 : (Nn m 0 + 1 - (d + 1) + j) % 8 = (Nn m 0 - Nn m 7 + (j + e)) % 8 := by omega
        have e2 : Nn m 0 + 1 - (d + 1) + j + 1 = Nn m 0 - Nn m 7 + (j + e) + 1 := by omega
        have hsx := hs j (by omega) (1 + k') (by omega)
        rw [← Nat.add_assoc, ← Nat.add_assoc] at hsx
        rw [if_neg (by omega), if_neg (by omega), e1, e2, hsx]
        exact ⟨w1, w2⟩
    · have hq : vP m q' := hq'.hd (fun x a b c => (Hb x a b c).symm)
      have hb := hq.1
      obtain ⟨p0, pV⟩ := VPs q' hq
      unfold VP
      rw [eP]
      refine ⟨p0, (pV.congr (K.s2 F (by simp [hdT])) (fun j => K.s3 F (by simp [hdT]))).mc (fun y hy => ?_) (Ip q' hq)⟩
      rcases hy with rfl | rfl | ⟨h1, h2⟩
      · exact Ho _ (by omega) (by omega)
      · exact Ho _ (by omega) (by omega)
      · exact Ho _ (by omega) (by omega)
    · rw [Nn.c (Hb 3 (by omega) (by omega) (by omega))] at hk'
      obtain ⟨p0, pV⟩ := VMs k' hk'
      obtain ⟨-, -, -, i3, ij⟩ := Im k' hk'
      unfold VM
      rw [eP]
      refine ⟨p0, (pV.congr (K.s2 F (by simp [hdT])) (fun j => K.s3 F (by simp [hdT]))).mc (fun y hy => ?_) i3⟩
      rcases hy with ⟨h1, h2⟩ | ⟨j, hj, hy⟩
      · exact Ho _ (by omega) (by omega)
      · have hb := (ij j hj).2.1.1
        rcases hy with rfl | rfl <;> exact Ho _ (by omega) (by omega)
    · rw [Nn.c (Hb 4 (by omega) (by omega) (by omega))] at hs'
      obtain ⟨p0, pV⟩ := VLs s' hs'
      have hi := Is s' hs'
      have hb := hi.2.1.1
      unfold VL
      rw [eP]
      refine ⟨p0, (pV.congr (K.s2 F (by simp [hdT])) (fun j => K.s3 F (by simp [hdT]))).mc (fun y hy => ?_) hi.2.2.2.2.2.2.2.2.2.2.2.1⟩
      rcases hy with ⟨h1, h2⟩ | rfl
      · exact Ho _ (by omega) (by omega)
      · exact Ho _ (by omega) (by omega)
    · rw [Nn.c (Hb 2 (by omega) (by omega) (by omega))] at hy
      obtain ⟨p0, pV⟩ := VYs y hy
      unfold VY
      rw [eP]
      exact ⟨p0, (pV.congr (K.s2 F (by simp [hdT])) (fun j => K.s3 F (by simp [hdT]))).mc (fun z hz => Ho _ (by omega) (by omega)) (Iy y hy).2.1⟩
theorem c_head (K : Rt tg h r x) (S : RmS h r) (V : RmV h r m) (I : MI m) (n600 : Nn m 0 < 600) (hde : (d = Nn m 7 ∧ e = 0 ∧ Nn m 7 < 8) ∨ (d = 7 ∧ e = 1 ∧ Nn m 7 = 8)) (H : Hd m M d e) : ∃ g, MX7_passMinute h r = MX7_passMinute_55 g r (nI 0) ∧ Ft tg (hdT x) h g ∧ RmS g r ∧ RmV g r M ∧ MI M := by
  obtain ⟨n12, k12, l12⟩ := S.2.2.2.2.2.2.2.1
  obtain ⟨n13, k13, l13⟩ := S.2.2.2.2.2.2.2.2.1
  obtain ⟨g0', f0⟩ := I.1.f.1
  have t12 := K.a n12
  have t13 := K.a n13
  have tr := K.2.2.1
  have nT : ∀ {a b : Nat}, tg a ≠ tg b → Nq a b := fun hn e => hn (by rw [e])
  have nr2 : Nq r (gP h r 12) := nT (by rw [tr, t12]; simp)
  have nr3 : Nq r (gP h r 13) := nT (by rw [tr, t13]; simp)
  have n23 : Nq (gP h r 12) (gP h r 13) := nT (by rw [t12, t13]; simp)
  obtain ⟨g0, hg0⟩ : ∃ g0, g0 = sI h r 0 (nI (Nn m 0 + 1)) := ⟨_, rfl⟩
  have F0 : Ft tg (hdT x) h g0 := by rw [hg0]; exact Ft.sI K.2.2.2.2 (Or.inl tr)
  have r0 : gI h r 0 = nI (Nn m 0) := V.1.trans g0'
  obtain ⟨W, hW⟩ : ∃ W, W = Nn m 0 % 8 * 4 := ⟨_, rfl⟩
  have hW28 : W ≤ 28 := by omega
  have loop : ∃ g, MX7_passMinute_24 g0 r (nI W) (nI 0) = MX7_passMinute_53 g r ∧ Ft tg (hdT x) h g ∧ gI g r = gI g0 r ∧ (∀ j, gI g (gP h r 12) j = if W ≤ j ∧ j < W + 4 then -nI 1 else gI h (gP h r 12) j) ∧ ∀ j, gI g (gP h r 13) j = if W ≤ j ∧ j < W + 4 then -nI 1 else gI h (gP h r 13) j := by
    have go : ∀ dd j, j + dd = 4 → ∀ z, Ft tg (hdT x) h z → gI z r = gI g0 r → (∀ i, gI z (gP h r 12) i = if W ≤ i ∧ i < W + j then -nI 1 else gI h (gP h r 12) i) → (∀ i, gI z (gP h r 13) i = if W ≤ i ∧ i < W + j then -nI 1 else gI h (gP h r 13) i) → ∃ g, it (fun q : Int32 × Hp => BX7_passMinute_24 q.2 r (nI W) q.1) (nI j, z) = MX7_passMinute_53 g r ∧ Ft tg (hdT x) h g ∧ gI g r = gI g0 r ∧ (∀ i, gI g (gP h r 12) i = if W ≤ i ∧ i < W + 4 then -nI 1 else gI h (gP h r 12) i) ∧ ∀ i, gI g (gP h r 13) i = if W ≤ i ∧ i < W + 4 then -nI 1 else gI h (gP h r 13) i := by
      intro dd
      induction dd with
      | zero =>
        intro j hj z Fz rz z12 z13
        have hj : j = 4 := hj
        subst hj
        refine ⟨z, ?_, Fz, rz, z12, z13⟩
        have e0 : BX7_passMinute_24 z r (nI W) (nI 4) = up1 (MX7_passMinute_53 z r) := by
          unfold BX7_passMinute_24
          simp only [ZL]
          rw [if_pos (by decide)]
        rw [it_eq]
        show (match BX7_passMinute_24 z r (nI W) (nI 4) with | _ => _) = _
        rw [e0]
        cases MX7_passMinute_53 z r <;> rfl
      | succ dd ih =>
        intro j hj z Fz rz z12 z13
        obtain ⟨z1, hz1⟩ : ∃ z1, z1 = sI z (gP h r 12) (W + j) (-nI 1) := ⟨_, rfl⟩
        obtain ⟨z2, hz2⟩ : ∃ z2, z2 = sI z1 (gP h r 13) (W + j) (-nI 1) := ⟨_, rfl⟩
        have F2 : Ft tg (hdT x) h z2 := by rw [hz2, hz1]; exact (Fz.trans (Ft.sI n12 (Or.inr (Or.inl t12)))).trans (Ft.sI n13 (Or.inr (Or.inr t13)))
        obtain ⟨g, y1, y2⟩ := ih (j + 1) (by omega) z2 F2 (by rw [hz2, gI_sI, if_neg nr3.n, hz1, gI_sI, if_neg nr2.n, rz]) (fun i => by
          rw [hz2, gI_sI, if_neg n23.n, hz1, gI_sI, if_pos rfl, up_at, z12]
          by_cases w : i = W + j
          · rw [if_pos w, if_pos (by omega)]
          · rw [if_neg w]
            by_cases v : W ≤ i ∧ i < W + j
            · rw [if_pos v, if_pos (by omega)]
            · rw [if_neg v, if_neg (by omega)]) (fun i => by
          rw [hz2, gI_sI, if_pos rfl, up_at, hz1, gI_sI, if_neg n23.symm.n, z13]
          by_cases w : i = W + j
          · rw [if_pos w, if_pos (by omega)]
          · rw [if_neg w]
            by_cases v : W ≤ i ∧ i < W + j
            · rw [if_pos v, if_pos (by omega)]
            · rw [if_neg v, if_neg (by omega)])
        refine ⟨g, ?_, y2⟩
        rw [← y1]
        refine it_next ?_
        show BX7_passMinute_24 z r (nI W) (nI j) = _
        unfold BX7_passMinute_24
        simp only [ZL, nAdd]
        rw [Fz.ek, Fz.el, Fz.gp, if_neg (nI_ge (by omega) (by omega)), gg_t S.1, gg_t k12, l12, gg_in (by omega) (by omega), nCl (by omega), lt_eq, ← hz1, gg_t k13, l13, gg_in (by omega) (by omega), lt_eq, ← hz2]
    have ng2 : gI g0 (gP h r 12) = gI h (gP h r 12) := by rw [hg0, gI_sI, if_neg nr2.symm.n]
    have ng3 : gI g0 (gP h r 13) = gI h (gP h r 13) := by rw [hg0, gI_sI, if_neg nr3.symm.n]
    exact go 4 0 rfl g0 F0 rfl (fun i => by rw [ng2, if_neg (by omega)]) (fun i => by rw [ng3, if_neg (by omega)])
  obtain ⟨g, y1, y2, y3, y4, y5⟩ := loop
  have RM := hd_rm K S V I n600 hde H y2 (fun j => by rw [y3, hg0, gI_sI, if_pos rfl, up_at]) (by rw [← hW]; exact y4) (by rw [← hW]; exact y5)
  refine ⟨g, ?_, y2, RM.1, RM.2, hd_mi I n600 hde H⟩
  have g00 : gI g0 r 0 = nI (Nn m 0 + 1) := by rw [hg0, gIl]
  unfold MX7_passMinute
  simp only [ZL]
  rw [gg_t S.1, r0, nAdd, lt_eq, ← hg0, g00, nSub (by omega), Nat.add_sub_cancel, nDiv (by omega) (by omega) (by omega), nMul, nSub (by omega), nMul, lt_eq, show (Nn m 0 - Nn m 0 / 8 * 8) * 4 = W by omega, y1]
  unfold MX7_passMinute_53
  rfl
end
