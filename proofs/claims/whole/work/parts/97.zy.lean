/-! a line is cast: the class's cells behind it -/
def csT (x s q k : Nat) (y : List Nat) : Prop := y = [x] ∨ y = [s, 10, x] ∨ y = [4, q, 5, x] ∨ y = [12, x] ∨ y = [13, x] ∨ y = [k, 8, x]
section
variable {tg : Nat → List Nat} {h h1 : Hp} {m M : Nat → Int32} {r x k q l s i p : Nat} {fr : Int32} {w : List Nat}
theorem PtV.pl (S : PtV h p m q) (I : MIp m q) (eP : gP h1 = gP h) (e0 : gI h1 p = gI h p) (e1 : ∀ k, k < 4 → gI h1 (gP h p k) = gI h (gP h p k)) (H7 : M (70 + q / 5) = m (70 + q / 5)) (H9 : M (90 + q / 5) = m (90 + q / 5)) (e : ∀ x, x < 645 → ¬ (45 ≤ x ∧ x < 85) → M (130 + 645 * q + x) = m (130 + 645 * q + x)) (hp : m (130 + 645 * q + 3) = nI 1 → ∀ l, l < Nn m (130 + 645 * q + 4) → gI h1 (gP h p 4) l = M (130 + 645 * q + 45 + l) - nI 1) : PtV h1 p M q := by
  obtain ⟨b1, b2, b3, b4, b5, b6, b7, b8, b9⟩ := S
  obtain ⟨-, o1b⟩ := I.2.1.eq (by omega)
  obtain ⟨-, o4b⟩ := I.2.2.2.2.2.1.eq (by omega)
  have e00 : M (130 + 645 * q) = m (130 + 645 * q) := e 0 (by omega) (by omega)
  unfold PtV
  rw [eP, e0, e1 0 (by omega), e1 1 (by omega), e1 2 (by omega), e1 3 (by omega), e 1 (by omega) (by omega), e00, H7, H9, e 2 (by omega) (by omega), e 3 (by omega) (by omega), e 4 (by omega) (by omega), Nn.c (e 1 (by omega) (by omega)), Nn.c (e 4 (by omega) (by omega))]
  refine ⟨b1, b2, b3, b4, b5, b6, fun b hb => ?_, b8, fun hz l hl => ⟨?_, hp hz l hl⟩⟩
  · obtain ⟨d1, d2, d3⟩ := b7 b hb
    have ol := ((I.2.2.2.2.2.2.1 b hb).2.1.eq (by omega)).2
    have ew : ∀ b, b < 41 → M (130 + 645 * q + 85 + b) = m (130 + 645 * q + 85 + b) := fun b hb => by
      have := e (85 + b) (by omega) (by omega)
      rwa [← Nat.add_assoc] at this
    have el : M (130 + 645 * q + 125 + b) = m (130 + 645 * q + 125 + b) := by
      have := e (125 + b) (by omega) (by omega)
      rwa [← Nat.add_assoc] at this
    rw [ew b (by omega), ew (b + 1) (by omega), el, Nn.c el]
    refine ⟨d1, d2, fun i hi => ?_⟩
    have := e (165 + 12 * b + i) (by omega) (by omega)
    rw [← Nat.add_assoc, ← Nat.add_assoc] at this
    rw [this]
    exact d3 i hi
  · have := e (5 + l) (by omega) (by omega)
    rw [← Nat.add_assoc] at this
    rw [this]
    exact (b9 hz l hl).1
/-- what a new slug's cells say -/
def SlX (h h1 : Hp) (m : Nat → Int32) (d k q l : Nat) (fr : Int32) (w : List Nat) : Prop := gI h1 d 5 = nI q ∧ gI h1 d 8 = nI k ∧ gI h1 d 9 = m 0 ∧ gI h1 d 3 = nI (ltL w w.length) ∧ gI h1 d 10 = nI 0 ∧ gI h1 d 11 = nI l ∧ gI h1 d 12 = nI q ∧ gI h1 d 14 = fr ∧ gI h1 d 7 = nI l ∧ gI h1 d 2 = nI w.length ∧ gI h1 d 13 = nI 0 ∧ gI h1 d 6 = m (70 + q / 5) ∧ w.length ≤ ln h (gP h d 0) ∧ (∀ j, j < w.length → gI h (gP h d 0) j = nI (w.getD j 0) ∧ gI h (gP h d 1) j = nI (w.getD j 0)) ∧ gI h1 d 4 = nI 0
theorem wrN_0 {g : Nat} : ∀ n, (∀ j, j < n → M (g + 12 + j) = M (g + 432 + j)) → wrN M g n = 0
  | 0, _ => rfl
  | n + 1, H => by
    unfold wrN
    rw [wrN_0 n (fun j hj => H j (by omega)), if_pos (H n (by omega))]
theorem cs_rm (K : Rt tg h r x) (S : RmS h r) (V : RmV h r m) (I : MI m) (es0 : s = Nn m 4) (hs : s < 300) (hk : k < Nn m 3) (vq : vP m q) (es : m (130 + 645 * q + 3) = nI 1) (hl : l < Nn m (130 + 645 * q + 4)) (n0 : 1 ≤ Nn m 0) (e7 : Nn m 7 = i + 1) (hw : w.length ≤ 401) (H : Cs m M s k q l i fr w) (F : Ft tg (csT x s q k) h h1)
    (vr : ∀ j, gI h1 r j = if j = 11 then nI (s + 1) else gI h r j) (d0 : gP h (gP h r 10) s ≠ 0) (dS : SlS h (gP h (gP h r 10) s)) (dX : SlX h h1 m (gP h (gP h r 10) s) k q l fr w) (zfr : zO fr)
    (vA : ∀ j, gI h1 (gP h (gP h (gP h r 5) q) 4) j = if j = l then nI s else gI h (gP h (gP h (gP h r 5) q) 4) j)
    (v12 : ∀ j, gI h1 (gP h r 12) j = if j = (Nn m 0 - 1) % 8 * 4 + k then nI s else gI h (gP h r 12) j) (v13 : ∀ j, gI h1 (gP h r 13) j = if j = (Nn m 0 - 1) % 8 * 4 + k then nI s else gI h (gP h r 13) j)
    (vc : ∀ j, gI h1 (gP h (gP h r 8) k) j = if j = 4 then gI h (gP h (gP h r 8) k) 4 + nI 1 else gI h (gP h (gP h r 8) k) j) : RmS h1 r ∧ RmV h1 r M := by
  obtain ⟨H0, ⟨c0, c1, c2, c3, c4, c5, c6, c7, c8, c9, c10, c11⟩, ct, e4, e30, er, ep⟩ := H
  obtain ⟨x5, x8, x9, x3, x10, x11, x12, x14, x7, x2, x13, x6, xl, xt, x4⟩ := dX
  obtain ⟨B, Ip, Is, Im, Ih, Iy, Iz, Iq, Il⟩ := I
  obtain ⟨⟨g0, f0⟩, ⟨g1, f1⟩, ⟨g2, f2⟩, ⟨g3, f3⟩, ⟨g4, f4⟩, ⟨g5, f5⟩, ⟨g6, f6⟩, ⟨g7, f7⟩⟩ := B.f
  have vb := vq.1
  obtain ⟨-, l4⟩ := (Ip q vq).2.2.2.2.2.1.eq (by omega)
  have eP : gP h1 = gP h := F.gp
  have Hb : ∀ x, x < 130 → x ≠ 4 → M x = m x := fun x hx h4 => H0 x (by omega) h4 (by omega) (by omega) (by omega)
  have n4 : Nn M 4 = s + 1 := by unfold Nn; rw [e4, nCl (by omega)]
  have Hp : ∀ x, 130 ≤ x → x < 64630 → x ≠ 130 + 645 * q + 45 + l → M x = m x := fun x h1 h2 h3 => H0 x (by omega) (by omega) (by omega) (by omega) h3
  have He : ∀ x, 320962 ≤ x → x < 337180 → M x = m x := fun x h1 h2 => H0 x (by omega) (by omega) (by omega) (by omega) (by omega)
  have Hs : ∀ s', s' < s → ∀ x, x < 852 → M (64630 + 852 * s' + x) = m (64630 + 852 * s' + x) := fun s' h1 x hx => H0 _ (by omega) (by omega) (by omega) (by omega) (by omega)
  constructor
  · refine S.of F ?_
    obtain ⟨n1, n2, n3, n4, n5⟩ := S.n
    unfold RmN
    rw [eP]
    refine ⟨?_, ?_, fun q' hq' => ?_, fun k' hk' => ?_, fun s' hz => ?_⟩
    · rw [(K.s1 (k := 4) F (by simp [csT])).2.2.1]; exact n1
    · rw [(K.s2 (k := 14) (j := 8) F (by simp [csT])).2.2.1, (K.s2 (k := 14) (j := 9) F (by simp [csT])).2.2.1]; exact n2
    · rw [(K.s3 (k := 5) (j := q') (i := 1) F (by simp [csT])).2.2.1, (K.s3 (k := 5) (j := q') (i := 2) F (by simp [csT])).2.2.1, (K.s2 (k := 5) (j := q') F (by simp [csT])).2.2.1]
      exact n3 q' hq'
    · rw [(K.s3 (k := 8) (j := k') (i := 10) F (by simp [csT])).2.2.1]
      by_cases z : k' = k
      · subst z
        rw [vc 2, if_neg (by omega)]
        exact n4 k' hk'
      · rw [(K.s2 (k := 8) (j := k') F (by simp [csT, z])).2.2.1]
        exact n4 k' hk'
    · by_cases z : s' = s
      · subst z
        rw [x14]; exact zfr
      · rw [(K.s2 (k := 10) (j := s') F (by simp [csT, z])).2.2.1]
        exact n5 s' hz
  · rw [rv_split] at V ⊢
    obtain ⟨⟨a1, a2, a3, a4, a5, a6, a7, d⟩, VPs, VMs, VLs, VYs⟩ := V
    refine ⟨⟨?_, ?_, ?_, ?_, ?_, fun j hj => ?_, fun j hj => ?_, fun j hj k' hk' => ?_⟩, fun q' hq' => ?_, fun k' hk' => ?_, fun s' hs' => ?_, fun y hy => ?_⟩
    · rw [vr, if_neg (by omega), Hb 0 (by omega) (by omega)]; exact a1
    · rw [vr, if_neg (by omega), Hb 1 (by omega) (by omega)]; exact a2
    · rw [vr, if_neg (by omega), Hb 2 (by omega) (by omega)]; exact a3
    · rw [vr, if_neg (by omega), Hb 3 (by omega) (by omega)]; exact a4
    · rw [vr, if_pos rfl, e4]
    · rw [eP, (K.s1 (k := 1) F (by simp [csT])).2.2.1, Hb (16 + j) (by omega) (by omega)]; exact a6 j hj
    · rw [Nn.c (Hb 1 (by omega) (by omega))] at hj
      rw [eP, (K.s1 (k := 6) F (by simp [csT])).2.2.1, Hb (110 + j) (by omega) (by omega)]; exact a7 j hj
    · rw [Nn.c (Hb 7 (by omega) (by omega))] at hj
      rw [eP, Nn.c (Hb 7 (by omega) (by omega)), Nn.c (Hb 0 (by omega) (by omega)), n4, v12, v13]
      obtain ⟨w1, w2⟩ := d j hj k' hk'
      have lm : lastS M (nI k') (nI (Nn m 0 - Nn m 7 + j + 1)) s = lastS m (nI k') (nI (Nn m 0 - Nn m 7 + j + 1)) s := lastS.mc s (fun s' hs' => ⟨Hs s' hs' 1 (by omega), Hs s' hs' 2 (by omega)⟩)
      have ls : lastS M (nI k') (nI (Nn m 0 - Nn m 7 + j + 1)) (s + 1) = if nI k = nI k' ∧ nI (Nn m 0) = nI (Nn m 0 - Nn m 7 + j + 1) then nI s else lastS M (nI k') (nI (Nn m 0 - Nn m 7 + j + 1)) s := by
        show (if M (64630 + 852 * s + 1) = nI k' ∧ M (64630 + 852 * s + 2) = nI (Nn m 0 - Nn m 7 + j + 1) then nI s else _) = _
        rw [c1, c2, g0]
      rw [ls]
      by_cases z : j = i ∧ k' = k
      · obtain ⟨z1, z2⟩ := z
        subst z1 z2
        rw [if_pos (by omega), if_pos (by omega), if_pos ⟨rfl, congrArg nI (by omega)⟩]
        exact ⟨er.symm, rfl⟩
      · have nc : ¬ (nI k = nI k' ∧ nI (Nn m 0) = nI (Nn m 0 - Nn m 7 + j + 1)) := fun hc => by
          obtain ⟨y1, y2⟩ := hc
          rw [nEq (by omega) (by omega)] at y1 y2
          exact z ⟨by omega, by omega⟩
        rw [if_neg (by omega), if_neg (by omega), if_neg nc, lm, H0 _ (by omega) (by omega) (by omega) (by omega) (by omega), es0]
        exact ⟨w1, w2⟩
    · have hq : vP m q' := hq'.c (Hb 1 (by omega) (by omega)).symm (fun _ => (Hb _ (by have := hq'.1; omega) (by omega)).symm)
      have hb := hq.1
      obtain ⟨p0, pV⟩ := VPs q' hq
      unfold VP
      rw [eP]
      refine ⟨p0, pV.pl (Ip q' hq) eP (K.s2 (k := 5) (j := q') F (by simp [csT])).2.2.1 (fun j hj => (K.s3 (k := 5) (j := q') (i := j) F (by simp [csT]; omega)).2.2.1) (Hb _ (by omega) (by omega)) (Hb _ (by omega) (by omega)) (fun x h1 h2 => Hp _ (by omega) (by omega) (by omega)) (fun hz l' hl' => ?_)⟩
      have o := (pV.2.2.2.2.2.2.2.2 hz l' hl').2
      have b4' := ((Ip q' hq).2.2.2.2.2.1.eq (by omega)).2
      by_cases z : q' = q
      · subst z
        rw [vA]
        by_cases z2 : l' = l
        · subst z2
          rw [if_pos rfl, ep, nSub (by omega), Nat.add_sub_cancel]
        · rw [if_neg z2, Hp _ (by omega) (by omega) (by omega)]
          exact o
      · rw [(K.s3 (k := 5) (j := q') (i := 4) F (by simp [csT, z])).2.2.1, Hp _ (by omega) (by omega) (by omega)]
        exact o
    · rw [Nn.c (Hb 3 (by omega) (by omega))] at hk'
      obtain ⟨p0, pV⟩ := VMs k' hk'
      obtain ⟨-, -, -, i3, ij⟩ := Im k' hk'
      obtain ⟨-, i30⟩ := i3.eq (by omega)
      unfold VM
      rw [eP]
      refine ⟨p0, ?_⟩
      by_cases z : k' = k
      · subst z
        have hM : MaV h (gP h (gP h r 8) k') (va_up M (320230 + 183 * k' + 30) (m (320230 + 183 * k' + 30))) k' := pV.mc (fun y hy => by
          rw [up_at]
          by_cases w : y = 320230 + 183 * k' + 30
          · rw [if_pos w, w]
          · rw [if_neg w]
            rcases hy with ⟨h1, h2⟩ | ⟨j, hj, hy⟩
            · exact H0 _ (by omega) (by omega) w (by omega) (by omega)
            · have hb := (ij j hj).2.1.1
              rcases hy with rfl | rfl <;> exact Hp _ (by omega) (by omega) (by omega)) i3
        obtain ⟨q0, q1, q2, q3, q4, q5, q6, qj⟩ := hM
        have u : ∀ y, y ≠ 320230 + 183 * k' + 30 → va_up M (320230 + 183 * k' + 30) (m (320230 + 183 * k' + 30)) y = M y := fun y hy => by rw [up_at, if_neg hy]
        have u30 : va_up M (320230 + 183 * k' + 30) (m (320230 + 183 * k' + 30)) (320230 + 183 * k' + 30) = m (320230 + 183 * k' + 30) := by rw [up_at, if_pos rfl]
        have un : ∀ y, y ≠ 320230 + 183 * k' + 30 → Nn (va_up M (320230 + 183 * k' + 30) (m (320230 + 183 * k' + 30))) y = Nn M y := fun y hy => Nn.c (u y hy)
        have c7 := (K.s3 (k := 8) (j := k') (i := 7) F (by simp [csT])).2.2.1
        have c8 := (K.s3 (k := 8) (j := k') (i := 8) F (by simp [csT])).2.2.1
        have c9 := (K.s3 (k := 8) (j := k') (i := 9) F (by simp [csT])).2.2.1
        have ca := (K.s3 (k := 8) (j := k') (i := 10) F (by simp [csT])).2.2.1
        have cz := (K.s3 (k := 8) (j := k') (i := 0) F (by simp [csT])).2.2.1
        have e29 : Nn M (320230 + 183 * k' + 29) = Nn m (320230 + 183 * k' + 29) := Nn.c (H0 _ (by omega) (by omega) (by omega) (by omega) (by omega))
        rw [un _ (by omega), e29] at qj
        unfold MaV
        rw [eP, cz, c7, c8, c9, ca, vc 1, vc 2, vc 3, vc 4, vc 5, vc 6, if_neg (by omega), if_neg (by omega), if_neg (by omega), if_pos rfl, if_neg (by omega), if_neg (by omega), e29, e30]
        rw [u _ (by omega)] at q1 q2 q3 q5 q6
        rw [u30] at q4
        refine ⟨fun j hj => ?_, q1, q2, q3, by rw [q4], q5, q6, fun j hj => ?_⟩
        · have := q0 j hj
          rwa [u _ (by omega)] at this
        · have := qj j hj
          have b100 := (ij j hj).2.1.1
          have e33 : Nn M (320230 + 183 * k' + 33 + 5 * j) = Nn m (320230 + 183 * k' + 33 + 5 * j) := Nn.c (H0 _ (by omega) (by omega) (by omega) (by omega) (by omega))
          rw [u _ (by omega), u _ (by omega), u _ (by omega), u _ (by omega), u _ (by omega), un _ (by omega), u _ (by omega), u _ (by omega)] at this
          exact this
      · exact (pV.congr (K.s2 F (by simp [csT, z])) (fun j => K.s3 F (by simp [csT]))).mc (fun y hy => by
          rcases hy with ⟨h1, h2⟩ | ⟨j, hj, hy⟩
          · exact H0 _ (by omega) (by omega) (by omega) (by omega) (by omega)
          · have hb := (ij j hj).2.1.1
            rcases hy with rfl | rfl <;> exact Hp _ (by omega) (by omega) (by omega)) i3
    · rw [n4] at hs'
      unfold VL
      rw [eP]
      by_cases z : s' = s
      · subst z
        have t0 := (K.s3 (k := 10) (j := s') (i := 0) F (by simp [csT])).2.2.1
        have t1 := (K.s3 (k := 10) (j := s') (i := 1) F (by simp [csT])).2.2.1
        have n9 : Nn M (64630 + 852 * s' + 9) = w.length := by unfold Nn; rw [c9, nCl (by omega)]
        have nq : Nn M (64630 + 852 * s') = q := by unfold Nn; rw [c0, nCl (by omega)]
        refine ⟨d0, ?_⟩
        unfold SlV
        rw [eP, F.el, t0, t1, n9, nq, c0, c1, c2, c3, c4, c5, c6, c7, c8, c9, c10, c11, Hb (70 + q / 5) (by omega) (by omega), wrN_0 _ (fun j hj => by rw [(ct j hj).1, (ct j hj).2])]
        refine ⟨x5, x8, x9, x3, x10, x11, x12, x14, x7, x2, by rw [x13]; decide, x6, xl, fun j hj => ?_, x4⟩
        rw [(ct j hj).1, (ct j hj).2]
        exact xt j hj
      · have hs2 : s' < s := by omega
        obtain ⟨p0, pV⟩ := VLs s' (by omega)
        have hi := Is s' (by omega)
        have hb := hi.2.1.1
        refine ⟨p0, (pV.congr (K.s2 F (by simp [csT, z])) (fun j => K.s3 F (by simp [csT]))).mc (fun y hy => ?_) hi.2.2.2.2.2.2.2.2.2.2.2.1⟩
        rcases hy with ⟨h1, h2⟩ | rfl
        · exact H0 _ (by omega) (by omega) (by omega) (by omega) (by omega)
        · exact Hb _ (by omega) (by omega)
    · rw [Nn.c (Hb 2 (by omega) (by omega))] at hy
      obtain ⟨p0, pV⟩ := VYs y hy
      unfold VY
      rw [eP]
      exact ⟨p0, (pV.congr (K.s2 F (by simp [csT])) (fun j => K.s3 F (by simp [csT]))).mc (fun z hz => He _ (by omega) (by omega)) (Iy y hy).2.1⟩
end
