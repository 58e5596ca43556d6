/-! a part is set: the class's cells -/
def seT (x q k : Nat) (y : List Nat) : Prop := y = [q, 5, x] ∨ y = [3, q, 5, x] ∨ y = [4, q, 5, x] ∨ y = [9, k, 8, x]
section
variable {tg : Nat → List Nat} {h h1 : Hp} {m M : Nat → Int32} {r x k q n p : Nat} {c : Nat → Nat}
theorem se_j (I : MI m) (vq : vP m q) (u3 : m (130 + 645 * q + 3) = nI 0) (hk : k < Nn m 3) (hj : 1 ≤ Nn m (320230 + 183 * k + 29)) (J0 : m (320230 + 183 * k + 33) = nI q) : m (320230 + 183 * k + 37) = nI 1 ∧ m (130 + 645 * q + 2) = nI 1 ∧ m (320230 + 183 * k + 34) = nI 0 ∧ ∀ k', k' < Nn m 3 → ∀ j', j' < Nn m (320230 + 183 * k' + 29) → Nn m (320230 + 183 * k' + 33 + 5 * j') = q → k' = k ∧ j' = 0 := by
  obtain ⟨B, Ip, Is, Im, Ih, Iy, Iz, Iq, Il⟩ := I
  have vb := vq.1
  obtain ⟨b1, b2, b3, b4, b5, b6, b7, b8⟩ := (Im k hk).2.2.2.2 0 hj
  rw [show 320230 + 183 * k + 33 + 5 * 0 = 320230 + 183 * k + 33 by omega] at b1 b2 b3 b4 b5 b6 b7 b8
  have nq : Nn m (320230 + 183 * k + 33) = q := by unfold Nn; rw [J0, nCl (by omega)]
  rw [nq] at b2 b7 b8
  have n01 : nI 0 ≠ nI 1 := by decide
  have fl : ∀ x, oN m x 1 → m x ≠ nI 0 → m x = nI 1 := fun x ⟨y, hy, e⟩ hn => by
    rcases (show y = 0 ∨ y = 1 by omega) with z | z
    · exact absurd (by rw [e, z]) hn
    · rw [e, z]
  have fk : m (320230 + 183 * k + 33 + 4) = nI 1 := fl _ b6 (fun z => n01 (by rw [← u3]; exact (b7 z).1))
  obtain ⟨d2, d3, d4, duni⟩ := b8 fk
  refine ⟨fk, d2, d3 u3, fun k' hk' j' hj' e => ?_⟩
  obtain ⟨y1, y2, y3, y4, y5, y6, y7, y8⟩ := (Im k' hk').2.2.2.2 j' hj'
  rw [e] at y7
  refine duni k' hk' j' hj' (fl _ y6 (fun z => n01 (by rw [← u3]; exact (y7 z).1))) ?_
  rw [(y1.eq (by omega)).1, e, J0]
theorem se_rm (K : Rt tg h r x) (S : RmS h r) (V : RmV h r m) (I : MI m) (vq : vP m q) (u3 : m (130 + 645 * q + 3) = nI 0) (hk : k < Nn m 3) (hj : 1 ≤ Nn m (320230 + 183 * k + 29)) (J0 : m (320230 + 183 * k + 33) = nI q) (hn : n ≤ 40) (H : Se m M q n k c) (F : Ft tg (seT x q k) h h1) (vp : ∀ y, gI h1 (gP h (gP h r 5) q) y = if y = 11 then nI 1 else if y = 9 then nI n else gI h (gP h (gP h r 5) q) y) (v3 : ∀ j, j < n → gI h1 (gP h (gP h (gP h r 5) q) 3) j = nI (c (j + 1) - 1)) (v4 : ∀ j, j < n → gI h1 (gP h (gP h (gP h r 5) q) 4) j = -nI 1) (v9 : ∀ y, gI h1 (gP h (gP h (gP h r 8) k) 9) y = if y = 0 then nI n else gI h (gP h (gP h (gP h r 8) k) 9) y) : RmS h1 r ∧ RmV h1 r M := by
  obtain ⟨fk, d2, d3, jq⟩ := se_j I vq u3 hk hj J0
  obtain ⟨H0, H3, H4, Hl, Hj⟩ := H
  obtain ⟨B, Ip, Is, Im, Ih, Iy, Iz, Iq, Il⟩ := I
  obtain ⟨⟨g0, f0⟩, ⟨g1, f1⟩, ⟨g2, f2⟩, ⟨g3, f3⟩, ⟨g4, f4⟩, -⟩ := B.f
  have vb := vq.1
  have eP : gP h1 = gP h := F.gp
  have nq : Nn m (320230 + 183 * k + 33) = q := by unfold Nn; rw [J0, nCl (by omega)]
  have Hb : ∀ x, x < 130 → M x = m x := fun x hx => H0 x (by omega) (by omega)
  have Ho : ∀ x, (x < 130 + 645 * q + 3 ∨ 130 + 645 * q + 85 ≤ x) → x ≠ 320230 + 183 * k + 35 → M x = m x := fun x h1 h2 => H0 x (by omega) h2
  have Np : ∀ q', q' < 100 → q' ≠ q → ∀ x, x < 645 → M (130 + 645 * q' + x) = m (130 + 645 * q' + x) := fun q' h0 h1 x hx => Ho _ (by omega) (by omega)
  constructor
  · refine S.of F ?_
    obtain ⟨n1, n2, n3, n4, n5⟩ := S.n
    unfold RmN
    rw [eP]
    refine ⟨?_, ?_, fun q' hq' => ?_, fun k' hk' => ?_, fun s' hz => ?_⟩
    · rw [(K.s1 (k := 4) F (by simp [seT])).2.2.1]; exact n1
    · rw [(K.s2 (k := 14) (j := 8) F (by simp [seT])).2.2.1, (K.s2 (k := 14) (j := 9) F (by simp [seT])).2.2.1]; exact n2
    · rw [(K.s3 (k := 5) (j := q') (i := 1) F (by simp [seT])).2.2.1, (K.s3 (k := 5) (j := q') (i := 2) F (by simp [seT])).2.2.1]
      by_cases z : q' = q
      · subst z
        rw [vp 10, vp 11, if_neg (by omega), if_neg (by omega), if_pos rfl]
        exact ⟨(n3 q' hq').1, (n3 q' hq').2.1, Or.inr rfl, (n3 q' hq').2.2.2⟩
      · rw [(K.s2 (k := 5) (j := q') F (by simp [seT, z])).2.2.1]
        exact n3 q' hq'
    · rw [(K.s3 (k := 8) (j := k') (i := 10) F (by simp [seT])).2.2.1, (K.s2 (k := 8) (j := k') F (by simp [seT])).2.2.1]
      exact n4 k' hk'
    · rw [(K.s2 (k := 10) (j := s') F (by simp [seT])).2.2.1]
      exact n5 s' hz
  · rw [rv_split] at V ⊢
    obtain ⟨⟨a1, a2, a3, a4, a5, a6, a7, d⟩, VPs, VMs, VLs, VYs⟩ := V
    have g0' := (K.s0 F (by simp [seT])).2.2.1
    refine ⟨⟨?_, ?_, ?_, ?_, ?_, fun j hj => ?_, fun j hj => ?_, fun j hj k' hk' => ?_⟩, fun q' hq' => ?_, fun k' hk' => ?_, fun s' hs' => ?_, fun y hy => ?_⟩
    · rw [g0', Hb 0 (by omega)]; exact a1
    · rw [g0', Hb 1 (by omega)]; exact a2
    · rw [g0', Hb 2 (by omega)]; exact a3
    · rw [g0', Hb 3 (by omega)]; exact a4
    · rw [g0', Hb 4 (by omega)]; exact a5
    · rw [eP, (K.s1 (k := 1) F (by simp [seT])).2.2.1, Hb (16 + j) (by omega)]; exact a6 j hj
    · rw [Nn.c (Hb 1 (by omega))] at hj
      rw [eP, (K.s1 (k := 6) F (by simp [seT])).2.2.1, Hb (110 + j) (by omega)]; exact a7 j hj
    · have := rows.mc (h := h) (r := r) (m' := M) B ⟨Hb 0 (by omega), Hb 4 (by omega), Hb 7 (by omega)⟩ (fun x h1 h2 => Ho x (by omega) (by omega)) (fun s hs => ⟨Ho _ (by omega) (by omega), Ho _ (by omega) (by omega)⟩) d j hj k' hk'
      rw [eP, (K.s1 (k := 12) F (by simp [seT])).2.2.1, (K.s1 (k := 13) F (by simp [seT])).2.2.1]
      exact this
    · have hq := hq'.b' Hb
      have hb := hq.1
      obtain ⟨p0, pV⟩ := VPs q' hq
      unfold VP
      rw [eP]
      refine ⟨p0, ?_⟩
      by_cases z : q' = q
      · subst z
        obtain ⟨b1, b2, b3, b4, b5, b6, b7, b8, b9⟩ := pV
        obtain ⟨-, o1b⟩ := (Ip q' vq).2.1.eq (by omega)
        have e : ∀ x, x < 645 → (x < 3 ∨ 85 ≤ x) → M (130 + 645 * q' + x) = m (130 + 645 * q' + x) := fun x hx hn => Ho _ (by omega) (by omega)
        have e00 : M (130 + 645 * q') = m (130 + 645 * q') := e 0 (by omega) (by omega)
        have n4 : Nn M (130 + 645 * q' + 4) = n := by unfold Nn; rw [H4, nCl (by omega)]
        unfold PtV
        rw [eP, vp 5, vp 6, vp 7, vp 8, vp 9, vp 10, vp 11, if_neg (by omega), if_neg (by omega), if_neg (by omega), if_neg (by omega), if_neg (by omega), if_neg (by omega), if_neg (by omega), if_neg (by omega), if_neg (by omega), if_pos rfl, if_neg (by omega), if_neg (by omega), if_pos rfl, (K.s3 (k := 5) (j := q') (i := 0) F (by simp [seT])).2.2.1, (K.s3 (k := 5) (j := q') (i := 1) F (by simp [seT])).2.2.1, (K.s3 (k := 5) (j := q') (i := 2) F (by simp [seT])).2.2.1, e 1 (by omega) (by omega), e00, Hb (70 + q' / 5) (by omega), Hb (90 + q' / 5) (by omega), e 2 (by omega) (by omega), H3, n4, H4, Nn.c (e 1 (by omega) (by omega)), if_pos rfl]
        refine ⟨b1, b2, b3, b4, b5, rfl, fun b hb => ?_, rfl, fun _ l hl => ⟨?_, ?_⟩⟩
        · obtain ⟨d1, d2, d3⟩ := b7 b hb
          have ol := (((Ip q' vq).2.2.2.2.2.2.1 b hb).2.1.eq (by omega)).2
          have ew : ∀ b, b < 41 → M (130 + 645 * q' + 85 + b) = m (130 + 645 * q' + 85 + b) := fun b hb => by
            have := e (85 + b) (by omega) (by omega)
            rwa [← Nat.add_assoc] at this
          have el : M (130 + 645 * q' + 125 + b) = m (130 + 645 * q' + 125 + b) := by
            have := e (125 + b) (by omega) (by omega)
            rwa [← Nat.add_assoc] at this
          rw [ew b (by omega), ew (b + 1) (by omega), el, Nn.c el]
          refine ⟨d1, d2, fun i hi => ?_⟩
          have := e (165 + 12 * b + i) (by omega) (by omega)
          rw [← Nat.add_assoc, ← Nat.add_assoc] at this
          rw [this]
          exact d3 i hi
        · rw [v3 l hl, (Hl l hl).1]
        · rw [v4 l hl, (Hl l hl).2]
          decide
      · exact (pV.congr (K.s2 F (by simp [seT, z])) (fun j => K.s3 F (by simp [seT, z]))).mc (fun y hy => by
          rcases hy with rfl | rfl | ⟨h1, h2⟩
          · exact Hb _ (by omega)
          · exact Hb _ (by omega)
          · exact Ho _ (by omega) (by omega)) (Ip q' hq)
    · rw [Nn.c (Hb 3 (by omega))] at hk'
      obtain ⟨p0, pV⟩ := VMs k' hk'
      obtain ⟨-, -, -, i3, ij⟩ := Im k' hk'
      obtain ⟨-, i30⟩ := i3.eq (by omega)
      unfold VM
      rw [eP]
      refine ⟨p0, ?_⟩
      by_cases z : k' = k
      · subst z
        obtain ⟨q0, q1, q2, q3, q4, q5, q6, qj⟩ := pV
        have e : ∀ x, x < 183 → x ≠ 35 → M (320230 + 183 * k' + x) = m (320230 + 183 * k' + x) := fun x hx hn => Ho _ (by omega) (by omega)
        have e29 : Nn M (320230 + 183 * k' + 29) = Nn m (320230 + 183 * k' + 29) := Nn.c (e 29 (by omega) (by omega))
        unfold MaV
        rw [eP, (K.s3 (k := 8) (j := k') (i := 0) F (by simp [seT])).2.2.1, (K.s3 (k := 8) (j := k') (i := 7) F (by simp [seT])).2.2.1, (K.s3 (k := 8) (j := k') (i := 8) F (by simp [seT])).2.2.1, (K.s3 (k := 8) (j := k') (i := 10) F (by simp [seT])).2.2.1, (K.s2 (k := 8) (j := k') F (by simp [seT])).2.2.1, e 27 (by omega) (by omega), e 28 (by omega) (by omega), e 29 (by omega) (by omega), e 30 (by omega) (by omega), e 31 (by omega) (by omega), e 32 (by omega) (by omega), e29]
        refine ⟨fun j hj => by rw [e j (by omega) (by omega)]; exact q0 j hj, q1, q2, q3, q4, q5, q6, fun j hj' => ?_⟩
        obtain ⟨w1, w2, w3, w4⟩ := qj j hj'
        have e33 : ∀ y, y < 5 → y ≠ 2 → M (320230 + 183 * k' + 33 + 5 * j + y) = m (320230 + 183 * k' + 33 + 5 * j + y) := fun y h1 h2 => Ho _ (by omega) (by omega)
        have e330 : M (320230 + 183 * k' + 33 + 5 * j) = m (320230 + 183 * k' + 33 + 5 * j) := e33 0 (by omega) (by omega)
        rw [v9, e330, e33 1 (by omega) (by omega), e33 3 (by omega) (by omega), e33 4 (by omega) (by omega), Nn.c e330]
        refine ⟨w1, w2, w3, ?_⟩
        by_cases z0 : j = 0
        · subst z0
          rw [show 320230 + 183 * k' + 33 + 5 * 0 = 320230 + 183 * k' + 33 by omega, nq, if_pos rfl, if_pos fk, if_pos H3, H4]
        · have b100 := (ij j hj').2.1.1
          have np : Nn m (320230 + 183 * k' + 33 + 5 * j) ≠ q := fun e => z0 (jq k' hk' j hj' e).2
          rw [if_neg z0, Np _ b100 np 3 (by omega), Np _ b100 np 4 (by omega), Ho (320230 + 183 * k' + 33 + 5 * j + 2) (by omega) (by omega)]
          exact w4
      · exact (pV.congr (K.s2 F (by simp [seT])) (fun j => K.s3 F (by simp [seT, z]))).mc (fun y hy => by
          rcases hy with ⟨h1, h2⟩ | ⟨j, hj', hy⟩
          · exact Ho _ (by omega) (by omega)
          · have hb := (ij j hj').2.1.1
            have np : Nn m (320230 + 183 * k' + 33 + 5 * j) ≠ q := fun e => z (jq k' hk' j hj' e).1
            rcases hy with rfl | rfl
            · exact Np _ hb np 3 (by omega)
            · exact Np _ hb np 4 (by omega)) i3
    · rw [Nn.c (Hb 4 (by omega))] at hs'
      obtain ⟨p0, pV⟩ := VLs s' hs'
      have hi := Is s' hs'
      have hb := hi.2.1.1
      unfold VL
      rw [eP]
      refine ⟨p0, (pV.congr (K.s2 F (by simp [seT])) (fun j => K.s3 F (by simp [seT]))).mc (fun y hy => ?_) hi.2.2.2.2.2.2.2.2.2.2.2.1⟩
      rcases hy with ⟨h1, h2⟩ | rfl
      · exact Ho _ (by omega) (by omega)
      · exact Hb _ (by omega)
    · rw [Nn.c (Hb 2 (by omega))] at hy
      obtain ⟨p0, pV⟩ := VYs y hy
      unfold VY
      rw [eP]
      exact ⟨p0, (pV.congr (K.s2 F (by simp [seT])) (fun j => K.s3 F (by simp [seT]))).mc (fun z hz => Ho _ (by omega) (by omega)) (Iy y hy).2.1⟩
end
