/-! correct: the class's room behind it -/
/-- what it may change: part q, where slugs lie, scratch, the spare part -/
def cT (q : Nat) (l : List Nat) : Prop := l = [q, 5, 5] ∨ (∃ j, l = [j, q, 5, 5]) ∨ (∃ s, l = [s, 10, 5]) ∨ scT 5 l ∨ l = [4] ∨ ∃ j, l = [j, 4]
/-- the cells that say where a slug lies -/
def slX (y : Nat) : Prop := 64630 ≤ y ∧ y < 320230 ∧ 4 ≤ (y - 64630) % 852 ∧ (y - 64630) % 852 ≤ 6
section
variable {tg : Nat → List Nat} {h h1 : Hp} {m M : Nat → Int32} {q p : Nat}
theorem pc_rm (K : Rt tg h 19 5) (S : RmS h 19) (V : RmV h 19 m) (I : MI m) (vq : vP m q) (F : Ft tg (cT q) h h1) (Z : gI h1 (gP h (gP h 19 14) 8) 0 = nI 0 ∧ gI h1 (gP h (gP h 19 14) 9) 0 = nI 0) (H : ∀ y, (y < 130 + 645 * q ∨ 130 + 645 * q + 645 ≤ y) → ¬ slX y → M y = m y) (J : (M (130 + 645 * q + 3) = m (130 + 645 * q + 3) ∧ M (130 + 645 * q + 4) = m (130 + 645 * q + 4)) ∨ ∀ k, k < Nn m 3 → ∀ j, j < Nn m (320230 + 183 * k + 29) → Nn m (320230 + 183 * k + 33 + 5 * j) ≠ q) (hp : p = gP h (gP h 19 5) q) (PS : PtS h1 p) (PV : PtV h1 p M q) (hs0 : ∀ s j, ¬ (10 ≤ j ∧ j ≤ 12) → gI h1 (gP h (gP h 19 10) s) j = gI h (gP h (gP h 19 10) s) j) (hs : ∀ s, s < Nn m 4 → gI h1 (gP h (gP h 19 10) s) 10 = M (64630 + 852 * s + 4) ∧ gI h1 (gP h (gP h 19 10) s) 11 = M (64630 + 852 * s + 5) ∧ gI h1 (gP h (gP h 19 10) s) 12 = M (64630 + 852 * s + 6)) : RmS h1 19 ∧ RmV h1 19 M := by
  obtain ⟨B, Ip, Is, Im, Ih, Iy, Iz, Iq, Il⟩ := I
  obtain ⟨⟨g0, f0⟩, ⟨g1, f1⟩, ⟨g2, f2⟩, ⟨g3, f3⟩, ⟨g4, f4⟩, -⟩ := B.f
  have vb := vq.1
  have eP : gP h1 = gP h := F.gp
  have Hb : ∀ x, x < 130 → M x = m x := fun x hx => H x (by omega) (by unfold slX; omega)
  have Ho : ∀ x, 320230 ≤ x → M x = m x := fun x hx => H x (by omega) (by unfold slX; omega)
  have Np : ∀ q', q' < 100 → q' ≠ q → ∀ x, x < 645 → M (130 + 645 * q' + x) = m (130 + 645 * q' + x) := fun q' h0 h1 x hx => H _ (by omega) (by unfold slX; omega)
  have Hs : ∀ s x, s < 300 → x < 852 → ¬ (4 ≤ x ∧ x ≤ 6) → M (64630 + 852 * s + x) = m (64630 + 852 * s + x) := fun s x h0 hx hn => H _ (by omega) (by unfold slX; omega)
  constructor
  · refine S.of F ?_
    obtain ⟨n1, n2, n3, n4, n5⟩ := S.n
    unfold RmN
    rw [eP]
    refine ⟨?_, Z, fun q' hq' => ?_, fun k' hk' => ?_, fun s' hz => ?_⟩
    · rw [(K.s1 (k := 4) F (by simp [cT, scT])).2.2.1]; exact n1
    · by_cases z : q' = q
      · subst z
        rw [← hp]
        have := PS.2.2.2.2.2.2
        rw [eP] at this
        exact this
      · rw [(K.s3 (k := 5) (j := q') (i := 1) F (by simp [cT, scT, z])).2.2.1, (K.s3 (k := 5) (j := q') (i := 2) F (by simp [cT, scT, z])).2.2.1, (K.s2 (k := 5) (j := q') F (by simp [cT, scT, z])).2.2.1]
        exact n3 q' hq'
    · rw [(K.s3 (k := 8) (j := k') (i := 10) F (by simp [cT, scT])).2.2.1, (K.s2 (k := 8) (j := k') F (by simp [cT, scT])).2.2.1]
      exact n4 k' hk'
    · rw [hs0 s' 14 (by omega)]
      exact n5 s' hz
  · rw [rv_split] at V ⊢
    obtain ⟨⟨a1, a2, a3, a4, a5, a6, a7, d⟩, VPs, VMs, VLs, VYs⟩ := V
    have g0' := (K.s0 F (by simp [cT, scT])).2.2.1
    refine ⟨⟨?_, ?_, ?_, ?_, ?_, fun j hj => ?_, fun j hj => ?_, fun j hj k' hk' => ?_⟩, fun q' hq' => ?_, fun k' hk' => ?_, fun s hs1 => ?_, fun y hy => ?_⟩
    · rw [g0', Hb 0 (by omega)]; exact a1
    · rw [g0', Hb 1 (by omega)]; exact a2
    · rw [g0', Hb 2 (by omega)]; exact a3
    · rw [g0', Hb 3 (by omega)]; exact a4
    · rw [g0', Hb 4 (by omega)]; exact a5
    · rw [eP, (K.s1 (k := 1) F (by simp [cT, scT])).2.2.1, Hb (16 + j) (by omega)]; exact a6 j hj
    · rw [Nn.c (Hb 1 (by omega))] at hj
      rw [eP, (K.s1 (k := 6) F (by simp [cT, scT])).2.2.1, Hb (110 + j) (by omega)]; exact a7 j hj
    · have := rows.mc (h := h) (r := 19) (m' := M) B ⟨Hb 0 (by omega), Hb 4 (by omega), Hb 7 (by omega)⟩ (fun x h1 h2 => Ho x (by omega)) (fun s hs => ⟨Hs s 1 (by omega) (by omega) (by omega), Hs s 2 (by omega) (by omega) (by omega)⟩) d j hj k' hk'
      rw [eP, (K.s1 (k := 12) F (by simp [cT, scT])).2.2.1, (K.s1 (k := 13) F (by simp [cT, scT])).2.2.1]
      exact this
    · have hq := hq'.b' Hb
      have hb := hq.1
      obtain ⟨p0, pV⟩ := VPs q' hq
      unfold VP
      rw [eP]
      refine ⟨p0, ?_⟩
      by_cases z : q' = q
      · rw [z, ← hp]
        exact PV
      · exact (pV.congr (K.s2 F (by simp [cT, scT, z])) (fun j => K.s3 F (by simp [cT, scT, z]))).mc (fun y hy => by
          rcases hy with rfl | rfl | ⟨h1, h2⟩
          · exact Hb _ (by omega)
          · exact Hb _ (by omega)
          · exact H _ (by omega) (by unfold slX; omega)) (Ip q' hq)
    · rw [Nn.c (Hb 3 (by omega))] at hk'
      obtain ⟨p0, pV⟩ := VMs k' hk'
      obtain ⟨-, -, -, i3, ij⟩ := Im k' hk'
      obtain ⟨-, i30⟩ := i3.eq (by omega)
      unfold VM
      rw [eP]
      refine ⟨p0, (pV.congr (K.s2 F (by simp [cT, scT])) (fun j => K.s3 F (by simp [cT, scT]))).mc (fun y hy => ?_) i3⟩
      rcases hy with ⟨h1, h2⟩ | ⟨j, hj', hy⟩
      · exact Ho _ (by omega)
      · have hb := (ij j hj').2.1.1
        by_cases z : Nn m (320230 + 183 * k' + 33 + 5 * j) = q
        · rcases J with ⟨j3, j4⟩ | J
          · rw [z] at hy
            rcases hy with rfl | rfl
            · exact j3
            · exact j4
          · exact absurd z (J k' hk' j hj')
        · rcases hy with rfl | rfl
          · exact Np _ hb z 3 (by omega)
          · exact Np _ hb z 4 (by omega)
    · rw [Nn.c (Hb 4 (by omega))] at hs1
      obtain ⟨p0, pV⟩ := VLs s hs1
      obtain ⟨y10, y11, y12⟩ := hs s hs1
      have y0 := hs0 s
      obtain ⟨w5, w8, w9, w3, w10, w11, w12, w14, w7, w2, w13, w6, wl, wb, w4⟩ := pV
      have hi := Is s hs1
      have hb := hi.2.1.1
      have h9 := (hi.2.2.2.2.2.2.2.2.2.2.2.1.eq (by omega)).2
      have e : ∀ x, x < 852 → ¬ (4 ≤ x ∧ x ≤ 6) → M (64630 + 852 * s + x) = m (64630 + 852 * s + x) := fun x hx hn => Hs s x (by omega) hx hn
      have e0 : M (64630 + 852 * s) = m (64630 + 852 * s) := e 0 (by omega) (by omega)
      have e9 := Nn.c (e 9 (by omega) (by omega))
      have q0 := (K.s3 (k := 10) (j := s) (i := 0) F (by simp [cT, scT])).2.2.1
      have q1 := (K.s3 (k := 10) (j := s) (i := 1) F (by simp [cT, scT])).2.2.1
      have ea : ∀ a, a < Nn m (64630 + 852 * s + 9) → M (64630 + 852 * s + 12 + a) = m (64630 + 852 * s + 12 + a) ∧ M (64630 + 852 * s + 432 + a) = m (64630 + 852 * s + 432 + a) := fun a ha => by
        have h1 := e (12 + a) (by omega) (by omega)
        have h2 := e (432 + a) (by omega) (by omega)
        rw [← Nat.add_assoc] at h1 h2
        exact ⟨h1, h2⟩
      unfold VL
      rw [eP]
      refine ⟨p0, ?_⟩
      unfold SlV
      rw [eP, F.el, q0, q1, e9, wrN.mc _ ea, y0 5 (by omega), y0 8 (by omega), y0 9 (by omega), y0 3 (by omega), y10, y11, y12, y0 14 (by omega), y0 7 (by omega), y0 2 (by omega), y0 13 (by omega), y0 6 (by omega), y0 4 (by omega), Nn.c e0, e0, e 1 (by omega) (by omega), e 2 (by omega) (by omega), e 3 (by omega) (by omega), e 7 (by omega) (by omega), e 8 (by omega) (by omega), e 9 (by omega) (by omega), e 10 (by omega) (by omega), e 11 (by omega) (by omega), Hb (70 + Nn m (64630 + 852 * s) / 5) (by omega)]
      refine ⟨w5, w8, w9, w3, rfl, rfl, rfl, w14, w7, w2, w13, w6, wl, fun a ha => ?_, w4⟩
      rw [(ea a ha).1, (ea a ha).2]
      exact wb a ha
    · rw [Nn.c (Hb 2 (by omega))] at hy
      obtain ⟨p0, pV⟩ := VYs y hy
      unfold VY
      rw [eP]
      exact ⟨p0, (pV.cg (K.s2 F (by simp [cT, scT])) (fun j h1 h2 => K.s3 F (by simp [cT, scT]; omega))).mc (fun z hz => Ho _ (by omega)) (Iy y hy).2.1⟩
end
