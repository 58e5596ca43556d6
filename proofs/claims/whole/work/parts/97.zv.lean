/-! a job goes on to its next line -/
def adM (m : Nat → Int32) (k n nx en : Nat) : Nat → Int32 := if nx = en then awM (va_up m (320230 + 183 * k + 34) (nI nx)) k n else va_up m (320230 + 183 * k + 34) (nI nx)
section
variable {tg : Nat → List Nat} {h h1 : Hp} {m M kk t : Nat → Int32} {ii f w : Int32} {c n k q r x nx en : Nat}
theorem ad_sh (k4 : k < 4) (n1 : 1 ≤ n) (n30 : n ≤ 30) : Sh m (awM (va_up m (320230 + 183 * k + 34) (nI nx)) k n) k n ∧ ∀ y, 30 ≤ y → y < 33 → awM (va_up m (320230 + 183 * k + 34) (nI nx)) k n (320230 + 183 * k + y) = m (320230 + 183 * k + y) := by
  have u : ∀ y, y ≠ 320230 + 183 * k + 34 → va_up m (320230 + 183 * k + 34) (nI nx) y = m y := fun y hy => by rw [up_at, if_neg hy]
  refine ⟨aw_sh k4 n1 n30 (fun y hy => u y (by omega)) (fun y hy => u _ (by omega)) (fun y h1 h2 => u _ (by omega)), fun y h1 h2 => ?_⟩
  unfold awM awS
  rw [up_at, if_neg (by omega), if_neg (by omega), u _ (by omega)]
theorem c_adv (K : Rt tg h r x) (S : RmS h r) (V : RmV h r m) (I : MI m) (hk : k < Nn m 3) (hc : c = gP h (gP h r 8) k) (hn : n = Nn m (320230 + 183 * k + 29)) (n1 : 1 ≤ n) (e34 : m (320230 + 183 * k + 34) = nI nx) (hx : nx < en) (e40 : en ≤ 40) (he : m (320230 + 183 * k + 35) = nI en) (h1e : m (320230 + 183 * k + 37) = nI 1 → m (130 + 645 * Nn m (320230 + 183 * k + 33) + 3) = nI 1 ∧ m (130 + 645 * Nn m (320230 + 183 * k + 33) + 4) = nI en) : ∃ h1, MX7_castLine_184 h c = some h1 ∧ Md tg h h1 r x k ∧ RmS h1 r ∧ RmV h1 r (adM m k n (nx + 1) en) ∧ MI (adM m k n (nx + 1) en) := by
  obtain ⟨-, -, -, ⟨-, f3⟩, -⟩ := I.1.f
  obtain ⟨c0, cV⟩ := V.2.2.2.2.2.2.2.2.1 k hk
  have cS := S.2.2.2.2.2.2.2.2.2.2.2.2.2.2.2.2.2.2.1 k c0
  have hI := I.2.2.2.1 k hk
  obtain ⟨e29, l30⟩ := hI.2.2.2.1.eq (by omega)
  rw [← hc] at c0 cV cS
  rw [← hn] at e29 l30
  obtain ⟨tc, c3, hD⟩ := md_c K hc c0
  have g3 : gI h c 3 = nI n := cV.2.2.2.1.trans e29
  obtain ⟨s0, ⟨s1, s1a, s1b⟩, ⟨s7, s7a, s7b⟩, ⟨s8, s8a, s8b⟩, ⟨s9, s9a, s9b⟩, ⟨sa, saa, sab⟩, sz2, sz10⟩ := id cS
  obtain ⟨v0, v1, v2, v3, v4, v5, v6, v7⟩ := id cV
  obtain ⟨w1, w2, w3, w4⟩ := v7 0 (by omega)
  simp only [Nat.mul_zero, Nat.add_zero, Nat.add_assoc, Nat.reduceAdd] at w1 w2 w3 w4
  have J0 := hI.2.2.2.2 0 (by omega)
  simp only [Nat.mul_zero, Nat.add_zero, Nat.add_assoc, Nat.reduceAdd] at J0
  have k33 : ∀ a b, 320230 + (183 * k + a) = 320230 + 183 * k + a := fun a b => by omega
  have we : gI h (gP h c 9) 0 = nI en := by
    rw [w4]
    by_cases z : m (320230 + (183 * k + 37)) = nI 1
    · have z' : m (320230 + 183 * k + 37) = nI 1 := by rw [← z]; exact congrArg m (by omega)
      obtain ⟨y1, y2⟩ := h1e z'
      have e33 : m (320230 + (183 * k + 33)) = m (320230 + 183 * k + 33) := congrArg m (by omega)
      have n33 : Nn m (320230 + (183 * k + 33)) = Nn m (320230 + 183 * k + 33) := by unfold Nn; rw [e33]
      have y1' : m (130 + (645 * Nn m (320230 + (183 * k + 33)) + 3)) = nI 1 := by rw [n33, ← y1]; exact congrArg m (by omega)
      have y2' : m (130 + (645 * Nn m (320230 + (183 * k + 33)) + 4)) = nI en := by rw [n33, ← y2]; exact congrArg m (by omega)
      rw [if_pos z, if_pos y1', y2']
    · rw [if_neg z, ← he]
      exact congrArg m (by omega)
  have wn : gI h (gP h c 8) 0 = nI nx := by
    rw [w2, ← e34]
    exact congrArg m (by omega)
  obtain ⟨g, hg⟩ : ∃ g, g = sI h (gP h c 8) 0 (nI (nx + 1)) := ⟨_, rfl⟩
  have F1 : Fr (fun b => b = gP h c 8) h g := by rw [hg]; exact Fr.sI rfl
  have c8 := ne_o K.1 c3 s8
  have e08 := ne_f K.1 c3 s1 s8 (by omega)
  have e78 := ne_f K.1 c3 s7 s8 (by omega)
  have e98 := ne_f K.1 c3 s9 s8 (by omega)
  have ea8 := ne_f K.1 c3 sa s8 (by omega)
  have gc : gI g c = gI h c := F1.2.2.2.2.2.2 _ c8
  have g0 := F1.2.2.2.2.2.2 _ e08
  have g7 := F1.2.2.2.2.2.2 _ e78
  have g9 := F1.2.2.2.2.2.2 _ e98
  have ga := F1.2.2.2.2.2.2 _ ea8
  have g8 : ∀ l, gI g (gP h c 8) l = if l = 0 then nI (nx + 1) else gI h (gP h c 8) l := fun l => by
    rw [hg, gI2]
    by_cases z : l = 0
    · rw [if_pos ⟨rfl, z⟩, if_pos z]
    · rw [if_neg (fun w => z w.2), if_neg z]
  have eP : gP g = gP h := F1.2.2.1
  have Fm1 : Md tg h g r x k := F1.mono (fun b hb => hD b (Or.inr ⟨8, s8, hb⟩))
  have Sg : MaS g c := by
    unfold MaS ar
    rw [eP, F1.1, F1.2.1, gc, ga]
    exact ⟨s0, ⟨s1, s1a, s1b⟩, ⟨s7, s7a, s7b⟩, ⟨s8, s8a, s8b⟩, ⟨s9, s9a, s9b⟩, ⟨sa, saa, sab⟩, sz2, sz10⟩
  have st : MX7_castLine_184 h c = if nx + 1 < en then some g else Option.bind (MX4_dropJob g c) fun (h20 : Hp) => some h20 := by
    unfold MX7_castLine_184
    simp only [ZL]
    rw [gg_t s0, gg_t s8a, s8b, gg_in (by omega) (by omega), nCl (by omega), wn, nAdd, lt_eq, ← hg, gg_t s9a, s9b, gg_in (by omega) (by omega), g8, if_pos rfl, g9, we]
    simp (disch := omega) only [nLt]
  have k4 : k < 4 := by omega
  have u : ∀ y, y ≠ 320230 + 183 * k + 34 → va_up m (320230 + 183 * k + 34) (nI (nx + 1)) y = m y := fun y hy => by rw [up_at, if_neg hy]
  have jq := fun j (hj : j < Nn m (320230 + 183 * k + 29)) => (hI.2.2.2.2 j hj).2.1.1
  by_cases z : nx + 1 = en
  · rw [if_neg (by omega)] at st
    unfold adM
    rw [if_pos z]
    obtain ⟨P1, P2⟩ := ad_sh (m := m) (nx := nx + 1) k4 n1 l30
    obtain ⟨h1, y1, J⟩ := c_dropJob (K.1.fr F1) c3 Sg (by rw [gc]; exact g3) n1 l30
    obtain ⟨j1, j2, j3, j4⟩ := id J
    have S1 := J.mas Sg (K.1.fr F1) c3
    have Jm : Md tg g h1 r x k := J.md (K.fr F1) (by rw [eP]; exact hc) c0 Sg
    have n0 : gI h1 (gP g c 0) = gI h (gP h c 0) := by
      rw [eP, ← g0]
      refine j1.2.2.2.2.2.2 _ (fun y => ?_)
      rw [eP] at y
      rcases y with y | y | y | y | y
      · exact (ne_o K.1 c3 s1) y.symm
      · exact ne_f K.1 c3 s1 s7 (by omega) y
      · exact ne_f K.1 c3 s1 s8 (by omega) y
      · exact ne_f K.1 c3 s1 s9 (by omega) y
      · exact ne_f K.1 c3 s1 sa (by omega) y
    have V1 : MaV h1 c (awM (va_up m (320230 + 183 * k + 34) (nI (nx + 1))) k n) k := by
      obtain ⟨H0, H1, H2, H3⟩ := P1
      have N29 : Nn (awM (va_up m (320230 + 183 * k + 34) (nI (nx + 1))) k n) (320230 + 183 * k + 29) = n - 1 := by unfold Nn; rw [H2, nCl (by omega)]
      have q7 := j4 7 (by omega) (by omega)
      have q8 := j4 8 (by omega) (by omega)
      have q9 := j4 9 (by omega) (by omega)
      have qa := j4 10 (by omega) (by omega)
      rw [eP] at q7 q8 q9 qa n0
      unfold MaV
      rw [j1.2.2.1, eP, n0, j2, j3 1 (by omega), j3 2 (by omega), j3 4 (by omega), j3 5 (by omega), j3 6 (by omega), gc, H1 27 (by omega), H1 28 (by omega), H2, P2 30 (by omega) (by omega), P2 31 (by omega) (by omega), P2 32 (by omega) (by omega), N29]
      refine ⟨fun i hi => by rw [H1 i (by omega)]; exact v0 i hi, v1, v2, rfl, v4, v5, v6, fun j hj => ?_⟩
      obtain ⟨w1, w2, w3, w4⟩ := v7 (j + 1) (by omega)
      have e0 : awM (va_up m (320230 + 183 * k + 34) (nI (nx + 1))) k n (320230 + 183 * k + 33 + 5 * j) = m (320230 + 183 * k + 33 + 5 * (j + 1)) := H3 j hj 0 (by omega)
      have vb := jq (j + 1) (by omega)
      have nn : Nn (awM (va_up m (320230 + 183 * k + 34) (nI (nx + 1))) k n) (320230 + 183 * k + 33 + 5 * j) = Nn m (320230 + 183 * k + 33 + 5 * (j + 1)) := by unfold Nn; rw [e0]
      rw [q7, q8, q9, qa, if_pos hj, if_pos hj, if_pos hj, if_pos hj, g7, g8, if_neg (by omega), g9, ga, e0, nn, H3 j hj 1 (by omega), H3 j hj 2 (by omega), H3 j hj 3 (by omega), H3 j hj 4 (by omega), H0 (130 + 645 * Nn m (320230 + 183 * k + 33 + 5 * (j + 1)) + 3) (by omega), H0 (130 + 645 * Nn m (320230 + 183 * k + 33 + 5 * (j + 1)) + 4) (by omega)]
      exact ⟨w1, w2, w3, w4⟩
    rw [hc] at S1 V1
    obtain ⟨S2, V2⟩ := md_rm K S V I (Fm1.trans Jm) k4 P1.1 S1 V1
    exact ⟨h1, by rw [st, y1]; rfl, Fm1.trans Jm, S2, V2, sh_mi I hk hn n1 P1⟩
  · rw [if_pos (by omega)] at st
    unfold adM
    rw [if_neg z]
    have V1 : MaV g c (va_up m (320230 + 183 * k + 34) (nI (nx + 1))) k := by
      unfold MaV
      rw [eP, g0, g7, g9, ga, gc, u _ (by omega), u _ (by omega), u (320230 + 183 * k + 29) (by omega), u _ (by omega), u _ (by omega), u (320230 + 183 * k + 32) (by omega), Nn.c (u (320230 + 183 * k + 29) (by omega))]
      refine ⟨fun i hi => by rw [u _ (by omega)]; exact v0 i hi, v1, v2, v3, v4, v5, v6, fun j hj => ?_⟩
      have b1 := jq j hj
      obtain ⟨x1, x2, x3, x4⟩ := v7 j hj
      rw [Nn.c (u (320230 + 183 * k + 33 + 5 * j) (by omega)), u (320230 + 183 * k + 33 + 5 * j) (by omega), u (320230 + 183 * k + 33 + 5 * j + 2) (by omega), u (320230 + 183 * k + 33 + 5 * j + 3) (by omega), u (320230 + 183 * k + 33 + 5 * j + 4) (by omega), u (130 + 645 * Nn m (320230 + 183 * k + 33 + 5 * j) + 3) (by omega), u (130 + 645 * Nn m (320230 + 183 * k + 33 + 5 * j) + 4) (by omega), g8]
      refine ⟨x1, ?_, x3, x4⟩
      by_cases y : j = 0
      · rw [if_pos y, up_at, if_pos (by omega)]
      · rw [if_neg y, u _ (by omega)]
        exact x2
    rw [hc] at Sg V1
    obtain ⟨S2, V2⟩ := md_rm K S V I Fm1 k4 (fun y hy => u y (by omega)) Sg V1
    refine ⟨g, st, Fm1, S2, V2, MI.mch I hk (fun y hy => u y (by omega)) (fun k2 hk2 => ?_)⟩
    obtain ⟨a0, a1, a2, a3, a4⟩ := I.2.2.2.1 k2 hk2
    have l30' := (a3.eq (by omega)).2
    refine ⟨fun i hi => (a0 i hi).c (u _ (by omega)), a1.c (u _ (by omega)), a2.c (u _ (by omega)), a3.c (u _ (by omega)), fun j hj => ?_⟩
    rw [Nn.c (u (320230 + 183 * k2 + 29) (by omega))] at hj
    obtain ⟨c1, c2, c3', c4, c5, c6, c7, c8'⟩ := a4 j hj
    have vb := c2.1
    have o : ∀ y, y < 5 → y ≠ 1 → va_up m (320230 + 183 * k + 34) (nI (nx + 1)) (320230 + 183 * k2 + 33 + 5 * j + y) = m (320230 + 183 * k2 + 33 + 5 * j + y) := fun y hy h1 => u _ (by rcases Nat.lt_trichotomy k2 k with z | z | z <;> omega)
    have o1 : (k2 = k ∧ j = 0) ∨ va_up m (320230 + 183 * k + 34) (nI (nx + 1)) (320230 + 183 * k2 + 33 + 5 * j + 1) = m (320230 + 183 * k2 + 33 + 5 * j + 1) := by
      by_cases y : k2 = k ∧ j = 0
      · exact Or.inl y
      · exact Or.inr (u _ (by rcases Nat.lt_trichotomy k2 k with z | z | z <;> omega))
    have e0 : va_up m (320230 + 183 * k + 34) (nI (nx + 1)) (320230 + 183 * k2 + 33 + 5 * j) = m (320230 + 183 * k2 + 33 + 5 * j) := o 0 (by omega) (by omega)
    have n3 : Nn (va_up m (320230 + 183 * k + 34) (nI (nx + 1))) 3 = Nn m 3 := Nn.c (u 3 (by omega))
    have uni : ∀ k', k' < Nn m 3 → ∀ j', j' < Nn (va_up m (320230 + 183 * k + 34) (nI (nx + 1))) (320230 + 183 * k' + 29) → va_up m (320230 + 183 * k + 34) (nI (nx + 1)) (320230 + 183 * k' + 33 + 5 * j' + 4) = nI 1 → va_up m (320230 + 183 * k + 34) (nI (nx + 1)) (320230 + 183 * k' + 33 + 5 * j') = m (320230 + 183 * k2 + 33 + 5 * j) → j' < Nn m (320230 + 183 * k' + 29) ∧ m (320230 + 183 * k' + 33 + 5 * j' + 4) = nI 1 ∧ m (320230 + 183 * k' + 33 + 5 * j') = m (320230 + 183 * k2 + 33 + 5 * j) := fun k' hk' i hi h4 h0 => by
      have l30'' := ((I.2.2.2.1 k' hk').2.2.2.1.eq (by omega)).2
      rw [Nn.c (u (320230 + 183 * k' + 29) (by omega))] at hi
      rw [u _ (by rcases Nat.lt_trichotomy k' k with z | z | z <;> omega)] at h4 h0
      exact ⟨hi, h4, h0⟩
    rw [Nn.c e0, Nn.c (o 2 (by omega) (by omega)), o 4 (by omega) (by omega), u (130 + 645 * Nn m (320230 + 183 * k2 + 33 + 5 * j) + 2) (by omega), u (130 + 645 * Nn m (320230 + 183 * k2 + 33 + 5 * j) + 3) (by omega), Nn.c (u (130 + 645 * Nn m (320230 + 183 * k2 + 33 + 5 * j) + 4) (by omega)), n3, e0]
    rcases o1 with ⟨y1, y2⟩ | o1
    · subst y1 y2
      have eN : va_up m (320230 + 183 * k2 + 34) (nI (nx + 1)) (320230 + 183 * k2 + 33 + 5 * 0 + 1) = nI (nx + 1) := by rw [up_at, if_pos (by omega)]
      have nN : Nn (va_up m (320230 + 183 * k2 + 34) (nI (nx + 1))) (320230 + 183 * k2 + 33 + 5 * 0 + 1) = nx + 1 := by unfold Nn; rw [eN, nCl (by omega)]
      have e35 : Nn m (320230 + 183 * k2 + 33 + 5 * 0 + 2) = en := by
        rw [show 320230 + 183 * k2 + 33 + 5 * 0 + 2 = 320230 + 183 * k2 + 35 by omega]
        unfold Nn
        rw [he, nCl (by omega)]
      rw [nN, e35, eN]
      rw [e35] at c7
      refine ⟨c1.c e0, c2.c (u _ (by omega)) (fun _ => u _ (by omega)), ⟨nx + 1, by omega, eN⟩, c4.c (o 2 (by omega) (by omega)), c5.c (o 3 (by omega) (by omega)), c6.c (o 4 (by omega) (by omega)), fun hf => ?_, fun hf => ?_⟩
      · obtain ⟨d1, d2, d3⟩ := c7 hf
        exact ⟨d1, by omega, d3⟩
      · obtain ⟨d1, d2, d3, d4⟩ := c8' hf
        have hf' : m (320230 + 183 * k2 + 37) = nI 1 := by rw [← hf]
        obtain ⟨y1, y2⟩ := h1e hf'
        have n33 : Nn m (320230 + 183 * k2 + 33 + 5 * 0) = Nn m (320230 + 183 * k2 + 33) := rfl
        rw [n33] at d2 d3 ⊢
        have n4 : Nn m (130 + 645 * Nn m (320230 + 183 * k2 + 33) + 4) = en := by unfold Nn; unfold Nn at y2; rw [y2, nCl (by omega)]
        refine ⟨d1, fun w => ?_, fun _ => by rw [n4]; omega, fun k' hk' i hi h4 h0 => ?_⟩
        · rw [y1] at w
          exact absurd w (by decide)
        · obtain ⟨q1, q2, q3⟩ := uni k' hk' i hi h4 h0
          exact d4 k' hk' i q1 q2 q3
    · rw [Nn.c o1, o1]
      refine ⟨c1.c e0, c2.c (u _ (by omega)) (fun _ => u _ (by omega)), c3'.c o1, c4.c (o 2 (by omega) (by omega)), c5.c (o 3 (by omega) (by omega)), c6.c (o 4 (by omega) (by omega)), c7, fun hf => ?_⟩
      obtain ⟨d1, d2, d3, d4⟩ := c8' hf
      refine ⟨d1, d2, d3, fun k' hk' i hi h4 h0 => ?_⟩
      obtain ⟨q1, q2, q3⟩ := uni k' hk' i hi h4 h0
      exact d4 k' hk' i q1 q2 q3
end
