/-! a machine's jobs: one is dropped -/
def Jd (h h1 : Hp) (c n : Nat) : Prop := Fr (fun b => b = c ∨ b = gP h c 7 ∨ b = gP h c 8 ∨ b = gP h c 9 ∨ b = gP h c 10) h h1 ∧ gI h1 c 3 = nI (n - 1) ∧ (∀ l, l ≠ 3 → gI h1 c l = gI h c l) ∧ ∀ k, 7 ≤ k → k ≤ 10 → ∀ l, gI h1 (gP h c k) l = if l < n - 1 then gI h (gP h c k) (l + 1) else gI h (gP h c k) l
section
variable {tg : Nat → List Nat} {h h1 : Hp} {m M : Nat → Int32} {c n k q : Nat}
theorem d710 {k : Nat} (h1 : 7 ≤ k) (h2 : k ≤ 10) : k = 7 ∨ k = 8 ∨ k = 9 ∨ k = 10 := by omega
theorem c_dropJob (O : Own tg h) (c3 : c ≠ 3) (cS : MaS h c) (h3 : gI h c 3 = nI n) (n1 : 1 ≤ n) (n30 : n ≤ 30) : ∃ h1, MX4_dropJob h c = some h1 ∧ Jd h h1 c n := by
  obtain ⟨s0, ⟨s1, s1a, s1b⟩, ⟨s7, s7a, s7b⟩, ⟨s8, s8a, s8b⟩, ⟨s9, s9a, s9b⟩, ⟨sa, saa, sab⟩, sz2, sz10⟩ := cS
  have c7 := ne_o O c3 s7
  have c8 := ne_o O c3 s8
  have c9 := ne_o O c3 s9
  have ca := ne_o O c3 sa
  have e78 := ne_f O c3 s7 s8 (by omega)
  have e79 := ne_f O c3 s7 s9 (by omega)
  have e7a := ne_f O c3 s7 sa (by omega)
  have e89 := ne_f O c3 s8 s9 (by omega)
  have e8a := ne_f O c3 s8 sa (by omega)
  have e9a := ne_f O c3 s9 sa (by omega)
  obtain ⟨A, hA⟩ : ∃ A, A = gP h c 7 := ⟨_, rfl⟩
  obtain ⟨B, hB⟩ : ∃ B, B = gP h c 8 := ⟨_, rfl⟩
  obtain ⟨E, hE⟩ : ∃ E, E = gP h c 9 := ⟨_, rfl⟩
  obtain ⟨F, hF⟩ : ∃ F, F = gP h c 10 := ⟨_, rfl⟩
  have K0 : ∃ z, it (fun q : Int32 × Hp => BX4_dropJob_2 q.2 c q.1) (nI 1, h) = some z ∧ Jd h z c n := by
    refine it_cnt (fun j s => s.1 = nI (j + 1) ∧ Fr (fun b => b = c ∨ b = gP h c 7 ∨ b = gP h c 8 ∨ b = gP h c 9 ∨ b = gP h c 10) h s.2 ∧ gI s.2 c = gI h c ∧ ∀ k, 7 ≤ k → k ≤ 10 → ∀ l, gI s.2 (gP h c k) l = if l < j then gI h (gP h c k) (l + 1) else gI h (gP h c k) l) (n - 1) (fun j s hj pp => ?_) (fun s pp => ?_) ⟨rfl, Fr.rfl, rfl, fun k _ _ l => by rw [if_neg (by omega)]⟩
    · obtain ⟨u, g⟩ := s
      obtain ⟨p1, p2, p3, p4⟩ := pp
      replace p1 : u = nI (j + 1) := p1
      replace p2 : Fr (fun b => b = c ∨ b = gP h c 7 ∨ b = gP h c 8 ∨ b = gP h c 9 ∨ b = gP h c 10) h g := p2
      replace p3 : gI g c = gI h c := p3
      replace p4 : ∀ k, 7 ≤ k → k ≤ 10 → ∀ l, gI g (gP h c k) l = if l < j then gI h (gP h c k) (l + 1) else gI h (gP h c k) l := p4
      subst p1
      have ek := p2.1
      have el := p2.2.1
      have eP := p2.2.2.1
      have q7 := p4 7 (by omega) (by omega)
      have q8 := p4 8 (by omega) (by omega)
      have q9 := p4 9 (by omega) (by omega)
      have qa := p4 10 (by omega) (by omega)
      obtain ⟨g1, hg1⟩ : ∃ g1, g1 = sI g (gP h c 7) j (gI h (gP h c 7) (j + 1)) := ⟨_, rfl⟩
      obtain ⟨g2, hg2⟩ : ∃ g2, g2 = sI g1 (gP h c 8) j (gI h (gP h c 8) (j + 1)) := ⟨_, rfl⟩
      obtain ⟨g3, hg3⟩ : ∃ g3, g3 = sI g2 (gP h c 9) j (gI h (gP h c 9) (j + 1)) := ⟨_, rfl⟩
      obtain ⟨g4, hg4⟩ : ∃ g4, g4 = sI g3 (gP h c 10) j (gI h (gP h c 10) (j + 1)) := ⟨_, rfl⟩
      have F1 : Fr (fun b => b = gP h c 7) g g1 := by rw [hg1]; exact Fr.sI rfl
      have F2 : Fr (fun b => b = gP h c 8) g1 g2 := by rw [hg2]; exact Fr.sI rfl
      have F3 : Fr (fun b => b = gP h c 9) g2 g3 := by rw [hg3]; exact Fr.sI rfl
      have F4 : Fr (fun b => b = gP h c 10) g3 g4 := by rw [hg4]; exact Fr.sI rfl
      have v8 : gI g1 (gP h c 8) (j + 1) = gI h (gP h c 8) (j + 1) := by rw [F1.2.2.2.2.2.2 _ (fun z => e78 z.symm), q8, if_neg (by omega)]
      have v9 : gI g2 (gP h c 9) (j + 1) = gI h (gP h c 9) (j + 1) := by rw [F2.2.2.2.2.2.2 _ (fun z => e89 z.symm), F1.2.2.2.2.2.2 _ (fun z => e79 z.symm), q9, if_neg (by omega)]
      have va : gI g3 (gP h c 10) (j + 1) = gI h (gP h c 10) (j + 1) := by rw [F3.2.2.2.2.2.2 _ (fun z => e9a z.symm), F2.2.2.2.2.2.2 _ (fun z => e8a z.symm), F1.2.2.2.2.2.2 _ (fun z => e7a z.symm), qa, if_neg (by omega)]
      have vz : vp_nar .boolean (gI h (gP h c 10) (j + 1)) = gI h (gP h c 10) (j + 1) := by rcases sz10 (j + 1) with z | z <;> (rw [z]; decide)
      refine ⟨(nI (j + 1 + 1), g4), ?_, rfl, ?_, ?_, fun k h7 h10 l => ?_⟩
      · show BX4_dropJob_2 g c (nI (j + 1)) = _
        unfold BX4_dropJob_2
        simp only [ZL]
        rw [gg_t (show kd g c = 3 by rw [ek]; exact s0), p3, h3, if_neg (nI_ge (by omega) (by omega)), eP, ek, el, gg_t s7a, s7b, gg_in (by omega) (by omega), nSub (by omega), gg_in (by omega) (by omega), nCl (by omega), nCl (by omega), q7, if_neg (by omega), Nat.add_sub_cancel, lt_eq, ← hg1, gg_t s8a, s8b, gg_in (by omega) (by omega), gg_in (by omega) (by omega), v8, lt_eq, ← hg2, gg_t s9a, s9b, gg_in (by omega) (by omega), gg_in (by omega) (by omega), v9, lt_eq, ← hg3, gg_t saa, sab, gg_in (by omega) (by omega), gg_in (by omega) (by omega), va, vz, lt_eq, ← hg4, nAdd]
      · exact (((p2.trans (F1.mono (fun b z => Or.inr (Or.inl z)))).trans (F2.mono (fun b z => Or.inr (Or.inr (Or.inl z))))).trans (F3.mono (fun b z => Or.inr (Or.inr (Or.inr (Or.inl z)))))).trans (F4.mono (fun b z => Or.inr (Or.inr (Or.inr (Or.inr z)))))
      · show gI g4 c = gI h c
        rw [F4.2.2.2.2.2.2 _ ca, F3.2.2.2.2.2.2 _ c9, F2.2.2.2.2.2.2 _ c8, F1.2.2.2.2.2.2 _ c7, p3]
      · show gI g4 (gP h c k) l = _
        have fin : ∀ (g0 : Hp) (X : Nat), gI g0 X = gI g X → (∀ l, gI g X l = if l < j then gI h X (l + 1) else gI h X l) → gI (sI g0 X j (gI h X (j + 1))) X l = if l < j + 1 then gI h X (l + 1) else gI h X l := fun g0 X e0 e1 => by
          rw [gI2]
          by_cases z : l = j
          · rw [if_pos ⟨rfl, z⟩, if_pos (by omega), z]
          · rw [if_neg (fun w => z w.2), e0, e1]
            by_cases w : l < j
            · rw [if_pos w, if_pos (by omega)]
            · rw [if_neg w, if_neg (by omega)]
        rcases d710 h7 h10 with z | z | z | z
        · rw [z, F4.2.2.2.2.2.2 _ e7a, F3.2.2.2.2.2.2 _ e79, F2.2.2.2.2.2.2 _ e78, hg1]
          exact fin g _ rfl q7
        · rw [z, F4.2.2.2.2.2.2 _ e8a, F3.2.2.2.2.2.2 _ e89, hg2]
          exact fin g1 _ (F1.2.2.2.2.2.2 _ (fun z => e78 z.symm)) q8
        · rw [z, F4.2.2.2.2.2.2 _ e9a, hg3]
          exact fin g2 _ (by rw [F2.2.2.2.2.2.2 _ (fun z => e89 z.symm), F1.2.2.2.2.2.2 _ (fun z => e79 z.symm)]) q9
        · rw [z, hg4]
          exact fin g3 _ (by rw [F3.2.2.2.2.2.2 _ (fun z => e9a z.symm), F2.2.2.2.2.2.2 _ (fun z => e8a z.symm), F1.2.2.2.2.2.2 _ (fun z => e7a z.symm)]) qa
    · obtain ⟨u, g⟩ := s
      obtain ⟨p1, p2, p3, p4⟩ := pp
      replace p1 : u = nI (n - 1 + 1) := p1
      replace p2 : Fr (fun b => b = c ∨ b = gP h c 7 ∨ b = gP h c 8 ∨ b = gP h c 9 ∨ b = gP h c 10) h g := p2
      replace p3 : gI g c = gI h c := p3
      replace p4 : ∀ k, 7 ≤ k → k ≤ 10 → ∀ l, gI g (gP h c k) l = if l < n - 1 then gI h (gP h c k) (l + 1) else gI h (gP h c k) l := p4
      subst p1
      have jm : jmax (nI 0) (nI n - nI 1) = nI (n - 1) := by
        rw [nSub n1]
        unfold jmax
        by_cases z : n - 1 = 0
        · rw [z, if_neg (nI_nlt (Nat.le_refl _) (by omega))]
        · rw [if_pos (nI_lt (by omega) (by omega))]
      refine ⟨sI g c 3 (nI (n - 1)), ?_, p2.trans (Fr.sI (Or.inl rfl)), by rw [gI2, if_pos ⟨rfl, rfl⟩], fun l hl => by rw [gI2, if_neg (fun z => hl z.2), p3], fun k h7 h10 l => ?_⟩
      · show BX4_dropJob_2 g c (nI (n - 1 + 1)) = _
        have kc : kd g c = 3 := by rw [p2.1]; exact s0
        unfold BX4_dropJob_2 MX4_dropJob_72
        simp only [ZL]
        rw [gg_t kc, p3, h3, if_pos (nI_le (by omega) (by omega)), jm, lt_eq, gg_t kc, up1_some]
      · have : gP h c k ≠ c := by
          rcases d710 h7 h10 with z | z | z | z <;> rw [z]
          · exact fun w => c7 w.symm
          · exact fun w => c8 w.symm
          · exact fun w => c9 w.symm
          · exact fun w => ca w.symm
        rw [gI_sI, if_neg this]
        exact p4 k h7 h10 l
  obtain ⟨z, y1, y2⟩ := K0
  refine ⟨z, ?_, y2⟩
  unfold MX4_dropJob MX4_dropJob_2
  simp only [ZL]
  exact y1
theorem Jd.mas (J : Jd h h1 c n) (cS : MaS h c) (O : Own tg h) (c3 : c ≠ 3) : MaS h1 c := by
  obtain ⟨s0, s1, s7, s8, s9, sa, sz2, sz10⟩ := cS
  obtain ⟨j1, j2, j3, j4⟩ := J
  unfold MaS ar
  rw [j1.2.2.1, j1.1, j1.2.1, j3 2 (by omega)]
  refine ⟨s0, s1, s7, s8, s9, sa, sz2, fun l => ?_⟩
  rw [j4 10 (by omega) (by omega)]
  by_cases z : l < n - 1
  · rw [if_pos z]; exact sz10 _
  · rw [if_neg z]; exact sz10 _
/-! memories: the first job is gone -/
/-- M is m but for machine k, where the first job is gone, and done, waited, spiked are what they are -/
def Sh (m M : Nat → Int32) (k n : Nat) : Prop := (∀ y, y < 320230 + 183 * k ∨ 320230 + 183 * k + 183 ≤ y → M y = m y) ∧ (∀ y, y < 29 → M (320230 + 183 * k + y) = m (320230 + 183 * k + y)) ∧ M (320230 + 183 * k + 29) = nI (n - 1) ∧ ∀ j, j < n - 1 → ∀ x, x < 5 → M (320230 + 183 * k + 33 + 5 * j + x) = m (320230 + 183 * k + 33 + 5 * (j + 1) + x)
theorem sh_mi (I : MI m) (hk : k < Nn m 3) (hn : n = Nn m (320230 + 183 * k + 29)) (n1 : 1 ≤ n) (H : Sh m M k n) : MI M := by
  obtain ⟨H0, H1, H2, H3⟩ := H
  obtain ⟨-, -, -, ⟨-, f3⟩, -⟩ := I.1.f
  have n3 : Nn M 3 = Nn m 3 := Nn.c (H0 3 (by omega))
  have L : ∀ y, y < 320230 → M y = m y := fun y hy => H0 y (by omega)
  have h30 := ((I.2.2.2.1 k hk).2.2.2.1.eq (by omega)).2
  have N29 : Nn M (320230 + 183 * k + 29) = n - 1 := by unfold Nn; rw [H2, nCl (by omega)]
  have oth : ∀ k2, k2 < Nn m 3 → k2 ≠ k → ∀ y, y < 183 → M (320230 + 183 * k2 + y) = m (320230 + 183 * k2 + y) := fun k2 h0 h1 y hy => H0 _ (by omega)
  -- a job of M is a job of m
  have jb : ∀ k2 j, k2 < Nn m 3 → j < Nn M (320230 + 183 * k2 + 29) → ∃ j', j' < Nn m (320230 + 183 * k2 + 29) ∧ (k2 = k → j' = j + 1) ∧ (k2 ≠ k → j' = j) ∧ ∀ x, x < 5 → M (320230 + 183 * k2 + 33 + 5 * j + x) = m (320230 + 183 * k2 + 33 + 5 * j' + x) := fun k2 j h0 h1 => by
    by_cases z : k2 = k
    · subst z
      rw [N29] at h1
      exact ⟨j + 1, by omega, fun _ => rfl, fun w => absurd rfl w, fun x hx => H3 j h1 x hx⟩
    · have h302 := ((I.2.2.2.1 k2 h0).2.2.2.1.eq (by omega)).2
      rw [Nn.c (oth k2 h0 z 29 (by omega))] at h1
      refine ⟨j, h1, fun w => absurd w z, fun _ => rfl, fun x hx => ?_⟩
      have := oth k2 h0 z (33 + 5 * j + x) (by omega)
      rwa [← Nat.add_assoc, ← Nat.add_assoc] at this
  refine MI.mch I hk H0 fun k2 hk2 => ?_
  obtain ⟨a0, a1, a2, a3, a4⟩ := I.2.2.2.1 k2 hk2
  have lo : ∀ y, y < 29 → M (320230 + 183 * k2 + y) = m (320230 + 183 * k2 + y) := fun y hy => by
    by_cases z : k2 = k
    · rw [z]; exact H1 y hy
    · exact oth k2 hk2 z y (by omega)
  refine ⟨fun i hi => (a0 i hi).c (lo i (by omega)), a1.c (lo 27 (by omega)), a2.c (lo 28 (by omega)), ?_, fun j hj => ?_⟩
  · by_cases z : k2 = k
    · rw [z]
      exact ⟨n - 1, by omega, H2⟩
    · exact a3.c (oth k2 hk2 z 29 (by omega))
  · obtain ⟨j', hj', e1, e2, ej⟩ := jb k2 j hk2 hj
    obtain ⟨c1, c2, c3, c4, c5, c6, c7, c8⟩ := a4 j' hj'
    have e0 : M (320230 + 183 * k2 + 33 + 5 * j) = m (320230 + 183 * k2 + 33 + 5 * j') := ej 0 (by omega)
    have vb := c2.1
    have cc : ∀ {a b : Nat} {B : Nat}, M a = m b → oN m b B → oN M a B := fun e ⟨v, hv, ev⟩ => ⟨v, hv, e.trans ev⟩
    have nn : ∀ {a b : Nat}, M a = m b → Nn M a = Nn m b := fun e => by unfold Nn; rw [e]
    rw [nn e0, nn (ej 1 (by omega)), nn (ej 2 (by omega)), ej 1 (by omega), ej 4 (by omega), L (130 + 645 * Nn m (320230 + 183 * k2 + 33 + 5 * j') + 2) (by omega), L (130 + 645 * Nn m (320230 + 183 * k2 + 33 + 5 * j') + 3) (by omega), Nn.c (L (130 + 645 * Nn m (320230 + 183 * k2 + 33 + 5 * j') + 4) (by omega)), n3, e0]
    refine ⟨cc e0 c1, c2.c (L _ (by omega)) (fun _ => L _ (by omega)), cc (ej 1 (by omega)) c3, cc (ej 2 (by omega)) c4, cc (ej 3 (by omega)) c5, cc (ej 4 (by omega)) c6, c7, fun hf => ?_⟩
    obtain ⟨d1, d2, d3, d4⟩ := c8 hf
    refine ⟨d1, d2, d3, fun k' hk' i hi h4 h0 => ?_⟩
    obtain ⟨i', hi', f1, f2, fj⟩ := jb k' i hk' hi
    have f0 : M (320230 + 183 * k' + 33 + 5 * i) = m (320230 + 183 * k' + 33 + 5 * i') := fj 0 (by omega)
    rw [fj 4 (by omega)] at h4
    rw [f0] at h0
    obtain ⟨g1, g2⟩ := d4 k' hk' i' hi' h4 h0
    refine ⟨g1, ?_⟩
    by_cases z : k2 = k
    · have := e1 z
      have := f1 (g1.trans z)
      omega
    · have := e2 z
      have := f2 (fun w => z (g1.symm.trans w))
      omega
theorem sh_mav (V : MaV h c m k) (J : Jd h h1 c n) (hn : n = Nn m (320230 + 183 * k + 29)) (n1 : 1 ≤ n) (I : MIm m k) (H : Sh m M k n) (g4 : gI h1 c 4 = M (320230 + 183 * k + 30)) (g5 : gI h1 c 5 = M (320230 + 183 * k + 31)) (g6 : gI h1 c 6 = M (320230 + 183 * k + 32)) (n0 : gI h1 (gP h c 0) = gI h (gP h c 0)) : MaV h1 c M k := by
  obtain ⟨H0, H1, H2, H3⟩ := H
  obtain ⟨v0, v1, v2, v3, v4, v5, v6, v7⟩ := V
  obtain ⟨j1, j2, j3, j4⟩ := J
  have h30 := (I.2.2.2.1.eq (by omega)).2
  have N29 : Nn M (320230 + 183 * k + 29) = n - 1 := by unfold Nn; rw [H2, nCl (by omega)]
  unfold MaV
  rw [j1.2.2.1, n0, j3 1 (by omega), j3 2 (by omega), j2, g4, g5, g6, H1 27 (by omega), H1 28 (by omega), H2, N29]
  refine ⟨fun i hi => by rw [H1 i (by omega)]; exact v0 i hi, v1, v2, rfl, rfl, rfl, rfl, fun j hj => ?_⟩
  obtain ⟨w1, w2, w3, w4⟩ := v7 (j + 1) (by omega)
  have e0 : M (320230 + 183 * k + 33 + 5 * j) = m (320230 + 183 * k + 33 + 5 * (j + 1)) := H3 j hj 0 (by omega)
  have vb := (I.2.2.2.2 (j + 1) (by omega)).2.1.1
  have nn : Nn M (320230 + 183 * k + 33 + 5 * j) = Nn m (320230 + 183 * k + 33 + 5 * (j + 1)) := by unfold Nn; rw [e0]
  rw [j4 7 (by omega) (by omega), j4 8 (by omega) (by omega), j4 9 (by omega) (by omega), j4 10 (by omega) (by omega), if_pos hj, if_pos hj, if_pos hj, if_pos hj, e0, nn, H3 j hj 1 (by omega), H3 j hj 2 (by omega), H3 j hj 3 (by omega), H3 j hj 4 (by omega), H0 (130 + 645 * Nn m (320230 + 183 * k + 33 + 5 * (j + 1)) + 3) (by omega), H0 (130 + 645 * Nn m (320230 + 183 * k + 33 + 5 * (j + 1)) + 4) (by omega)]
  exact ⟨w1, w2, w3, w4⟩
end
