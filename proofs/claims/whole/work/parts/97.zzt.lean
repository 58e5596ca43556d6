/-! ahead: a machine stopped in the trial room; idle minutes -/
def stF (m : Nat → Int32) (k : Nat) : Nat → Int32 := va_up m (320230 + 183 * k + 28) (nI 1)
section
variable {tg : Nat → List Nat} {h h1 : Hp} {m M kk t : Nat → Int32} {ii f w : Int32} {c n k q r x i T : Nat}
/-- no machine that is not stopped has work: nothing is cast -/
theorem lo_idle (A : ∀ k, k < n → m (320230 + 183 * k + 28) ≠ nI 0 ∨ Nn m (320230 + 183 * k + 29) = 0) : ∀ j, j ≤ n → loM i T m j = m
  | 0, _ => rfl
  | j + 1, hj => by
    have e := lo_idle A j (by omega)
    unfold loM
    rw [e, if_neg (fun z => by
      rcases A j (by omega) with y | y
      · exact y z.1
      · omega)]
theorem c_stop (K : Rt tg h r x) (S : RmS h r) (V : RmV h r m) (I : MI m) (hk : k < Nn m 3) (hc : c = gP h (gP h r 8) k) : ∃ h1, h1 = sI h c 2 (nI 1) ∧ Md tg h h1 r x k ∧ RmS h1 r ∧ RmV h1 r (stF m k) ∧ MI (stF m k) := by
  obtain ⟨-, -, -, ⟨-, f3⟩, -⟩ := I.1.f
  obtain ⟨c0, cV⟩ := V.2.2.2.2.2.2.2.2.1 k hk
  have cS := S.2.2.2.2.2.2.2.2.2.2.2.2.2.2.2.2.2.2.1 k c0
  have hI := I.2.2.2.1 k hk
  rw [← hc] at c0 cV cS
  obtain ⟨tc, c3, hD⟩ := md_c K hc c0
  obtain ⟨h1, hh1⟩ : ∃ h1, h1 = sI h c 2 (nI 1) := ⟨_, rfl⟩
  have F2 : Fr (fun b => b = c) h h1 := by rw [hh1]; exact Fr.sI rfl
  have gc5 : gI h1 c 2 = nI 1 := by rw [hh1, gI2, if_pos ⟨rfl, rfl⟩]
  have gco : ∀ l, l ≠ 2 → gI h1 c l = gI h c l := fun l hl => by rw [hh1, gI2, if_neg (fun z => hl z.2)]
  have ga : ∀ j, gP h c j ≠ 0 → gI h1 (gP h c j) = gI h (gP h c j) := fun j hj => F2.2.2.2.2.2.2 _ (fun e => (ne_o K.1 c3 hj) e.symm)
  have u : ∀ y, y ≠ 320230 + 183 * k + 28 → stF m k y = m y := fun y hy => by unfold stF; rw [up_at, if_neg hy]
  have u31 : stF m k (320230 + 183 * k + 28) = nI 1 := by unfold stF; rw [up_at, if_pos rfl]
  have Fm : Md tg h h1 r x k := F2.mono (fun b hb => hD b (Or.inl hb))
  have l30 := (hI.2.2.2.1.eq (by omega)).2
  have jq := fun j (hj : j < Nn m (320230 + 183 * k + 29)) => (hI.2.2.2.2 j hj).2.1.1
  have S1 : MaS h1 c := by
    obtain ⟨q0, q1, q7, q8, q9, qa, q2, q10⟩ := cS
    unfold MaS ar
    rw [F2.1, F2.2.1, F2.2.2.1, gc5, ga 10 qa.1]
    exact ⟨q0, q1, q7, q8, q9, qa, Or.inr rfl, q10⟩
  have V1 : MaV h1 c (stF m k) k := by
    obtain ⟨v0, v1, v2, v3, v4, v5, v6, v7⟩ := id cV
    unfold MaV
    rw [F2.2.2.1, ga 0 cS.2.1.1, ga 7 cS.2.2.1.1, ga 8 cS.2.2.2.1.1, ga 9 cS.2.2.2.2.1.1, ga 10 cS.2.2.2.2.2.1.1, gco 1 (by omega), gc5, gco 3 (by omega), gco 4 (by omega), gco 5 (by omega), gco 6 (by omega), u (320230 + 183 * k + 27) (by omega), u31, u (320230 + 183 * k + 29) (by omega), u (320230 + 183 * k + 30) (by omega), u (320230 + 183 * k + 31) (by omega), u (320230 + 183 * k + 32) (by omega), Nn.c (u (320230 + 183 * k + 29) (by omega))]
    refine ⟨fun i hi => by rw [u _ (by omega)]; exact v0 i hi, v1, rfl, v3, v4, v5, v6, fun j hj => ?_⟩
    have b1 := jq j hj
    rw [Nn.c (u (320230 + 183 * k + 33 + 5 * j) (by omega)), u (320230 + 183 * k + 33 + 5 * j) (by omega), u (320230 + 183 * k + 33 + 5 * j + 1) (by omega), u (320230 + 183 * k + 33 + 5 * j + 2) (by omega), u (320230 + 183 * k + 33 + 5 * j + 3) (by omega), u (320230 + 183 * k + 33 + 5 * j + 4) (by omega), u (130 + 645 * Nn m (320230 + 183 * k + 33 + 5 * j) + 3) (by omega), u (130 + 645 * Nn m (320230 + 183 * k + 33 + 5 * j) + 4) (by omega)]
    exact v7 j hj
  rw [hc] at S1 V1
  obtain ⟨S2, V2⟩ := md_rm K S V I Fm (by omega) (fun y hy => u y (by omega)) S1 V1
  refine ⟨h1, ?_, Fm, S2, V2, MI.mch I hk (fun y hy => u y (by omega)) (fun k2 hk2 => ?_)⟩
  · exact hh1
  · obtain ⟨a0, a1, a2, a3, a4⟩ := I.2.2.2.1 k2 hk2
    have l30' := (a3.eq (by omega)).2
    refine ⟨fun i hi => (a0 i hi).c (u _ (by omega)), a1.c (u _ (by omega)), (by
      by_cases z : k2 = k
      · rw [z]; exact ⟨1, by omega, u31⟩
      · exact a2.c (u _ (by omega))), a3.c (u _ (by omega)), fun j hj => ?_⟩
    rw [Nn.c (u (320230 + 183 * k2 + 29) (by omega))] at hj
    obtain ⟨c1, c2, c3', c4, c5, c6, c7, c8⟩ := a4 j hj
    have vb := c2.1
    have o : ∀ y, y < 5 → stF m k (320230 + 183 * k2 + 33 + 5 * j + y) = m (320230 + 183 * k2 + 33 + 5 * j + y) := fun y hy => u _ (by rcases Nat.lt_trichotomy k2 k with z | z | z <;> omega)
    have e0 : stF m k (320230 + 183 * k2 + 33 + 5 * j) = m (320230 + 183 * k2 + 33 + 5 * j) := o 0 (by omega)
    have n3 : Nn (stF m k) 3 = Nn m 3 := Nn.c (u 3 (by omega))
    rw [Nn.c e0, Nn.c (o 1 (by omega)), Nn.c (o 2 (by omega)), o 1 (by omega), o 4 (by omega), u (130 + 645 * Nn m (320230 + 183 * k2 + 33 + 5 * j) + 2) (by omega), u (130 + 645 * Nn m (320230 + 183 * k2 + 33 + 5 * j) + 3) (by omega), Nn.c (u (130 + 645 * Nn m (320230 + 183 * k2 + 33 + 5 * j) + 4) (by omega)), n3, e0]
    refine ⟨c1.c e0, c2.c (u _ (by omega)) (fun _ => u _ (by omega)), c3'.c (o 1 (by omega)), c4.c (o 2 (by omega)), c5.c (o 3 (by omega)), c6.c (o 4 (by omega)), c7, fun hf => ?_⟩
    obtain ⟨d1, d2, d3, d4⟩ := c8 hf
    refine ⟨d1, d2, d3, fun k' hk' i hi h4 h0 => ?_⟩
    have l30'' := ((I.2.2.2.1 k' hk').2.2.2.1.eq (by omega)).2
    rw [Nn.c (u (320230 + 183 * k' + 29) (by omega))] at hi
    rw [u _ (by omega)] at h4 h0
    exact d4 k' hk' i hi h4 h0
end
