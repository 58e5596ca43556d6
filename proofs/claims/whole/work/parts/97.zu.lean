/-! a machine's jobs: reference; spiked, waited, done -/
def awS (m : Nat → Int32) (k j : Nat) : Nat → Int32 := fun y => if 320230 + 183 * k + 33 ≤ y ∧ y < 320230 + 183 * k + 33 + j then m (y + 5) else m y
def awM (m : Nat → Int32) (k n : Nat) : Nat → Int32 := va_up (awS m k 145) (320230 + 183 * k + 29) (nI (n - 1))
def spM (m : Nat → Int32) (k n : Nat) : Nat → Int32 := awM (va_up m (320230 + 183 * k + 32) (m (320230 + 183 * k + 32) + nI 1)) k n
def waM (m : Nat → Int32) (k : Nat) : Nat → Int32 := va_up m (320230 + 183 * k + 31) (m (320230 + 183 * k + 31) + nI 1)
/-- the reference's cells, but for what is kept aside -/
def Rm (b : Nat) : Prop := 73 ≤ b ∧ b ≤ 108 ∧ b ≠ 76
theorem fm74 {h : Hp} {x : Nat} {v : Int32} : Fr Rm h (sI h 74 x v) := Fr.sI (S := Rm) ⟨by omega, by omega, by omega⟩
theorem rk_fm {h h1 : Hp} (a : Rk h h1) : Fr Rm h h1 := a.1.mono (fun b z => by unfold Rm; omega)
theorem fm_rc {h h1 : Hp} (a : Fr Rm h h1) : Fr Rc h h1 := a.mono (fun b z => ⟨z.1, z.2.1⟩)
theorem fm_76 {h h1 : Hp} (a : Fr Rm h h1) : gI h1 76 = gI h 76 := a.2.2.2.2.2.2 _ (fun z => z.2.2 rfl)
section
variable {tg : Nat → List Nat} {h h1 : Hp} {m M kk t : Nat → Int32} {ii f w : Int32} {c n k q r x : Nat}
theorem awS_0 : awS m k 0 = m := by
  funext y
  unfold awS
  rw [if_neg (by omega)]
theorem awS_s {j : Nat} : va_up (awS m k j) (320230 + 183 * k + 33 + j) (m (320230 + 183 * k + 33 + j + 5)) = awS m k (j + 1) := by
  funext y
  rw [up_at]
  unfold awS
  by_cases z : y = 320230 + 183 * k + 33 + j
  · rw [if_pos z, if_pos (by omega), z]
  · rw [if_neg z]
    by_cases v : 320230 + 183 * k + 33 ≤ y ∧ y < 320230 + 183 * k + 33 + j
    · rw [if_pos v, if_pos (by omega)]
    · rw [if_neg v, if_neg (by omega)]
theorem r_away (R : RSt h m kk ii t w f) (hk : k < 4) (e29 : m (320230 + 183 * k + 29) = nI n) (n1 : 1 ≤ n) (n30 : n ≤ 30) : ∃ h2, MX12_away h 73 (nI k) = some h2 ∧ Fr Rm h h2 ∧ RSt h2 (awM m k n) kk ii t w f ∧ gI h2 73 = gI h 73 := by
  have K0 : ∃ z, it (fun q : Int32 × Hp => BX12_away_7 q.2 73 (nI (320230 + 183 * k)) q.1) (nI 0, h) = some z ∧ (Fr Rm h z ∧ RSt z (awM m k n) kk ii t w f ∧ gI z 73 = gI h 73) := by
    refine it_cnt (fun j s => s.1 = nI j ∧ Fr Rm h s.2 ∧ RSt s.2 (awS m k j) kk ii t w f ∧ gI s.2 73 = gI h 73) 145 (fun j s hj pp => ?_) (fun s pp => ?_) ⟨rfl, Fr.rfl, by rw [awS_0]; exact R, rfl⟩
    · obtain ⟨u, g⟩ := s
      obtain ⟨p1, p2, p3, p4⟩ := pp
      replace p1 : u = nI j := p1
      replace p2 : Fr Rm h g := p2
      replace p3 : RSt g (awS m k j) kk ii t w f := p3
      replace p4 : gI g 73 = gI h 73 := p4
      subst p1
      have v5 : gI g 74 (320230 + 183 * k + 33 + j + 5) = m (320230 + 183 * k + 33 + j + 5) := by
        rw [p3.2.1]
        unfold awS
        rw [if_neg (by omega)]
      refine ⟨(nI (j + 1), sI g 74 (320230 + 183 * k + 33 + j) (m (320230 + 183 * k + 33 + j + 5))), ?_, rfl, p2.trans fm74, ?_, ?_⟩
      · show BX12_away_7 g 73 (nI (320230 + 183 * k)) (nI j) = _
        unfold BX12_away_7
        simp only [ZL, nAdd]
        rw [if_neg (nI_ge hj (by omega)), gg_t (RS.f p3.1).1, (RS.f p3.1).2.1, gg_t (RS.f p3.1).2.2.1, (RS.f p3.1).2.2.2.1, gg_in (by omega) (by omega), gg_in (by omega) (by omega), nCl (by omega), nCl (by omega), v5, lt_eq]
      · show RSt (sI g 74 (320230 + 183 * k + 33 + j) (m (320230 + 183 * k + 33 + j + 5))) (awS m k (j + 1)) kk ii t w f
        rw [← awS_s]
        exact p3.m1
      · show gI (sI g 74 (320230 + 183 * k + 33 + j) (m (320230 + 183 * k + 33 + j + 5))) 73 = gI h 73
        rw [n74]
        exact p4
    · obtain ⟨u, g⟩ := s
      obtain ⟨p1, p2, p3, p4⟩ := pp
      replace p1 : u = nI 145 := p1
      replace p2 : Fr Rm h g := p2
      replace p3 : RSt g (awS m k 145) kk ii t w f := p3
      replace p4 : gI g 73 = gI h 73 := p4
      subst p1
      have v29 : gI g 74 (320230 + 183 * k + 29) = nI n := by
        rw [p3.2.1]
        unfold awS
        rw [if_neg (by omega)]
        exact e29
      refine ⟨sI g 74 (320230 + 183 * k + 29) (nI (n - 1)), ?_, p2.trans fm74, p3.m1, by rw [n74]; exact p4⟩
      show BX12_away_7 g 73 (nI (320230 + 183 * k)) (nI 145) = _
      unfold BX12_away_7 MX12_away_44
      simp only [ZL, nAdd]
      rw [if_pos (nI_le (Nat.le_refl _) (by omega)), gg_t (RS.f p3.1).1, (RS.f p3.1).2.1, gg_t (RS.f p3.1).2.2.1, (RS.f p3.1).2.2.2.1, gg_in (by omega) (by omega), nCl (by omega), v29, nSub n1, lt_eq, up1_some]
  obtain ⟨z, y1, y2, y3, y4⟩ := K0
  refine ⟨z, ?_, y2, y3, y4⟩
  unfold MX12_away MX12_away_7
  simp only [ZL]
  rw [r_machine0, ob_some, y1]
theorem aw_sh (k4 : k < 4) (n1 : 1 ≤ n) (n30 : n ≤ 30) (H0 : ∀ y, y < 320230 + 183 * k ∨ 320230 + 183 * k + 183 ≤ y → M y = m y) (H1 : ∀ y, y < 29 → M (320230 + 183 * k + y) = m (320230 + 183 * k + y)) (H2 : ∀ y, 38 ≤ y → y < 183 → M (320230 + 183 * k + y) = m (320230 + 183 * k + y)) : Sh m (awM M k n) k n := by
  have o : ∀ y, y ≠ 320230 + 183 * k + 29 → (y < 320230 + 183 * k + 33 ∨ 320230 + 183 * k + 178 ≤ y) → awM M k n y = M y := fun y h1 h2 => by
    unfold awM awS
    rw [up_at, if_neg h1, if_neg (by omega)]
  refine ⟨fun y hy => ?_, fun y hy => ?_, ?_, fun j hj x hx => ?_⟩
  · rw [o y (by omega) (by omega)]
    exact H0 y hy
  · rw [o _ (by omega) (by omega)]
    exact H1 y hy
  · unfold awM
    rw [up_at, if_pos rfl]
  · unfold awM awS
    rw [up_at, if_neg (by omega), if_pos (by omega), show 320230 + 183 * k + 33 + 5 * j + x + 5 = 320230 + 183 * k + (33 + 5 * (j + 1) + x) by omega, H2 _ (by omega) (by omega), show 320230 + 183 * k + (33 + 5 * (j + 1) + x) = 320230 + 183 * k + 33 + 5 * (j + 1) + x by omega]
theorem sp_sh (k4 : k < 4) (n1 : 1 ≤ n) (n30 : n ≤ 30) : Sh m (spM m k n) k n ∧ spM m k n (320230 + 183 * k + 30) = m (320230 + 183 * k + 30) ∧ spM m k n (320230 + 183 * k + 31) = m (320230 + 183 * k + 31) ∧ spM m k n (320230 + 183 * k + 32) = m (320230 + 183 * k + 32) + nI 1 := by
  have u : ∀ y, y ≠ 320230 + 183 * k + 32 → va_up m (320230 + 183 * k + 32) (m (320230 + 183 * k + 32) + nI 1) y = m y := fun y hy => by rw [up_at, if_neg hy]
  refine ⟨aw_sh k4 n1 n30 (fun y hy => u y (by omega)) (fun y hy => u _ (by omega)) (fun y h1 h2 => u _ (by omega)), ?_, ?_, ?_⟩
  · unfold spM awM awS
    rw [up_at, if_neg (by omega), if_neg (by omega), u _ (by omega)]
  · unfold spM awM awS
    rw [up_at, if_neg (by omega), if_neg (by omega), u _ (by omega)]
  · unfold spM awM awS
    rw [up_at, if_neg (by omega), if_neg (by omega), up_at, if_pos rfl]
theorem r_spikes (R : RSt h m kk ii t w f) (hk : k < 4) (e29 : m (320230 + 183 * k + 29) = nI n) (n1 : 1 ≤ n) (n30 : n ≤ 30) : ∃ h2, MX12_spikes h 73 (nI k) = some h2 ∧ Fr Rm h h2 ∧ RSt h2 (spM m k n) kk ii t w f ∧ gI h2 73 = gI h 73 := by
  obtain ⟨g, hg⟩ : ∃ g, g = sI h 74 (320230 + 183 * k + 32) (m (320230 + 183 * k + 32) + nI 1) := ⟨_, rfl⟩
  have R1 : RSt g (va_up m (320230 + 183 * k + 32) (m (320230 + 183 * k + 32) + nI 1)) kk ii t w f := by rw [hg]; exact R.m1
  have F1 : Fr Rm h g := by rw [hg]; exact fm74
  obtain ⟨h2, y1, y2, y3, y4⟩ := r_away R1 hk (by rw [up_at, if_neg (by omega)]; exact e29) n1 n30
  refine ⟨h2, ?_, F1.trans y2, y3, by rw [y4, hg, n74]⟩
  unfold MX12_spikes
  simp only [ZL]
  rw [gg_t (RS.f R.1).1, r_machine0, ob_some, (RS.f R.1).2.1, gg_t (RS.f R.1).2.2.1, (RS.f R.1).2.2.2.1, nAdd, gg_in (by omega) (by omega), lt_eq, nCl (by omega), R.2.1, ← hg, y1, ob_some]
/-- machine k of a room is changed, nothing else -/
def Md (tg : Nat → List Nat) (h h1 : Hp) (r x k : Nat) : Prop := Fr (fun b => b ≠ 0 ∧ [k, 8, x] <:+ tg b) h h1
theorem md_rm (K : Rt tg h r x) (S : RmS h r) (V : RmV h r m) (I : MI m) (F : Md tg h h1 r x k) (k4 : k < 4) (H : ∀ y, y < 320230 + 183 * k ∨ 320230 + 183 * k + 183 ≤ y → M y = m y) (cS : MaS h1 (gP h (gP h r 8) k)) (cV : MaV h1 (gP h (gP h r 8) k) M k) : RmS h1 r ∧ RmV h1 r M := by
  have sf := obj_sm (s0 := k) (F := 8) K.1 K.2.1 K.2.2.1 K.2.2.2.1 K.2.2.2.2 F (fun y hy => by rw [K.2.2.1]; exact hy)
  exact ⟨S.ma F sf cS, RmV.ma I V F sf k4 H (fun _ => cV)⟩
theorem md_c (K : Rt tg h r x) (hc : c = gP h (gP h r 8) k) (c0 : c ≠ 0) : tg c = [k, 8, x] ∧ c ≠ 3 ∧ ∀ b, (b = c ∨ ∃ j, gP h c j ≠ 0 ∧ b = gP h c j) → b ≠ 0 ∧ [k, 8, x] <:+ tg b := by
  have tc := K.o (k := 8) (j := k) (by rw [← hc]; exact c0)
  rw [← hc] at tc
  have c3 : c ≠ 3 := by rw [hc]; exact K.o3
  refine ⟨tc, c3, fun b hb => ?_⟩
  rcases hb with hb | ⟨j, hj, hb⟩
  · rw [hb]; exact ⟨c0, by rw [tc]; exact List.suffix_refl _⟩
  · rw [hb]; exact ⟨hj, by rw [tgc K.1 hj c3, tc]; exact List.suffix_append [j] _⟩
theorem Jd.md (K : Rt tg h r x) (hc : c = gP h (gP h r 8) k) (c0 : c ≠ 0) (cS : MaS h c) (J : Jd h h1 c n) : Md tg h h1 r x k := by
  obtain ⟨-, -, hD⟩ := md_c K hc c0
  refine J.1.mono (fun b hb => ?_)
  rcases hb with z | z | z | z | z
  · exact hD b (Or.inl z)
  · exact hD b (Or.inr ⟨7, cS.2.2.1.1, z⟩)
  · exact hD b (Or.inr ⟨8, cS.2.2.2.1.1, z⟩)
  · exact hD b (Or.inr ⟨9, cS.2.2.2.2.1.1, z⟩)
  · exact hD b (Or.inr ⟨10, cS.2.2.2.2.2.1.1, z⟩)
/-- spiked: the class -/
theorem c_spike (K : Rt tg h r x) (S : RmS h r) (V : RmV h r m) (I : MI m) (hk : k < Nn m 3) (hc : c = gP h (gP h r 8) k) (hn : n = Nn m (320230 + 183 * k + 29)) (n1 : 1 ≤ n) : ∃ h1, MX4_spike h c = some h1 ∧ Md tg h h1 r x k ∧ RmS h1 r ∧ RmV h1 r (spM m k n) ∧ MI (spM m k n) := by
  obtain ⟨-, -, -, ⟨-, f3⟩, -⟩ := I.1.f
  obtain ⟨c0, cV⟩ := V.2.2.2.2.2.2.2.2.1 k hk
  have cS := S.2.2.2.2.2.2.2.2.2.2.2.2.2.2.2.2.2.2.1 k c0
  have hI := I.2.2.2.1 k hk
  obtain ⟨e29, l30⟩ := hI.2.2.2.1.eq (by omega)
  rw [← hc] at c0 cV cS
  rw [← hn] at e29 l30
  obtain ⟨tc, c3, hD⟩ := md_c K hc c0
  have g3 : gI h c 3 = nI n := cV.2.2.2.1.trans e29
  obtain ⟨g, y1, J⟩ := c_dropJob K.1 c3 cS g3 n1 l30
  obtain ⟨P1, P2, P3, P4⟩ := sp_sh (m := m) (by omega : k < 4) n1 l30
  have Sg := J.mas cS K.1 c3
  obtain ⟨j1, j2, j3, j4⟩ := id J
  have na : ∀ j, j ≠ 6 ∨ True → gP h c j ≠ 0 → gP h c j ≠ c := fun j _ hj e => (ne_o K.1 c3 hj) e.symm
  obtain ⟨h1, hh1⟩ : ∃ h1, h1 = sI g c 6 (m (320230 + 183 * k + 32) + nI 1) := ⟨_, rfl⟩
  have F2 : Fr (fun b => b = c) g h1 := by rw [hh1]; exact Fr.sI rfl
  have J1 : Jd h h1 c n ∨ True := Or.inr trivial
  have gc6 : gI h1 c 6 = m (320230 + 183 * k + 32) + nI 1 := by rw [hh1, gI2, if_pos ⟨rfl, rfl⟩]
  have gco : ∀ l, l ≠ 6 → gI h1 c l = gI g c l := fun l hl => by rw [hh1, gI2, if_neg (fun z => hl z.2)]
  have ga : ∀ j, gP h c j ≠ 0 → gI h1 (gP h c j) = gI g (gP h c j) := fun j hj => F2.2.2.2.2.2.2 _ (na j (Or.inr trivial) hj)
  have Fm : Md tg h h1 r x k := (J.md K hc c0 cS).trans (F2.mono (fun b hb => hD b (Or.inl hb)))
  have S1 : MaS h1 c := by
    obtain ⟨q0, q1, q7, q8, q9, qa, q2, q10⟩ := Sg
    unfold ar at q1 q7 q8 q9 qa
    unfold MaS ar
    rw [F2.1, F2.2.1, F2.2.2.1, gco 2 (by omega), show gP g c 10 = gP h c 10 by rw [j1.2.2.1], ga 10 cS.2.2.2.2.2.1.1]
    refine ⟨q0, q1, q7, q8, q9, by rw [← show gP g c 10 = gP h c 10 by rw [j1.2.2.1]]; exact qa, q2, fun l => ?_⟩
    have := q10 l
    rw [j1.2.2.1] at this
    exact this
  have V1 : MaV h1 c (spM m k n) k := by
    have n7 := j4 7 (by omega) (by omega)
    have n8 := j4 8 (by omega) (by omega)
    have n9 := j4 9 (by omega) (by omega)
    have n10 := j4 10 (by omega) (by omega)
    obtain ⟨v0, v1, v2, v3, v4, v5, v6, v7⟩ := id cV
    obtain ⟨H0, H1, H2, H3⟩ := P1
    have N29 : Nn (spM m k n) (320230 + 183 * k + 29) = n - 1 := by unfold Nn; rw [H2, nCl (by omega)]
    have g0 : gI h1 (gP h c 0) = gI h (gP h c 0) := by
      rw [ga 0 cS.2.1.1]
      refine j1.2.2.2.2.2.2 _ (fun z => ?_)
      rcases z with z | z | z | z | z
      · exact na 0 (Or.inr trivial) cS.2.1.1 z
      · exact ne_f K.1 c3 cS.2.1.1 cS.2.2.1.1 (by omega) z
      · exact ne_f K.1 c3 cS.2.1.1 cS.2.2.2.1.1 (by omega) z
      · exact ne_f K.1 c3 cS.2.1.1 cS.2.2.2.2.1.1 (by omega) z
      · exact ne_f K.1 c3 cS.2.1.1 cS.2.2.2.2.2.1.1 (by omega) z
    unfold MaV
    rw [F2.2.2.1, j1.2.2.1, g0, ga 7 cS.2.2.1.1, ga 8 cS.2.2.2.1.1, ga 9 cS.2.2.2.2.1.1, ga 10 cS.2.2.2.2.2.1.1, gco 1 (by omega), gco 2 (by omega), gco 3 (by omega), gco 4 (by omega), gco 5 (by omega), gc6, j2, j3 1 (by omega), j3 2 (by omega), j3 4 (by omega), j3 5 (by omega), H1 27 (by omega), H1 28 (by omega), H2, P2, P3, P4, N29]
    refine ⟨fun i hi => by rw [H1 i (by omega)]; exact v0 i hi, v1, v2, rfl, v4, v5, rfl, fun j hj => ?_⟩
    obtain ⟨w1, w2, w3, w4⟩ := v7 (j + 1) (by omega)
    have e0 : spM m k n (320230 + 183 * k + 33 + 5 * j) = m (320230 + 183 * k + 33 + 5 * (j + 1)) := H3 j hj 0 (by omega)
    have vb := (hI.2.2.2.2 (j + 1) (by omega)).2.1.1
    have nn : Nn (spM m k n) (320230 + 183 * k + 33 + 5 * j) = Nn m (320230 + 183 * k + 33 + 5 * (j + 1)) := by unfold Nn; rw [e0]
    rw [n7, n8, n9, n10, if_pos hj, if_pos hj, if_pos hj, if_pos hj, e0, nn, H3 j hj 1 (by omega), H3 j hj 2 (by omega), H3 j hj 3 (by omega), H3 j hj 4 (by omega), H0 (130 + 645 * Nn m (320230 + 183 * k + 33 + 5 * (j + 1)) + 3) (by omega), H0 (130 + 645 * Nn m (320230 + 183 * k + 33 + 5 * (j + 1)) + 4) (by omega)]
    exact ⟨w1, w2, w3, w4⟩
  rw [hc] at S1 V1
  obtain ⟨S2, V2⟩ := md_rm K S V I Fm (by omega) P1.1 S1 V1
  refine ⟨h1, ?_, Fm, S2, V2, sh_mi I hk hn n1 P1⟩
  have kg : kd g c = 3 := Sg.1
  unfold MX4_spike
  simp only [ZL]
  rw [gg_t cS.1, y1, ob_some, gg_t kg, j3 6 (by omega), cV.2.2.2.2.2.2.1, ← hh1, lt_eq]
/-- waited: the class -/
theorem c_wait (K : Rt tg h r x) (S : RmS h r) (V : RmV h r m) (I : MI m) (hk : k < Nn m 3) (hc : c = gP h (gP h r 8) k) : ∃ h1, MX7_work_127 h c = some h1 ∧ Md tg h h1 r x k ∧ RmS h1 r ∧ RmV h1 r (waM m k) ∧ MI (waM m k) := by
  obtain ⟨-, -, -, ⟨-, f3⟩, -⟩ := I.1.f
  obtain ⟨c0, cV⟩ := V.2.2.2.2.2.2.2.2.1 k hk
  have cS := S.2.2.2.2.2.2.2.2.2.2.2.2.2.2.2.2.2.2.1 k c0
  have hI := I.2.2.2.1 k hk
  rw [← hc] at c0 cV cS
  obtain ⟨tc, c3, hD⟩ := md_c K hc c0
  obtain ⟨h1, hh1⟩ : ∃ h1, h1 = sI h c 5 (m (320230 + 183 * k + 31) + nI 1) := ⟨_, rfl⟩
  have F2 : Fr (fun b => b = c) h h1 := by rw [hh1]; exact Fr.sI rfl
  have gc5 : gI h1 c 5 = m (320230 + 183 * k + 31) + nI 1 := by rw [hh1, gI2, if_pos ⟨rfl, rfl⟩]
  have gco : ∀ l, l ≠ 5 → gI h1 c l = gI h c l := fun l hl => by rw [hh1, gI2, if_neg (fun z => hl z.2)]
  have ga : ∀ j, gP h c j ≠ 0 → gI h1 (gP h c j) = gI h (gP h c j) := fun j hj => F2.2.2.2.2.2.2 _ (fun e => (ne_o K.1 c3 hj) e.symm)
  have u : ∀ y, y ≠ 320230 + 183 * k + 31 → waM m k y = m y := fun y hy => by unfold waM; rw [up_at, if_neg hy]
  have u31 : waM m k (320230 + 183 * k + 31) = m (320230 + 183 * k + 31) + nI 1 := by unfold waM; rw [up_at, if_pos rfl]
  have Fm : Md tg h h1 r x k := F2.mono (fun b hb => hD b (Or.inl hb))
  have l30 := (hI.2.2.2.1.eq (by omega)).2
  have jq := fun j (hj : j < Nn m (320230 + 183 * k + 29)) => (hI.2.2.2.2 j hj).2.1.1
  have S1 : MaS h1 c := by
    obtain ⟨q0, q1, q7, q8, q9, qa, q2, q10⟩ := cS
    unfold MaS ar
    rw [F2.1, F2.2.1, F2.2.2.1, gco 2 (by omega), ga 10 qa.1]
    exact ⟨q0, q1, q7, q8, q9, qa, q2, q10⟩
  have V1 : MaV h1 c (waM m k) k := by
    obtain ⟨v0, v1, v2, v3, v4, v5, v6, v7⟩ := id cV
    unfold MaV
    rw [F2.2.2.1, ga 0 cS.2.1.1, ga 7 cS.2.2.1.1, ga 8 cS.2.2.2.1.1, ga 9 cS.2.2.2.2.1.1, ga 10 cS.2.2.2.2.2.1.1, gco 1 (by omega), gco 2 (by omega), gco 3 (by omega), gco 4 (by omega), gc5, gco 6 (by omega), u _ (by omega), u _ (by omega), u _ (by omega), u _ (by omega), u31, u (320230 + 183 * k + 32) (by omega), Nn.c (u (320230 + 183 * k + 29) (by omega))]
    refine ⟨fun i hi => by rw [u _ (by omega)]; exact v0 i hi, v1, v2, v3, v4, rfl, v6, fun j hj => ?_⟩
    have b1 := jq j hj
    rw [Nn.c (u (320230 + 183 * k + 33 + 5 * j) (by omega)), u (320230 + 183 * k + 33 + 5 * j) (by omega), u (320230 + 183 * k + 33 + 5 * j + 1) (by omega), u (320230 + 183 * k + 33 + 5 * j + 2) (by omega), u (320230 + 183 * k + 33 + 5 * j + 3) (by omega), u (320230 + 183 * k + 33 + 5 * j + 4) (by omega), u (130 + 645 * Nn m (320230 + 183 * k + 33 + 5 * j) + 3) (by omega), u (130 + 645 * Nn m (320230 + 183 * k + 33 + 5 * j) + 4) (by omega)]
    exact v7 j hj
  rw [hc] at S1 V1
  obtain ⟨S2, V2⟩ := md_rm K S V I Fm (by omega) (fun y hy => u y (by omega)) S1 V1
  refine ⟨h1, ?_, Fm, S2, V2, MI.mch I hk (fun y hy => u y (by omega)) (fun k2 hk2 => ?_)⟩
  · unfold MX7_work_127
    simp only [ZL]
    rw [gg_t cS.1, cV.2.2.2.2.2.1, ← hh1, lt_eq]
  · obtain ⟨a0, a1, a2, a3, a4⟩ := I.2.2.2.1 k2 hk2
    have l30' := (a3.eq (by omega)).2
    refine ⟨fun i hi => (a0 i hi).c (u _ (by omega)), a1.c (u _ (by omega)), a2.c (u _ (by omega)), a3.c (u _ (by omega)), fun j hj => ?_⟩
    rw [Nn.c (u (320230 + 183 * k2 + 29) (by omega))] at hj
    obtain ⟨c1, c2, c3', c4, c5, c6, c7, c8⟩ := a4 j hj
    have vb := c2.1
    have o : ∀ y, y < 5 → waM m k (320230 + 183 * k2 + 33 + 5 * j + y) = m (320230 + 183 * k2 + 33 + 5 * j + y) := fun y hy => u _ (by rcases Nat.lt_trichotomy k2 k with z | z | z <;> omega)
    have e0 : waM m k (320230 + 183 * k2 + 33 + 5 * j) = m (320230 + 183 * k2 + 33 + 5 * j) := o 0 (by omega)
    have n3 : Nn (waM m k) 3 = Nn m 3 := Nn.c (u 3 (by omega))
    rw [Nn.c e0, Nn.c (o 1 (by omega)), Nn.c (o 2 (by omega)), o 1 (by omega), o 4 (by omega), u (130 + 645 * Nn m (320230 + 183 * k2 + 33 + 5 * j) + 2) (by omega), u (130 + 645 * Nn m (320230 + 183 * k2 + 33 + 5 * j) + 3) (by omega), Nn.c (u (130 + 645 * Nn m (320230 + 183 * k2 + 33 + 5 * j) + 4) (by omega)), n3, e0]
    refine ⟨c1.c e0, c2.c (u _ (by omega)) (fun _ => u _ (by omega)), c3'.c (o 1 (by omega)), c4.c (o 2 (by omega)), c5.c (o 3 (by omega)), c6.c (o 4 (by omega)), c7, fun hf => ?_⟩
    obtain ⟨d1, d2, d3, d4⟩ := c8 hf
    refine ⟨d1, d2, d3, fun k' hk' i hi h4 h0 => ?_⟩
    have l30'' := ((I.2.2.2.1 k' hk').2.2.2.1.eq (by omega)).2
    rw [Nn.c (u (320230 + 183 * k' + 29) (by omega))] at hi
    rw [u _ (by omega)] at h4 h0
    exact d4 k' hk' i hi h4 h0
end
