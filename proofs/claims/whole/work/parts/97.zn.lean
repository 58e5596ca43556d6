/-! all of a room is taken: the steps -/
def Oz (tg : Nat → List Nat) (h h' : Hp) (r x F : Nat) : Prop := (∀ b, b ≤ sz h → (b = 0 ∨ ∀ j, ¬ [j, F, x] <:+ tg b) → b ≠ gP h r F → sm h h' b) ∧ gP h' r = gP h r
def RB (h : Hp) (r : Nat) (m : Nat → Int32) : Prop := gI h r 0 = m 0 ∧ gI h r 7 = m 1 ∧ gI h r 3 = m 2 ∧ gI h r 9 = m 3 ∧ gI h r 11 = m 4 ∧ (∀ i, i < 54 → gI h (gP h r 1) i = m (16 + i)) ∧ (∀ s, s < Nn m 1 → gI h (gP h r 6) s = m (110 + s)) ∧ ∀ i, i < Nn m 7 → ∀ k, k < 4 → gI h (gP h r 12) ((Nn m 0 - Nn m 7 + i) % 8 * 4 + k) = m (337180 + 5 * i + 1 + k) ∧ gI h (gP h r 13) ((Nn m 0 - Nn m 7 + i) % 8 * 4 + k) = lastS m (nI k) (nI (Nn m 0 - Nn m 7 + i + 1)) (Nn m 4)
def VP (h : Hp) (r : Nat) (m : Nat → Int32) (q : Nat) : Prop := gP h (gP h r 5) q ≠ 0 ∧ PtV h (gP h (gP h r 5) q) m q
def VM (h : Hp) (r : Nat) (m : Nat → Int32) (k : Nat) : Prop := gP h (gP h r 8) k ≠ 0 ∧ MaV h (gP h (gP h r 8) k) m k
def VL (h : Hp) (r : Nat) (m : Nat → Int32) (s : Nat) : Prop := gP h (gP h r 10) s ≠ 0 ∧ SlV h (gP h (gP h r 10) s) m (64630 + 852 * s)
def VY (h : Hp) (r : Nat) (m : Nat → Int32) (y : Nat) : Prop := gP h (gP h r 2) y ≠ 0 ∧ StyV h (gP h (gP h r 2) y) m (320962 + 562 * y)
/-- dest and source -/
def TKS (tg : Nat → List Nat) (g : Hp) (r x q y : Nat) (m : Nat → Int32) : Prop := Rt tg g r x ∧ r ≤ sz g ∧ 109 ≤ sz g ∧ RmS g r ∧ Rt tg g q y ∧ q ≤ sz g ∧ RmS g q ∧ RmV g q m ∧ y ≠ x
def TkSt (tg : Nat → List Nat) (g : Hp) (tg' : Nat → List Nat) (g' : Hp) (r x F j : Nat) : Prop := Rx tg g tg' g' (fun z => z = x) ∧ cst g' + rmP g' r ≤ cst g + rmP g r ∧ Of tg g g' r x F j ∧ RmS g' r
section
variable {tg tg' tg1 tg2 : Nat → List Nat} {h h' h1 g g' : Hp} {m : Nat → Int32} {D : Nat → Prop} {r x F j c p q y n i : Nat}
theorem rv_split : RmV h r m ↔ RB h r m ∧ (∀ q, vP m q → VP h r m q) ∧ (∀ k, k < Nn m 3 → VM h r m k) ∧ (∀ s, s < Nn m 4 → VL h r m s) ∧ ∀ y, y < Nn m 2 → VY h r m y := by
  unfold RmV RB VP VM VL VY
  exact ⟨fun ⟨a1, a2, a3, a4, a5, a6, a7, c1, c2, c3, c4, d⟩ => ⟨⟨a1, a2, a3, a4, a5, a6, a7, d⟩, c1, c2, c3, c4⟩, fun ⟨⟨a1, a2, a3, a4, a5, a6, a7, d⟩, c1, c2, c3, c4⟩ => ⟨a1, a2, a3, a4, a5, a6, a7, c1, c2, c3, c4, d⟩⟩
theorem RB.of (K : Rt tg g r x) (hr : r ≤ sz g) (Z : Of tg g g' r x F j) (hA : gP g r F ≠ 0) (hF : F ≠ 1 ∧ F ≠ 6 ∧ F ≠ 12 ∧ F ≠ 13) (B : RB g r m) : RB g' r m := by
  obtain ⟨s0, s1, -⟩ := Z.cells K hr hA
  unfold RB
  rw [s0.2.2.2, s0.2.2.1, (s1 1 (Ne.symm hF.1)).2.2.1, (s1 6 (Ne.symm hF.2.1)).2.2.1, (s1 12 (Ne.symm hF.2.2.1)).2.2.1, (s1 13 (Ne.symm hF.2.2.2)).2.2.1]
  exact B
theorem VP.of (K : Rt tg g r x) (hr : r ≤ sz g) (Z : Of tg g g' r x F j) (hA : gP g r F ≠ 0) (hn : ¬ (5 = F ∧ i = j)) (V : VP g r m i) : VP g' r m i := by
  obtain ⟨s0, -, s2⟩ := Z.cells K hr hA
  obtain ⟨w1, w2, w3⟩ := s2 5 i hn
  unfold VP
  rw [s0.2.2.2, w1]
  exact ⟨V.1, V.2.congr w2 w3⟩
theorem VM.of (K : Rt tg g r x) (hr : r ≤ sz g) (Z : Of tg g g' r x F j) (hA : gP g r F ≠ 0) (hn : ¬ (8 = F ∧ i = j)) (V : VM g r m i) : VM g' r m i := by
  obtain ⟨s0, -, s2⟩ := Z.cells K hr hA
  obtain ⟨w1, w2, w3⟩ := s2 8 i hn
  unfold VM
  rw [s0.2.2.2, w1]
  exact ⟨V.1, V.2.congr w2 w3⟩
theorem VL.of (K : Rt tg g r x) (hr : r ≤ sz g) (Z : Of tg g g' r x F j) (hA : gP g r F ≠ 0) (hn : ¬ (10 = F ∧ i = j)) (V : VL g r m i) : VL g' r m i := by
  obtain ⟨s0, -, s2⟩ := Z.cells K hr hA
  obtain ⟨w1, w2, w3⟩ := s2 10 i hn
  unfold VL
  rw [s0.2.2.2, w1]
  exact ⟨V.1, V.2.congr w2 w3⟩
theorem VY.of (K : Rt tg g r x) (hr : r ≤ sz g) (Z : Of tg g g' r x F j) (hA : gP g r F ≠ 0) (hn : ¬ (2 = F ∧ i = j)) (V : VY g r m i) : VY g' r m i := by
  obtain ⟨s0, -, s2⟩ := Z.cells K hr hA
  obtain ⟨w1, w2, w3⟩ := s2 2 i hn
  unfold VY
  rw [s0.2.2.2, w1]
  exact ⟨V.1, V.2.congr w2 w3⟩
theorem TKS.next (T : TKS tg g r x q y m) (Z : Rx tg g tg' g' (fun z => z = x)) (S' : RmS g' r) : TKS tg' g' r x q y m := by
  obtain ⟨t1, t2, t3, t4, t5, t6, t7, t8, t9⟩ := T
  have s := rx_sm3 Z t5 t6 t9
  have := Z.2.1
  exact ⟨Z.rt t1 t2 t3, by omega, by omega, S', Z.rt t5 t6 t3, by omega, t7.congr s, t8.congr s, t9⟩
/-- own one, then a copy into it -/
theorem stp_cp (T : TKS tg g r x q y m) (hF : F ≠ 4 ∧ F ≠ 14) (hA : gP g r F ≠ 0) (W : OW tg g tg1 h1 r x F j c) (C : Fr (fun b => b = c ∨ ∃ k, gP h1 c k ≠ 0 ∧ b = gP h1 c k) h1 g') (sh : (F = 5 → PtS g' c) ∧ (F = 2 → StyS g' c) ∧ (F = 8 → MaS g' c) ∧ (F = 10 → SlS g' c)) : TkSt tg g tg1 g' r x F j ∧ gP g' (gP g' r F) j = c := by
  obtain ⟨t1, t2, t3, t4, t5, t6, t7, t8, t9⟩ := T
  obtain ⟨w1, w2, w3, w4, w5, w6⟩ := W
  have K1 := w1.rt t1 t2 t3
  have hr1 : r ≤ sz h1 := by have := w1.2.1; omega
  have eP : gP h1 r = gP g r := w3.2.1
  have hA1 : gP h1 r F ≠ 0 := by rw [eP]; exact hA
  rw [← eP] at w5
  have tc := K1.o (k := F) (j := j) (by rw [← w5]; exact w6)
  rw [← w5] at tc
  have c3 : c ≠ 3 := by rw [w5]; exact K1.o3
  have hD : ∀ b, (b = c ∨ ∃ k, gP h1 c k ≠ 0 ∧ b = gP h1 c k) → b ≠ 0 ∧ [j, F, x] <:+ tg1 b := fun b hb => by
    rcases hb with hb | ⟨k, hk, hb⟩
    · rw [hb]; exact ⟨w6, by rw [tc]; exact List.suffix_refl _⟩
    · rw [hb]; exact ⟨hk, by rw [tgc K1.1 hk c3, tc]; exact List.suffix_append [k] _⟩
  have Z2 := Of.fr K1 C hA1 hD
  have eP' : gP g' = gP h1 := C.2.2.1
  have ec : gP g' (gP g' r F) j = c := by rw [eP']; exact w5.symm
  have ec2 : gP g' (gP h1 r F) j = c := by rw [eP']; exact w5.symm
  refine ⟨⟨w1.trans (Rx.fr K1.1 C (fun b hb => ⟨(hD b hb).1, x, rfl, (List.suffix_append [j, F] [x]).trans (hD b hb).2⟩)), ?_, w3.trans Z2 w1.2.1 (fun z hz => (w1.2.2.1 z hz).1), w4.ob K1 hr1 hF Z2 hA1 (by rw [ec2]; exact sh)⟩, ec⟩
  rw [(rmP_fr C).1, (rmP_fr (r := r) C).2]
  exact w2
theorem stp2 (T : TKS tg g r x q y m) (I : MI m) (hj : j < Nn m 2) (e3 : gI g r 3 = m 2) : ∃ tg' g', BX7_takeAll_114 g r q (nI j) = some (.inl (nI (j + 1), g')) ∧ TkSt tg g tg' g' r x 2 j ∧ VY g' r m j := by
  obtain ⟨t1, t2, t3, t4, t5, t6, t7, t8, t9⟩ := id T
  obtain ⟨-, -, ⟨b2, b2'⟩, -⟩ := I.1.f
  have hA := t4.2.2.1.1
  obtain ⟨tg1, h1, c, k1, W⟩ := own2 t1 t2 t3 t4 (by omega : j < 10)
  have T1 := T.next W.1 W.2.2.2.1
  obtain ⟨u1, u2, u3, u4, u5, u6, u7, u8, u9⟩ := id T1
  obtain ⟨-, -, w3, -, w5, w6⟩ := id W
  have eP : gP h1 r = gP g r := w3.2.1
  obtain ⟨d0, dV⟩ := u8.2.2.2.2.2.2.2.2.2.2.1 j hj
  obtain ⟨d, hd⟩ : ∃ d, d = gP h1 (gP h1 q 2) j := ⟨_, rfl⟩
  have kd2 := c_ownStyle u7 (by omega : j < 10) d0
  have dS := u7.2.2.2.2.2.2.2.2.2.2.2.2.2.2.2.2.2.1 j d0
  have td := u5.o d0
  have d3 : gP h1 (gP h1 q 2) j ≠ 3 := u5.o3
  rw [← hd] at d0 dV kd2 dS td d3
  have cc : c = gP h1 (gP h1 r 2) j := by rw [eP]; exact w5
  have cS : StyS h1 c := by rw [cc]; exact u4.2.2.2.2.2.2.2.2.2.2.2.2.2.2.2.2.2.1 j (by rw [← cc]; exact w6)
  have tc := u1.o (k := 2) (j := j) (by rw [← cc]; exact w6)
  rw [← cc] at tc
  have A := AP.of u1.1 w6 (by rw [cc]; exact u1.o3) d3 tc td (by intro z; exact t9 (by simpa using z.symm)) (fun k z => by simpa using congrArg List.length z) (fun k z => by simpa using congrArg List.length z)
  obtain ⟨g', y1, C⟩ := c_cpSty A cS dS
  obtain ⟨sS, sV⟩ := cy_sty (m := m) (Y := 320962 + 562 * j) A cS C
  obtain ⟨P1, P2⟩ := stp_cp T (F := 2) (by omega) hA W C.1 ⟨fun z => by omega, fun _ => sS, fun z => by omega, fun z => by omega⟩
  refine ⟨tg1, g', ?_, P1, ?_⟩
  · unfold BX7_takeAll_114
    rw [gg_t t4.1, e3, b2, if_neg (nI_ge hj (by omega)), k1, b2_some, gg_t u7.1, kd2, b2_some, gg_t cS.1, y1, ob_some]
    simp only [ZL, nAdd]
  · unfold VY
    rw [P2]
    exact ⟨w6, sV dV (I.2.2.2.2.2.1 j hj)⟩
theorem stp8 (T : TKS tg g r x q y m) (I : MI m) (hj : j < Nn m 3) (e3 : gI g r 9 = m 3) : ∃ tg' g', BX7_takeAll_143 g r q (nI j) = some (.inl (nI (j + 1), g')) ∧ TkSt tg g tg' g' r x 8 j ∧ VM g' r m j := by
  obtain ⟨t1, t2, t3, t4, t5, t6, t7, t8, t9⟩ := id T
  obtain ⟨-, -, -, ⟨b2, b2'⟩, -⟩ := I.1.f
  have hA := t4.2.2.2.2.2.1.1
  obtain ⟨tg1, h1, c, k1, W⟩ := own8 t1 t2 t3 t4 (by omega : j < 4)
  have T1 := T.next W.1 W.2.2.2.1
  obtain ⟨u1, u2, u3, u4, u5, u6, u7, u8, u9⟩ := id T1
  obtain ⟨-, -, w3, -, w5, w6⟩ := id W
  have eP : gP h1 r = gP g r := w3.2.1
  obtain ⟨d0, dV⟩ := u8.2.2.2.2.2.2.2.2.1 j hj
  obtain ⟨d, hd⟩ : ∃ d, d = gP h1 (gP h1 q 8) j := ⟨_, rfl⟩
  have kd2 := c_ownMachine u7 (by omega : j < 4) d0
  have dS := u7.2.2.2.2.2.2.2.2.2.2.2.2.2.2.2.2.2.2.1 j d0
  have td := u5.o d0
  have d3 : gP h1 (gP h1 q 8) j ≠ 3 := u5.o3
  rw [← hd] at d0 dV kd2 dS td d3
  have cc : c = gP h1 (gP h1 r 8) j := by rw [eP]; exact w5
  have cS : MaS h1 c := by rw [cc]; exact u4.2.2.2.2.2.2.2.2.2.2.2.2.2.2.2.2.2.2.1 j (by rw [← cc]; exact w6)
  have tc := u1.o (k := 8) (j := j) (by rw [← cc]; exact w6)
  rw [← cc] at tc
  have A := AP.of u1.1 w6 (by rw [cc]; exact u1.o3) d3 tc td (by intro z; exact t9 (by simpa using z.symm)) (fun k z => by simpa using congrArg List.length z) (fun k z => by simpa using congrArg List.length z)
  obtain ⟨g', y1, C⟩ := c_cpMa A cS dS
  obtain ⟨sS, sV⟩ := cy_ma (m := m) (k := j) A cS dS C
  obtain ⟨P1, P2⟩ := stp_cp T (F := 8) (by omega) hA W C.1 ⟨fun z => by omega, fun z => by omega, fun _ => sS, fun z => by omega⟩
  refine ⟨tg1, g', ?_, P1, ?_⟩
  · unfold BX7_takeAll_143
    rw [gg_t t4.1, e3, b2, if_neg (nI_ge hj (by omega)), k1, b2_some, gg_t u7.1, kd2, b2_some, gg_t cS.1, y1, ob_some]
    simp only [ZL, nAdd]
  · unfold VM
    rw [P2]
    exact ⟨w6, sV dV (I.2.2.2.1 j hj).2.2.2.1⟩
theorem stp5 (T : TKS tg g r x q y m) (I : MI m) (hj : j < 100) : ∃ tg' g', BX7_takeAll_201 g r q (nI j) = some (.inl (nI (j + 1), g')) ∧ TkSt tg g tg' g' r x 5 j ∧ (vP m j → VP g' r m j) := by
  obtain ⟨t1, t2, t3, t4, t5, t6, t7, t8, t9⟩ := id T
  obtain ⟨hA, hA1, hA2⟩ := t4.2.2.2.1
  by_cases vq : vP m j
  · obtain ⟨d', hd', ed, -, -, -⟩ := c_findPart_t t7 t8 I.1 vq
    obtain ⟨tg1, h1, c, k1, W⟩ := own5 t1 t2 t3 t4 (by omega : j < 100)
    have T1 := T.next W.1 W.2.2.2.1
    obtain ⟨u1, u2, u3, u4, u5, u6, u7, u8, u9⟩ := id T1
    obtain ⟨w1, -, w3, -, w5, w6⟩ := id W
    have eP : gP h1 r = gP g r := w3.2.1
    have sq := rx_sm3 w1 t5 t6 t9
    have dd : d' = gP h1 (gP h1 q 5) j := by rw [sq.1.2.2.2, (sq.2.1 5).2.2.2]; exact hd'
    obtain ⟨d0, dV⟩ := u8.2.2.2.2.2.2.2.1 j vq
    have dS := u7.2.2.2.2.2.2.2.2.2.2.2.2.2.2.2.2.1 j d0
    have td := u5.o d0
    have d3 : gP h1 (gP h1 q 5) j ≠ 3 := u5.o3
    rw [← dd] at d0 dV dS td d3
    have cc : c = gP h1 (gP h1 r 5) j := by rw [eP]; exact w5
    have cS : PtS h1 c := by rw [cc]; exact u4.2.2.2.2.2.2.2.2.2.2.2.2.2.2.2.2.1 j (by rw [← cc]; exact w6)
    have tc := u1.o (k := 5) (j := j) (by rw [← cc]; exact w6)
    rw [← cc] at tc
    have A := AP.of u1.1 w6 (by rw [cc]; exact u1.o3) d3 tc td (by intro z; exact t9 (by simpa using z.symm)) (fun k z => by simpa using congrArg List.length z) (fun k z => by simpa using congrArg List.length z)
    obtain ⟨g', y1, C⟩ := c_cpPt A cS dS
    obtain ⟨sS, sV⟩ := cy_pt (m := m) (x := j) A cS dS C
    obtain ⟨P1, P2⟩ := stp_cp T (F := 5) (by omega) hA W C.1 ⟨fun _ => sS, fun z => by omega, fun z => by omega, fun z => by omega⟩
    refine ⟨tg1, g', ?_, P1, fun _ => ?_⟩
    · unfold BX7_takeAll_201
      rw [gg_t t4.1, gg_t hA1, hA2, if_neg (nI_ge hj (by omega)), gg_t t7.1, ed, ob_some, if_neg d0, k1, b2_some, gg_t cS.1, y1, ob_some]
      simp only [ZL, nAdd]
    · unfold VP
      rw [P2]
      exact ⟨w6, sV dV (I.2.1 j vq)⟩
  · have ed := c_findPart_f t7 t8 I.1 (v := nI j) (fun q' hq' e => by
      have b := hq'.1
      rw [nEq (by omega) (by omega)] at e
      exact vq (by rw [e]; exact hq'))
    refine ⟨tg, g, ?_, ⟨Rx.rfl t1.1, Nat.le_refl _, Of.rfl, t4⟩, fun z => absurd z vq⟩
    unfold BX7_takeAll_201
    rw [gg_t t4.1, gg_t hA1, hA2, if_neg (nI_ge hj (by omega)), gg_t t7.1, ed, ob_some, if_pos rfl]
    simp only [ZL, nAdd]
theorem stp10 (T : TKS tg g r x q y m) (I : MI m) (hj : j < Nn m 4) (e3 : gI g r 11 = m 4) : ∃ tg' g', BX7_takeAll_172 g r q (nI j) = some (.inl (nI (j + 1), g')) ∧ TkSt tg g tg' g' r x 10 j ∧ VL g' r m j := by
  obtain ⟨t1, t2, t3, t4, t5, t6, t7, t8, t9⟩ := id T
  obtain ⟨-, -, -, -, ⟨b2, b2'⟩, -⟩ := I.1.f
  have hA := t4.2.2.2.2.2.2.1.1
  obtain ⟨tg1, h1, c, k1, W⟩ := own10 t1 t2 t3 t4 (by omega : j < 300)
  have T1 := T.next W.1 W.2.2.2.1
  obtain ⟨u1, u2, u3, u4, u5, u6, u7, u8, u9⟩ := id T1
  obtain ⟨w1, w2, w3, -, w5, w6⟩ := id W
  have eP : gP h1 r = gP g r := w3.2.1
  obtain ⟨d0, dV⟩ := u8.2.2.2.2.2.2.2.2.2.1 j hj
  obtain ⟨d, hd⟩ : ∃ d, d = gP h1 (gP h1 q 10) j := ⟨_, rfl⟩
  have kd2 := c_ownSlug u7 (by omega : j < 300) d0
  have dS := u7.2.2.2.2.2.2.2.2.2.2.2.2.2.2.2.2.2.2.2 j d0
  have td := u5.o d0
  have d3 : gP h1 (gP h1 q 10) j ≠ 3 := u5.o3
  have dsz : gP h1 (gP h1 q 10) j ≤ sz h1 := u5.1.2.2.2.2.2 _ _
  rw [← hd] at d0 dV kd2 dS td d3 dsz
  have cc : c = gP h1 (gP h1 r 10) j := by rw [eP]; exact w5
  have kc : kd h1 c = 7 := by rw [cc]; exact (u4.2.2.2.2.2.2.2.2.2.2.2.2.2.2.2.2.2.2.2 j (by rw [← cc]; exact w6)).1
  have hA1 : gP h1 r 10 ≠ 0 := by rw [eP]; exact hA
  have tA := u1.a hA1
  have nyx : ¬ [j, 10, x] <:+ [j, 10, y] := fun z => t9 (suf1 ((List.suffix_append [j, 10] [x]).trans z) (List.suffix_append [j, 10] [y])).symm
  have nyk : ∀ k, ¬ [j, 10, x] <:+ k :: [j, 10, y] := fun k z => t9 (suf1 ((List.suffix_append [j, 10] [x]).trans z) (List.suffix_append [k, j, 10] [y])).symm
  obtain ⟨tg2, g', y1, y2, y3, y4, y5, y6, y7⟩ := c_cpSl u1 u2 u3 u4 (by omega : j < 300) cc w6 dS dV (I.2.2.1 j hj).2.2.2.2.2.2.2.2.2.2.2.1 (I.2.2.2.2.2.2.2.2 j hj) dsz d3 td nyx nyk (fun k z => by simpa using congrArg List.length z) (fun e => by
    rw [e, tA] at td
    have := congrArg List.length td
    simp at this) (fun k e => by
    have := tgc u1.1 (j := k) (a := d) (by rw [e]; exact hA1) d3
    rw [e, tA, td] at this
    have := congrArg List.length this
    simp at this)
  have eP2 : gP g' r = gP h1 r := y4.2.1
  have ec : gP g' (gP g' r 10) j = c := by rw [eP2]; exact y7
  refine ⟨tg2, g', ?_, ⟨w1.trans y2, Nat.le_trans y3 w2, w3.trans y4 w1.2.1 (fun z hz => (w1.2.2.1 z hz).1), u4.ob u1 u2 (by omega) y4 hA1 ⟨fun z => by omega, fun z => by omega, fun z => by omega, fun _ => by rw [y7]; exact y5⟩⟩, ?_⟩
  · unfold BX7_takeAll_172
    rw [gg_t t4.1, e3, b2, if_neg (nI_ge hj (by omega)), k1, b2_some, gg_t u7.1, kd2, b2_some, gg_t kc, y1, ob_some]
    simp only [ZL, nAdd]
  · unfold VL
    rw [ec]
    exact ⟨w6, y6⟩
end
