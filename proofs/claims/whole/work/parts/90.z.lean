/-! conditions as the memory tells them -/
theorem encR_hd {o : Op} (ok : okOp o) : ∃ l, encR o = o.1 :: l := by
  obtain ⟨o1, o2, o3⟩ := o
  unfold encR
  by_cases z1 : o1 = 1
  · subst z1; exact ⟨_, rfl⟩
  · by_cases z2 : o1 = 2
    · subst z2; exact ⟨_, rfl⟩
    · by_cases z3 : o1 = 3
      · subst z3; exact ⟨_, rfl⟩
      · exact ⟨[], by simp only [z1, z2, z3, if_false]⟩
theorem stp_c {F : Nat → Int32} {o o' : Op} (h1 : o.1 = o'.1) (h2 : opV F o = opV F o') (s : Nat × (Nat → Bool)) : stp F s o = stp F s o' := by
  unfold stp
  rw [h1, h2]
theorem stp_d {F : Nat → Int32} {o o' : Op} (h1 : o.1 = o'.1) (h2 : ¬ o.1 ≤ 3) (s : Nat × (Nat → Bool)) : stp F s o = stp F s o' := by
  unfold stp
  rw [if_neg h2, ← h1, if_neg h2]
theorem encR_1 {o : Op} (z : o.1 = 1) : encR o = [1, o.2.1] := by unfold encR; rw [if_pos z]
theorem encR_2 {o : Op} (z : o.1 = 2) : encR o = [2, o.2.1, o.2.2] := by unfold encR; rw [if_neg (by omega), if_pos z]
theorem encR_3 {o : Op} (z : o.1 = 3) : encR o = [3, o.2.1, o.2.2] := by unfold encR; rw [if_neg (by omega), if_neg (by omega), if_pos z]
theorem encR_4 {o : Op} (z : ¬ o.1 ≤ 3) : encR o = [o.1] := by unfold encR; rw [if_neg (by omega), if_neg (by omega), if_neg (by omega)]
theorem opV_1 {F : Nat → Int32} {o : Op} (z : o.1 = 1) : opV F o = decide (nI 0 < F o.2.1) := by unfold opV; rw [if_pos z]
theorem opV_2 {F : Nat → Int32} {o : Op} (z : o.1 = 2) : opV F o = decide (F (3 + o.2.1) < nI o.2.2) := by unfold opV; rw [if_neg (by omega), if_pos z]
theorem opV_3 {F : Nat → Int32} {o : Op} (z : o.1 = 3) : opV F o = decide (nI o.2.2 < F (3 + o.2.1)) := by unfold opV; rw [if_neg (by omega), if_neg (by omega)]
theorem encR_inj {F : Nat → Int32} {o o' : Op} {l l' : List Nat} (ok : okOp o) (ok' : okOp o') (h : encR o ++ l = encR o' ++ l') : (∀ s, stp F s o = stp F s o') ∧ l = l' := by
  obtain ⟨a, ha⟩ := encR_hd ok
  obtain ⟨b, hb⟩ := encR_hd ok'
  have h1 : o.1 = o'.1 := by
    have h2 := h
    rw [ha, hb] at h2
    exact (List.cons.inj h2).1
  by_cases z1 : o.1 = 1
  · have z1' : o'.1 = 1 := by omega
    rw [encR_1 z1, encR_1 z1'] at h
    obtain ⟨h3, h4⟩ := List.cons.inj (List.cons.inj h).2
    exact ⟨stp_c h1 (by rw [opV_1 z1, opV_1 z1', h3]), h4⟩
  · by_cases z2 : o.1 = 2
    · have z2' : o'.1 = 2 := by omega
      rw [encR_2 z2, encR_2 z2'] at h
      obtain ⟨h3, h4⟩ := List.cons.inj (List.cons.inj h).2
      obtain ⟨h5, h6⟩ := List.cons.inj h4
      exact ⟨stp_c h1 (by rw [opV_2 z2, opV_2 z2', h3, h5]), h6⟩
    · by_cases z3 : o.1 = 3
      · have z3' : o'.1 = 3 := by omega
        rw [encR_3 z3, encR_3 z3'] at h
        obtain ⟨h3, h4⟩ := List.cons.inj (List.cons.inj h).2
        obtain ⟨h5, h6⟩ := List.cons.inj h4
        exact ⟨stp_c h1 (by rw [opV_3 z3, opV_3 z3', h3, h5]), h6⟩
      · have z4 : ¬ o.1 ≤ 3 := by
          rcases ok with ⟨q, -⟩ | ⟨q, -, -⟩ | q | q | q <;> omega
        rw [encR_4 z4, encR_4 (by rw [← h1]; exact z4)] at h
        exact ⟨stp_d h1 z4, (List.cons.inj h).2⟩
theorem encR_ne {o : Op} (ok : okOp o) {l : List Nat} : encR o ++ l ≠ [] := by
  obtain ⟨a, ha⟩ := encR_hd ok
  rw [ha]
  simp
theorem evL_eq {F : Nat → Int32} : ∀ (a b : List Op) (s : Nat × (Nat → Bool)), (∀ o ∈ a, okOp o) → (∀ o ∈ b, okOp o) → a.flatMap encR = b.flatMap encR → evL F a s = evL F b s ∧ (a = [] ↔ b = [])
  | [], [], s, _, _, _ => ⟨rfl, Iff.rfl⟩
  | [], o :: l, s, _, h2, h => absurd h.symm (encR_ne (h2 o List.mem_cons_self))
  | o :: l, [], s, h1, _, h => absurd h (encR_ne (h1 o List.mem_cons_self))
  | o :: l, o' :: l', s, h1, h2, h => by
    obtain ⟨e1, e2⟩ := encR_inj (F := F) (h1 o List.mem_cons_self) (h2 o' List.mem_cons_self) (show encR o ++ l.flatMap encR = encR o' ++ l'.flatMap encR from h)
    refine ⟨?_, by simp⟩
    show evL F l (stp F s o) = evL F l' (stp F s o')
    rw [e1]
    exact (evL_eq l l' _ (fun x hx => h1 x (List.mem_cons_of_mem _ hx)) (fun x hx => h2 x (List.mem_cons_of_mem _ hx)) e2).1
theorem hB_eq {F : Nat → Int32} {a b : List Op} (h1 : ∀ o ∈ a, okOp o) (h2 : ∀ o ∈ b, okOp o) (h : a.flatMap encR = b.flatMap encR) : hB F a = hB F b := by
  obtain ⟨e1, e2⟩ := evL_eq (F := F) a b (0, fun _ => false) h1 h2 h
  cases a with
  | nil => rw [e2.mp rfl]
  | cons o l =>
    cases b with
    | nil => exact absurd (e2.mpr rfl) (by simp)
    | cons o' l' => exact congrArg (fun s => s.2 0) e1
theorem encR_le {o : Op} (ok : okOp o) : ∀ x ∈ encR o, x ≤ 9999 := by
  obtain ⟨o1, o2, o3⟩ := o
  intro x hx
  unfold encR at hx
  rcases ok with ⟨q1, q2⟩ | ⟨q1, q2, q3⟩ | q | q | q
  · have q1 : o1 = 1 := q1
    have q2 : o2 < 3 := q2
    subst q1
    have hx : x ∈ [1, o2] := hx
    simp at hx
    omega
  · have q2 : o2 < 6 := q2
    have q3 : o3 ≤ 9999 := q3
    rcases q1 with q1 | q1
    · have q1 : o1 = 2 := q1
      subst q1
      have hx : x ∈ [2, o2, o3] := hx
      simp at hx
      omega
    · have q1 : o1 = 3 := q1
      subst q1
      have hx : x ∈ [3, o2, o3] := hx
      simp at hx
      omega
  · have q : o1 = 4 := q
    subst q
    have hx : x ∈ [4] := hx
    simp at hx
    omega
  · have q : o1 = 5 := q
    subst q
    have hx : x ∈ [5] := hx
    simp at hx
    omega
  · have q : o1 = 6 := q
    subst q
    have hx : x ∈ [6] := hx
    simp at hx
    omega
theorem getD_le {l : List Nat} (h : ∀ x ∈ l, x ≤ 9999) (j : Nat) : l.getD j 0 ≤ 9999 := by
  rw [List.getD_eq_getElem?_getD]
  cases hj : l[j]? with
  | none => exact Nat.zero_le _
  | some x => exact h x (List.mem_of_getElem? hj)
theorem EncR.inj {m : Nat → Int32} {Y r : Nat} {a b : List Op} (A : EncR m Y r a) (B : EncR m Y r b) : a.flatMap encR = b.flatMap encR := by
  obtain ⟨a1, -, fa, a2, a3, a4, a5⟩ := A
  obtain ⟨b1, -, fb, b2, b3, b4, b5⟩ := B
  have e1 : fa = fb := by rw [a3] at b3; exact (nI_eq (by omega) (by omega)).mp b3
  have e2 : (a.flatMap encR).length = (b.flatMap encR).length := by rw [a4] at b4; exact (nI_eq (by omega) (by omega)).mp b4
  subst e1
  have la : ∀ x ∈ a.flatMap encR, x ≤ 9999 := fun x hx => by
    obtain ⟨o, h1, h2⟩ := List.mem_flatMap.mp hx
    exact encR_le (a1 o h1) x h2
  have lb : ∀ x ∈ b.flatMap encR, x ≤ 9999 := fun x hx => by
    obtain ⟨o, h1, h2⟩ := List.mem_flatMap.mp hx
    exact encR_le (b1 o h1) x h2
  refine List.ext_getElem e2 (fun j h1 h2 => ?_)
  have q1 := a5 j h1
  have q2 := b5 j h2
  rw [q1] at q2
  have q3 := (nI_eq (by have := getD_le la j; omega) (by have := getD_le lb j; omega)).mp q2
  rw [List.getD_eq_getElem?_getD, List.getD_eq_getElem?_getD, List.getElem?_eq_getElem h1, List.getElem?_eq_getElem h2] at q3
  exact q3
noncomputable def cdM (m : Nat → Int32) (Y r : Nat) : List Op := @dite _ (∃ ops, EncR m Y r ops) (Classical.propDecidable _) (fun h => Classical.choose h) (fun _ => [])
noncomputable def hM (m : Nat → Int32) (Y : Nat) (F : Nat → Int32) (r : Nat) : Bool := hB F (cdM m Y r)
theorem cdM_E {m : Nat → Int32} {Y r : Nat} {ops : List Op} (E : EncR m Y r ops) : EncR m Y r (cdM m Y r) := by
  have h : ∃ ops, EncR m Y r ops := ⟨ops, E⟩
  unfold cdM
  rw [dif_pos h]
  exact Classical.choose_spec h
theorem hM_eq {m : Nat → Int32} {Y r : Nat} {F : Nat → Int32} {ops : List Op} (E : EncR m Y r ops) : hB F ops = hM m Y F r := hB_eq E.1 (cdM_E E).1 (E.inj (cdM_E E))
def yA (e : Nat) : Nat := 320962 + 562 * (e - 1)
/-- how many rules -/
def nR (m : Nat → Int32) (e : Nat) : Nat := if e = 0 then 0 else Nn m (yA e + 1)
/-- the last rule of a kind that holds -/
noncomputable def lrM (m : Nat → Int32) (e : Nat) (F : Nat → Int32) (w : Nat) : Nat := lrN (fun r => decide (m (yA e + 2 + 5 * r) = nI w) && hM m (yA e) F r) (nR m e)
def sdM (m : Nat → Int32) (e r i d : Nat) : Nat := if r = 0 then d else Nn m (yA e + 2 + 5 * (r - 1) + i)
/-- what a reading of rules asks of the memory -/
def MIw (m : Nat → Int32) : Prop := MIb m ∧ ∀ y, y < Nn m 2 → MIy m (320962 + 562 * y)
theorem MI.w {m : Nat → Int32} (I : MI m) : MIw m := ⟨I.1, I.2.2.2.2.2.1⟩
/-- the styles of the memory can be read -/
def StM (m : Nat → Int32) : Prop := ∀ y, y < Nn m 2 → ∀ r, r < Nn m (320962 + 562 * y + 1) → ∃ ops, EncR m (320962 + 562 * y) r ops
section
variable {h h1 h' : Hp} {F : Nat → Int32} {m : Nat → Int32} {r : Nat}
theorem RmV.stm (V : RmV h r m) : StM m := fun y hy r hr => by
  obtain ⟨-, -, -, -, -, -, -, -, -, -, c4, -⟩ := V
  obtain ⟨-, -, -, cd, ce, -, H⟩ := c4 y hy
  obtain ⟨-, -, -, -, -, -, -, ok, dp, fr, q1, q2, q3, q4⟩ := H r hr
  exact ⟨cd r, ok, dp, fr, q1, q2, q3, q4⟩
theorem nR_le (I : MIw m) {e : Nat} (he : e ≤ Nn m 2) : nR m e ≤ 12 := by
  unfold nR
  by_cases z : e = 0
  · rw [if_pos z]; omega
  · rw [if_neg z]
    exact ((I.2 (e - 1) (by omega)).2.1.eq (by omega)).2
theorem yA_s {e : Nat} (z : e ≠ 0) : yA e = 320962 + 562 * (e - 1) := rfl
/-- the last rule that holds, by the reference -/
theorem r_last {e w : Nat} (R : RS h) (em : gI h 74 = m) (f : RF h F) (I : MIw m) (Z : StM m) (he : e ≤ Nn m 2) (hw : w < 7) : ∃ h1, MX12_lastRule h 73 (stV e) (nI w) = some (lV (lrM m e F w), h1) ∧ Rg h h1 := by
  have b2 : Nn m 2 ≤ 10 := (I.1.f).2.2.1.2
  by_cases z : e = 0
  · subst z
    refine ⟨h, ?_, Rg.rfl⟩
    unfold MX12_lastRule MX12_lastRule_5
    refine it_done ?_
    show BX12_lastRule_5 h 73 (stV 0) (nI w) (-1) 0 = _
    unfold BX12_lastRule_5
    rw [if_pos (show stV 0 = -1 from rfl)]
    rfl
  · have nr := nR_le I he
    have n12 : Nn m (yA e + 1) ≤ 12 := by unfold nR at nr; rw [if_neg z] at nr; exact nr
    have eN : nR m e = Nn m (yA e + 1) := by unfold nR; rw [if_neg z]
    have ev : stV e = nI (yA e) := by unfold stV; rw [if_neg z]; rfl
    have yb : yA e + 562 < 337220 := by unfold yA; omega
    have ei : m (yA e + 1) = nI (Nn m (yA e + 1)) := ((I.2 (e - 1) (by omega)).2.1.eq (by omega)).1
    obtain ⟨y, hy⟩ : ∃ y, y = yA e := ⟨_, rfl⟩
    rw [← hy] at n12 eN ev yb ei
    have zr := Z (e - 1) (by omega)
    rw [show 320962 + 562 * (e - 1) = y from hy.symm] at zr
    obtain ⟨P, hP⟩ : ∃ P : Nat → Bool, P = fun r => decide (m (y + 2 + 5 * r) = nI w) && hM m y F r := ⟨_, rfl⟩
    have eL : lrM m e F w = lrN P (Nn m (y + 1)) := by unfold lrM; rw [eN, hP, ← hy]
    rw [eL, ev]
    unfold MX12_lastRule MX12_lastRule_5
    have K : ∃ r, it (fun q : Int32 × Int32 × Hp => BX12_lastRule_5 q.2.2 73 (nI y) (nI w) q.1 q.2.1) (-1, 0, h) = some r ∧ (r.1 = lV (lrN P (Nn m (y + 1))) ∧ Rg h r.2) := by
      refine it_cnt (fun j s => s.1 = lV (lrN P j) ∧ s.2.1 = nI j ∧ Rg h s.2.2) (Nn m (y + 1)) (fun j s hj p => ?_) (fun s p => ?_) ⟨rfl, rfl, Rg.rfl⟩
      · obtain ⟨a, b, g⟩ := s
        obtain ⟨p1, p2, G⟩ := p
        have p1 : a = lV (lrN P j) := p1
        have p2 : b = nI j := p2
        have G : Rg h g := G
        subst p1 p2
        have Rg1 := G.rk.rs R
        have emg : gI g 74 = m := by rw [G.g (by omega) (by omega)]; exact em
        show ∃ s', BX12_lastRule_5 g 73 (nI y) (nI w) (lV (lrN P j)) (nI j) = some (.inl s') ∧ _
        have ep : P j = (decide (m (y + 2 + 5 * j) = nI w) && hM m y F j) := by rw [hP]
        by_cases z1 : m (y + 2 + 5 * j) = nI w
        · obtain ⟨ops, E⟩ := zr j hj
          obtain ⟨g1, k1, k2⟩ := r_holds (F := F) Rg1 emg (G.rf f) yb (by omega) E
          rw [hM_eq E] at k1
          cases hb : hM m y F j with
          | true =>
            rw [hb] at k1 ep
            have ep : P j = true := by rw [ep, decide_eq_true z1]; rfl
            refine ⟨(nI j, nI (j + 1), g1), ?_, ?_, rfl, G.trans k2⟩
            · simp (disch := omega) only [BX12_lastRule_5, ↓reduceIte, Nat.reduceLT, Nat.reduceLeDiff, Nat.reduceEqDiff, ZL, nAdd, nMul, nSub, nLt, nLe, nEq, nCl, nDiv, nRem2, nM1, nM2, nM3, nM4, nM5, nM6, gg_in, gg_rf, gg_T, if_true, if_false, ↓lt_eq, ob_some, b2_some, up1_some, kd_sI, ln_sI, gP_sI, gI_sI, kd_rI, ln_rI, gP_rI, gI_rI, kd_bmp, ln_bmp, gP_bmp, gI_bmp, up_at, i0, i1, RS.f Rg1, emg, ei, z1, k1, bIT, n10]
            · show nI j = lV (lrN P (j + 1))
              unfold lrN
              rw [if_pos ep]
              rfl
          | false =>
            rw [hb] at k1 ep
            have ep : ¬ P j = true := by rw [ep, Bool.and_false]; simp
            refine ⟨(lV (lrN P j), nI (j + 1), g1), ?_, ?_, rfl, G.trans k2⟩
            · simp (disch := omega) only [BX12_lastRule_5, ↓reduceIte, Nat.reduceLT, Nat.reduceLeDiff, Nat.reduceEqDiff, ZL, nAdd, nMul, nSub, nLt, nLe, nEq, nCl, nDiv, nRem2, nM1, nM2, nM3, nM4, nM5, nM6, gg_in, gg_rf, gg_T, if_true, if_false, ↓lt_eq, ob_some, b2_some, up1_some, kd_sI, ln_sI, gP_sI, gI_sI, kd_rI, ln_rI, gP_rI, gI_rI, kd_bmp, ln_bmp, gP_bmp, gI_bmp, up_at, i0, i1, RS.f Rg1, emg, ei, z1, k1, bIF, n10]
            · show lV (lrN P j) = lV (lrN P (j + 1))
              rw [show lrN P (j + 1) = lrN P j from if_neg ep]
        · have ep : ¬ P j = true := by rw [ep, decide_eq_false z1]; simp
          refine ⟨(lV (lrN P j), nI (j + 1), g), ?_, ?_, rfl, G⟩
          · simp (disch := omega) only [BX12_lastRule_5, ↓reduceIte, Nat.reduceLT, Nat.reduceLeDiff, Nat.reduceEqDiff, ZL, nAdd, nMul, nSub, nLt, nLe, nEq, nCl, nDiv, nRem2, nM1, nM2, nM3, nM4, nM5, nM6, gg_in, gg_rf, gg_T, if_true, if_false, ↓lt_eq, ob_some, b2_some, up1_some, kd_sI, ln_sI, gP_sI, gI_sI, kd_rI, ln_rI, gP_rI, gI_rI, kd_bmp, ln_bmp, gP_bmp, gI_bmp, up_at, i0, i1, RS.f Rg1, emg, ei, if_neg z1]
          · show lV (lrN P j) = lV (lrN P (j + 1))
            rw [show lrN P (j + 1) = lrN P j from if_neg ep]
      · obtain ⟨a, b, g⟩ := s
        obtain ⟨p1, p2, G⟩ := p
        have p1 : a = lV (lrN P (Nn m (y + 1))) := p1
        have p2 : b = nI (Nn m (y + 1)) := p2
        have G : Rg h g := G
        subst p1 p2
        have Rg1 := G.rk.rs R
        have emg : gI g 74 = m := by rw [G.g (by omega) (by omega)]; exact em
        refine ⟨(lV (lrN P (Nn m (y + 1))), g), ?_, rfl, G⟩
        show BX12_lastRule_5 g 73 (nI y) (nI w) (lV (lrN P (Nn m (y + 1)))) (nI (Nn m (y + 1))) = _
        simp (disch := omega) only [BX12_lastRule_5, ↓reduceIte, Nat.reduceLT, Nat.reduceLeDiff, Nat.reduceEqDiff, ZL, nAdd, nMul, nSub, nLt, nLe, nEq, nCl, nDiv, nRem2, nM1, nM2, nM3, nM4, nM5, nM6, gg_in, gg_rf, gg_T, if_true, if_false, ↓lt_eq, ob_some, b2_some, up1_some, kd_sI, ln_sI, gP_sI, gI_sI, kd_rI, ln_rI, gP_rI, gI_rI, kd_bmp, ln_bmp, gP_bmp, gI_bmp, up_at, i0, i1, RS.f Rg1, emg, ei, Nat.le_refl]
    obtain ⟨⟨a, g⟩, k1, k2, k3⟩ := K
    have k2 : a = lV (lrN P (Nn m (y + 1))) := k2
    exact ⟨g, by rw [k1, k2], k3⟩
theorem r_said {e c i d : Nat} (R : RS h) (em : gI h 74 = m) (he : e ≤ 10) (h0 : e = 0 → c = 0) (hc : c ≤ 12) (hi : i ≤ 2) (hd : d < 100) (hv : c ≠ 0 → m (yA e + 2 + 5 * (c - 1) + i) = nI (Nn m (yA e + 2 + 5 * (c - 1) + i))) : MX12_said h 73 (stV e) (lV c) (nI i) (nI d) = some (nI (sdM m e c i d)) := by
  unfold MX12_said
  by_cases z : c = 0
  · subst z
    rw [if_pos (show lV 0 = -1 from rfl)]
    rfl
  · have e0 : e ≠ 0 := fun q => z (h0 q)
    rw [if_neg (by rw [show (-1 : Int32) = -nI 1 from rfl, lV_eqm (by omega)]; exact z)]
    have ev : stV e = nI (yA e) := by unfold stV; rw [if_neg e0]; rfl
    have yb : yA e + 562 < 337220 := by unfold yA; omega
    have el : lV c = nI (c - 1) := by unfold lV; rw [if_neg z]
    have es : sdM m e c i d = Nn m (yA e + 2 + 5 * (c - 1) + i) := by unfold sdM; rw [if_neg z]
    rw [ev, el, es, ← hv z]
    simp (disch := omega) only [↓reduceIte, Nat.reduceLT, Nat.reduceLeDiff, Nat.reduceEqDiff, ZL, nAdd, nMul, nSub, nLt, nLe, nEq, nCl, nDiv, nRem2, nM1, nM2, nM3, nM4, nM5, nM6, gg_in, gg_rf, gg_T, if_true, if_false, ↓lt_eq, ob_some, b2_some, up1_some, kd_sI, ln_sI, gP_sI, gI_sI, kd_rI, ln_rI, gP_rI, gI_rI, kd_bmp, ln_bmp, gP_bmp, gI_bmp, up_at, i0, i1, RS.f R, em]
end
