/-! a line is cast: the reference -/
/-- how many of the first n bytes of a list are no blanks -/
def ltL (w : List Nat) (n : Nat) : Nat := ltC (fun j => nI (w.getD j 0)) n
def caX (m : Nat → Int32) (s : Nat) (w : List Nat) (n : Nat) : Nat → Int32 := fun y => if 64630 + 852 * s + 12 ≤ y ∧ y < 64630 + 852 * s + 12 + n then nI (w.getD (y - (64630 + 852 * s + 12)) 0) else if 64630 + 852 * s + 432 ≤ y ∧ y < 64630 + 852 * s + 432 + n then nI (w.getD (y - (64630 + 852 * s + 432)) 0) else m y
def caH (m : Nat → Int32) (s q k : Nat) : Nat → Int32 := va_up (va_up (va_up m (64630 + 852 * s) (nI q)) (64630 + 852 * s + 1) (nI k)) (64630 + 852 * s + 2) (m 0)
def caB (m : Nat → Int32) (s l : Nat) (fr : Int32) (c L : Nat) : Nat → Int32 := va_up (va_up (va_up (va_up (va_up (va_up (va_up m (64630 + 852 * s + 3) (nI c)) (64630 + 852 * s + 9) (nI L)) (64630 + 852 * s + 4) (nI 0)) (64630 + 852 * s + 7) fr) (64630 + 852 * s + 8) (nI l)) (64630 + 852 * s + 10) (nI 0)) (64630 + 852 * s + 10 + 1) (nI 0)
def caP (m : Nat → Int32) (o : Nat) : Nat → Int32 := va_up (va_up (va_up m (64630 + 852 * o + 4) (nI 2)) (64630 + 852 * o + 5) (-1)) (64630 + 852 * o + 6) (-1)
def caE (m : Nat → Int32) (s k i : Nat) : Nat → Int32 := va_up (va_up (va_up m 4 (nI (s + 1))) (320230 + 183 * k + 30) (m (320230 + 183 * k + 30) + nI 1)) (337180 + 5 * i + 1 + k) (nI s)
/-- M is m but that slug s is new: line l of part q, cast by machine k, flagged fr, saying w -/
def Cs (m M : Nat → Int32) (s k q l i : Nat) (fr : Int32) (w : List Nat) : Prop := (∀ y, (y < 64630 + 852 * s ∨ 64630 + 852 * s + 852 ≤ y) → y ≠ 4 → y ≠ 320230 + 183 * k + 30 → y ≠ 337180 + 5 * i + 1 + k → y ≠ 130 + 645 * q + 45 + l → M y = m y) ∧ (M (64630 + 852 * s) = nI q ∧ M (64630 + 852 * s + 1) = nI k ∧ M (64630 + 852 * s + 2) = m 0 ∧ M (64630 + 852 * s + 3) = nI (ltL w w.length) ∧ M (64630 + 852 * s + 4) = nI 0 ∧ M (64630 + 852 * s + 5) = nI l ∧ M (64630 + 852 * s + 6) = nI q ∧ M (64630 + 852 * s + 7) = fr ∧ M (64630 + 852 * s + 8) = nI l ∧ M (64630 + 852 * s + 9) = nI w.length ∧ M (64630 + 852 * s + 10) = nI 0 ∧ M (64630 + 852 * s + 11) = nI 0) ∧ (∀ j, j < w.length → M (64630 + 852 * s + 12 + j) = nI (w.getD j 0) ∧ M (64630 + 852 * s + 432 + j) = nI (w.getD j 0)) ∧ M 4 = nI (s + 1) ∧ M (320230 + 183 * k + 30) = m (320230 + 183 * k + 30) + nI 1 ∧ M (337180 + 5 * i + 1 + k) = nI s ∧ M (130 + 645 * q + 45 + l) = nI (s + 1)
section
variable {h h1 : Hp} {m M kk t : Nat → Int32} {ii f u fr : Int32} {c L n k q l s o i : Nat} {w : List Nat} {Q : Hp → Prop}
theorem f74 {x : Nat} {v : Int32} : Fr (fun b => b = 74) h (sI h 74 x v) := Fr.sI rfl
theorem caX_0 : caX m s w 0 = m := by
  funext y
  unfold caX
  rw [if_neg (by omega), if_neg (by omega)]
theorem caX_s (hw : w.length ≤ 401) (hn : n < w.length) : va_up (va_up (caX m s w n) (64630 + 852 * s + 12 + n) (nI (w.getD n 0))) (64630 + 852 * s + 432 + n) (nI (w.getD n 0)) = caX m s w (n + 1) := by
  funext y
  rw [up_at, up_at]
  unfold caX
  by_cases z : y = 64630 + 852 * s + 432 + n
  · rw [if_pos z, if_neg (by omega), if_pos (by omega), z, Nat.add_sub_cancel_left]
  · rw [if_neg z]
    by_cases z2 : y = 64630 + 852 * s + 12 + n
    · rw [if_pos z2, if_pos (by omega), z2, Nat.add_sub_cancel_left]
    · rw [if_neg z2]
      by_cases v : 64630 + 852 * s + 12 ≤ y ∧ y < 64630 + 852 * s + 12 + n
      · rw [if_pos v, if_pos (by omega)]
      · rw [if_neg v]
        by_cases v2 : 64630 + 852 * s + 432 ≤ y ∧ y < 64630 + 852 * s + 432 + n
        · rw [if_pos v2, if_neg (by omega), if_pos (by omega)]
        · rw [if_neg v2, if_neg (by omega), if_neg (by omega)]
theorem r_pots (R : RSt h m kk ii t u f) (hs : o < 300) : ∃ h2, MX12_pots h 73 (nI o) = some h2 ∧ Fr (fun b => b = 74) h h2 ∧ RSt h2 (caP m o) kk ii t u f := by
  refine ⟨sI (sI (sI h 74 (64630 + 852 * o + 4) (nI 2)) 74 (64630 + 852 * o + 5) (-1)) 74 (64630 + 852 * o + 6) (-1), ?_, ((f74).trans (f74)).trans (f74), R.m1.m1.m1⟩
  unfold MX12_pots
  simp (disch := omega) only [↓reduceIte, Nat.reduceLT, Nat.reduceLeDiff, Nat.reduceEqDiff, ZL, nAdd, nMul, nSub, nLt, nLe, nEq, nCl, nDiv, nRem2, nM1, nM2, nM3, nM4, nM5, nM6, gg_in, gg_rf, gg_T, if_true, if_false, ↓lt_eq, ob_some, b2_some, up1_some, kdQ, lnQ, gPQ, gI2, kd_bmp, ln_bmp, gP_bmp, gI_bmp, and_self, i0, i1, RS.f R.1, r_slug0]
theorem r_puts (R : RSt h m kk ii t u f) (hs : s < 300) (hq : q < 100) (hl : l < 40) : ∃ h2, MX12_puts h 73 (nI s) (nI q) (nI l) = some h2 ∧ Fr (fun b => b = 74) h h2 ∧ RSt h2 (lyM m s q l) kk ii t u f := by
  refine ⟨sI (sI (sI h 74 (64630 + 852 * s + 5) (nI l)) 74 (64630 + 852 * s + 6) (nI q)) 74 (130 + 645 * q + 45 + l) (nI (s + 1)), ?_, ((f74).trans (f74)).trans (f74), R.m1.m1.m1⟩
  unfold MX12_puts
  simp (disch := omega) only [↓reduceIte, Nat.reduceLT, Nat.reduceLeDiff, Nat.reduceEqDiff, ZL, nAdd, nMul, nSub, nLt, nLe, nEq, nCl, nDiv, nRem2, nM1, nM2, nM3, nM4, nM5, nM6, gg_in, gg_rf, gg_T, if_true, if_false, ↓lt_eq, ob_some, b2_some, up1_some, kdQ, lnQ, gPQ, gI2, kd_bmp, ln_bmp, gP_bmp, gI_bmp, and_self, i0, i1, RS.f R.1, r_slug0, r_part0]
theorem r_castsL (R : RSt h m kk ii t u f) (hs : s < 300) (hw : w.length ≤ 401) (W1 : gI h 73 35 = nI w.length) (W2 : PLs h 90 w) (fin : ∀ z, Fr (fun b => b = 74) h z → RSt z (caX m s w w.length) kk ii t u f → ∃ h2, MX12_casts_140 z 73 (nI k) (nI q) (nI l) fr (nI s) (nI (64630 + 852 * s)) (nI (130 + 645 * q)) (nI (ltL w w.length)) = some h2 ∧ Q h2) : ∃ h2, MX12_casts_62 h 73 (nI k) (nI q) (nI l) fr (nI s) (nI (64630 + 852 * s)) (nI (130 + 645 * q)) (nI 0) (nI 0) = some h2 ∧ Q h2 := by
  unfold MX12_casts_62
  refine it_cnt (fun j s' => s'.1 = nI (ltL w j) ∧ s'.2.1 = nI j ∧ Fr (fun b => b = 74) h s'.2.2 ∧ RSt s'.2.2 (caX m s w j) kk ii t u f) w.length (fun j s' hj pp => ?_) (fun s' pp => ?_) ⟨rfl, rfl, Fr.rfl, by rw [caX_0]; exact R⟩
  · obtain ⟨a, b, g⟩ := s'
    obtain ⟨p1, p2, p3, p4⟩ := pp
    replace p1 : a = nI (ltL w j) := p1
    replace p2 : b = nI j := p2
    replace p3 : Fr (fun b => b = 74) h g := p3
    replace p4 : RSt g (caX m s w j) kk ii t u f := p4
    subst p1 p2
    have g90 : gI g 90 j = nI (w.getD j 0) := by rw [p3.2.2.2.2.2.2 _ (show ¬ 90 = 74 by omega)]; exact W2 j hj
    have g73 : gI g 73 35 = nI w.length := by rw [p3.2.2.2.2.2.2 _ (show ¬ 73 = 74 by omega)]; exact W1
    obtain ⟨g1, hg1⟩ : ∃ g1, g1 = sI g 74 (64630 + 852 * s + 12 + j) (nI (w.getD j 0)) := ⟨_, rfl⟩
    obtain ⟨g2, hg2⟩ : ∃ g2, g2 = sI g1 74 (64630 + 852 * s + 432 + j) (nI (w.getD j 0)) := ⟨_, rfl⟩
    have F2 : Fr (fun b => b = 74) g g2 := by rw [hg2, hg1]; exact (f74).trans (f74)
    have x1 : gI g1 90 j = nI (w.getD j 0) := by rw [hg1, gI_sI, if_neg (show ¬ 90 = 74 by omega)]; exact g90
    have x2 : gI g2 90 j = nI (w.getD j 0) := by rw [F2.2.2.2.2.2.2 _ (show ¬ 90 = 74 by omega)]; exact g90
    refine ⟨(nI (ltL w (j + 1)), nI (j + 1), g2), ?_, rfl, rfl, p3.trans F2, ?_⟩
    · show BX12_casts_62 g 73 (nI k) (nI q) (nI l) fr (nI s) (nI (64630 + 852 * s)) (nI (130 + 645 * q)) (nI (ltL w j)) (nI j) = _
      unfold BX12_casts_62 MX12_casts_131
      simp only [ZL, nAdd]
      rw [gg_t (RS.f p4.1).1, g73, if_neg (nI_ge hj (by omega))]
      have eP : gP g 73 34 = 90 := by simp only [RS.f p4.1]
      have eQ : gP g 73 1 = 74 := (RS.f p4.1).2.1
      have k90 : kd g 90 = 20 := by simp only [RS.f p4.1]
      have l90 : ln g 90 = 430 := by simp only [RS.f p4.1]
      rw [eP, eQ, gg_t k90, l90, gg_in (by omega) (by omega), gg_t (RS.f p4.1).2.2.1, (RS.f p4.1).2.2.2.1, gg_in (by omega) (by omega), nCl (by omega), nCl (by omega), g90, lt_eq, ← hg1, gg_in (by omega) (by omega), nCl (by omega), x1, lt_eq, ← hg2, x2]
      show _ = some (Sum.inl (nI (ltL w j + (if nI (w.getD j 0) = nI 32 then 0 else 1)), nI (j + 1), g2))
      by_cases z : nI (w.getD j 0) = nI 32
      · rw [if_pos z, if_pos z]
      · rw [if_neg z, if_neg z]
    · show RSt g2 (caX m s w (j + 1)) kk ii t u f
      rw [← caX_s hw hj, hg2, hg1]
      exact p4.m1.m1
  · obtain ⟨a, b, g⟩ := s'
    obtain ⟨p1, p2, p3, p4⟩ := pp
    replace p1 : a = nI (ltL w w.length) := p1
    replace p2 : b = nI w.length := p2
    replace p3 : Fr (fun b => b = 74) h g := p3
    replace p4 : RSt g (caX m s w w.length) kk ii t u f := p4
    subst p1 p2
    have g73 : gI g 73 35 = nI w.length := by rw [p3.2.2.2.2.2.2 _ (show ¬ 73 = 74 by omega)]; exact W1
    obtain ⟨h2, y1, y2⟩ := fin g p3 p4
    refine ⟨h2, ?_, y2⟩
    show BX12_casts_62 g 73 (nI k) (nI q) (nI l) fr (nI s) (nI (64630 + 852 * s)) (nI (130 + 645 * q)) (nI (ltL w w.length)) (nI w.length) = _
    unfold BX12_casts_62
    rw [gg_t (RS.f p4.1).1, g73, if_pos (nI_le (Nat.le_refl _) (by omega)), y1, up1_some]
theorem f74_rc (F : Fr (fun b => b = 74) h h1) : Fr Rm h h1 := F.mono (fun b z => by unfold Rm; omega)
theorem f74_73 (F : Fr (fun b => b = 74) h h1) : gI h1 73 = gI h 73 := F.2.2.2.2.2.2 _ (by omega)
/-- the memory behind the cast -/
def caM (m : Nat → Int32) (s k q l i : Nat) (fr : Int32) (w : List Nat) (o : Nat) : Nat → Int32 := caE (lyM (if o = 0 then caB (caX (caH m s q k) s w w.length) s l fr (ltL w w.length) w.length else caP (caB (caX (caH m s q k) s w w.length) s l fr (ltL w w.length) w.length) (o - 1)) s q l) s k i
theorem r_casts3 (R : RSt h m kk ii t u f) (hs : s < 300) (hk : k < 4) (hi : i < 8) (e4 : m 4 = nI s) (e7 : m 7 = nI (i + 1)) : ∃ h2, lt (sI h 74 4 (m 4 + nI 1)) (fun h82 => lt (sI h82 74 (320230 + 183 * k + 30) (gI h82 74 (320230 + 183 * k + 30) + nI 1)) fun h90 => gg (inB (((nI 337180) + ((nI 5) * ((gI h90 74 7) - nI 1))) + nI 1 + nI k) 337220 = true) <| lt (sI h90 74 ((((nI 337180) + ((nI 5) * ((gI h90 74 7) - nI 1))) + nI 1) + nI k).toNatClampNeg (nI s)) fun h97 => some h97) = some h2 ∧ Fr (fun b => b = 74) h h2 ∧ RSt h2 (caE m s k i) kk ii t u f := by
  refine ⟨sI (sI (sI h 74 4 (nI (s + 1))) 74 (320230 + 183 * k + 30) (m (320230 + 183 * k + 30) + nI 1)) 74 (337180 + 5 * i + 1 + k) (nI s), ?_, (f74.trans f74).trans f74, R.m1.m1.m1⟩
  have em := R.2.1
  have e30 : gI h 74 (320230 + 183 * k + 30) = m (320230 + 183 * k + 30) := by rw [em]
  have e7' : gI h 74 7 = nI (i + 1) := by rw [em]; exact e7
  simp (disch := omega) only [↓reduceIte, Nat.reduceLT, Nat.reduceLeDiff, Nat.reduceEqDiff, ZL, nAdd, nMul, nSub, nLt, nLe, nEq, nCl, nDiv, nRem2, nM1, nM2, nM3, nM4, nM5, nM6, gg_in, gg_rf, gg_T, if_true, if_false, ↓lt_eq, ob_some, b2_some, up1_some, kdQ, lnQ, gPQ, gI2, kd_bmp, ln_bmp, gP_bmp, gI_bmp, and_self, i0, i1, e4, e30, e7', and_false, and_true, if_false, if_true, Nat.add_sub_cancel]
theorem caB_o {y : Nat} {c : Nat} (h1 : y < 64630 + 852 * s ∨ 64630 + 852 * s + 852 ≤ y) : caB (caX (caH m s q k) s w n) s l fr c L y = if n ≤ 420 then m y else caB (caX (caH m s q k) s w n) s l fr c L y := by
  by_cases z : n ≤ 420
  · rw [if_pos z]
    unfold caB caX caH
    simp only [up_at]
    rw [if_neg (by omega), if_neg (by omega), if_neg (by omega), if_neg (by omega), if_neg (by omega), if_neg (by omega), if_neg (by omega), if_neg (by omega), if_neg (by omega), if_neg (by omega), if_neg (by omega), if_neg (by omega)]
  · rw [if_neg z]
theorem r_casts (R : RSt h m kk ii t u f) (hs : s < 300) (hk : k < 4) (hq : q < 100) (hl : l < 40) (hi : i < 8) (e4 : m 4 = nI s) (e7 : m 7 = nI (i + 1)) (hw : w.length ≤ 401) (W1 : gI h 73 35 = nI w.length) (W2 : PLs h 90 w) (ho : o ≤ s) (eo : m (130 + 645 * q + 45 + l) = nI o) : ∃ h2, MX12_casts h 73 (nI k) (nI q) (nI l) fr = some h2 ∧ Fr (fun b => b = 74) h h2 ∧ RSt h2 (caM m s k q l i fr w o) kk ii t u f := by
  obtain ⟨g0, hg0⟩ : ∃ g0, g0 = sI (sI (sI h 74 (64630 + 852 * s) (nI q)) 74 (64630 + 852 * s + 1) (nI k)) 74 (64630 + 852 * s + 2) (m 0) := ⟨_, rfl⟩
  have R0 : RSt g0 (caH m s q k) kk ii t u f := by rw [hg0]; exact R.m1.m1.m1
  have F0 : Fr (fun b => b = 74) h g0 := by rw [hg0]; exact (f74.trans f74).trans f74
  have fin : ∀ z, Fr (fun b => b = 74) g0 z → RSt z (caX (caH m s q k) s w w.length) kk ii t u f → ∃ h2, MX12_casts_140 z 73 (nI k) (nI q) (nI l) fr (nI s) (nI (64630 + 852 * s)) (nI (130 + 645 * q)) (nI (ltL w w.length)) = some h2 ∧ (Fr (fun b => b = 74) h h2 ∧ RSt h2 (caM m s k q l i fr w o) kk ii t u f) := fun z Fz Rz => by
    have ez := Rz.2.1
    obtain ⟨z1, hz1⟩ : ∃ z1, z1 = sI z 74 (64630 + 852 * s + 3) (nI (ltL w w.length)) := ⟨_, rfl⟩
    obtain ⟨z2, hz2⟩ : ∃ z2, z2 = sI z1 74 (64630 + 852 * s + 9) (nI w.length) := ⟨_, rfl⟩
    obtain ⟨z3, hz3⟩ : ∃ z3, z3 = sI z2 74 (64630 + 852 * s + 4) (nI 0) := ⟨_, rfl⟩
    obtain ⟨z4, hz4⟩ : ∃ z4, z4 = sI z3 74 (64630 + 852 * s + 7) fr := ⟨_, rfl⟩
    obtain ⟨z5, hz5⟩ : ∃ z5, z5 = sI z4 74 (64630 + 852 * s + 8) (nI l) := ⟨_, rfl⟩
    obtain ⟨z6, hz6⟩ : ∃ z6, z6 = sI z5 74 (64630 + 852 * s + 10) (nI 0) := ⟨_, rfl⟩
    obtain ⟨z7, hz7⟩ : ∃ z7, z7 = sI z6 74 (64630 + 852 * s + 10 + 1) (nI 0) := ⟨_, rfl⟩
    have R7 : RSt z7 (caB (caX (caH m s q k) s w w.length) s l fr (ltL w w.length) w.length) kk ii t u f := by rw [hz7, hz6, hz5, hz4, hz3, hz2, hz1]; exact Rz.m1.m1.m1.m1.m1.m1.m1
    have F7 : Fr (fun b => b = 74) h z7 := (F0.trans Fz).trans (by rw [hz7, hz6, hz5, hz4, hz3, hz2, hz1]; exact (((((f74.trans f74).trans f74).trans f74).trans f74).trans f74).trans f74)
    have L420 : w.length ≤ 420 := by omega
    have B0 : ∀ y, (y < 64630 + 852 * s ∨ 64630 + 852 * s + 852 ≤ y) → caB (caX (caH m s q k) s w w.length) s l fr (ltL w w.length) w.length y = m y := fun y hy => by rw [caB_o hy, if_pos L420]
    -- the old one
    obtain ⟨z8, p1, F8, R8⟩ : ∃ z8, MX12_pots z7 73 (nI o - nI 1) = some z8 ∧ Fr (fun b => b = 74) h z8 ∧ RSt z8 (if o = 0 then caB (caX (caH m s q k) s w w.length) s l fr (ltL w w.length) w.length else caP (caB (caX (caH m s q k) s w w.length) s l fr (ltL w w.length) w.length) (o - 1)) kk ii t u f := by
      by_cases zo : o = 0
      · rw [if_pos zo, zo]
        refine ⟨z7, ?_, F7, R7⟩
        unfold MX12_pots
        rw [if_pos (by decide)]
      · rw [if_neg zo]
        obtain ⟨z8, p1, p2, p3⟩ := r_pots (o := o - 1) R7 (by omega)
        exact ⟨z8, by rw [nSub (by omega)]; exact p1, F7.trans p2, p3⟩
    obtain ⟨z9, q1, F9, R9⟩ := r_puts (s := s) (q := q) (l := l) R8 hs hq hl
    have F9' := F8.trans F9
    obtain ⟨C, hC⟩ : ∃ C, C = lyM (if o = 0 then caB (caX (caH m s q k) s w w.length) s l fr (ltL w w.length) w.length else caP (caB (caX (caH m s q k) s w w.length) s l fr (ltL w w.length) w.length) (o - 1)) s q l := ⟨_, rfl⟩
    rw [← hC] at R9
    have Co : ∀ y, y < 130 ∨ 320230 ≤ y → C y = m y := fun y hy => by
      rw [hC, ly_at, if_neg (by omega), if_neg (by omega), if_neg (by omega)]
      by_cases zo : o = 0
      · rw [if_pos zo]
        exact B0 y (by omega)
      · rw [if_neg zo]
        unfold caP
        rw [up_at, if_neg (by omega), up_at, if_neg (by omega), up_at, if_neg (by omega)]
        exact B0 y (by omega)
    have e4C : C 4 = nI s := by rw [Co 4 (by omega)]; exact e4
    have e7C : C 7 = nI (i + 1) := by rw [Co 7 (by omega)]; exact e7
    obtain ⟨za, t1, Fa, Ra⟩ := r_casts3 (k := k) (i := i) R9 hs hk hi e4C e7C
    have g7 : gI z7 74 (130 + 645 * q + 45 + l) = nI o := by rw [R7.2.1, B0 _ (by omega)]; exact eo
    have gz1 : gI z1 73 35 = nI w.length := by rw [hz1, n74, f74_73 (F0.trans Fz)]; exact W1
    refine ⟨za, ?_, F9'.trans Fa, ?_⟩
    · unfold MX12_casts_140
      simp only [ZL, nAdd]
      rw [gg_t (RS.f Rz.1).1, (RS.f Rz.1).2.1, gg_t (RS.f Rz.1).2.2.1, (RS.f Rz.1).2.2.2.1, gg_in (by omega) (by omega), nCl (by omega), lt_eq, ← hz1, gg_in (by omega) (by omega), nCl (by omega), gz1, lt_eq, ← hz2, gg_in (by omega) (by omega), nCl (by omega), lt_eq, ← hz3, gg_in (by omega) (by omega), nCl (by omega), lt_eq, ← hz4, gg_in (by omega) (by omega), nCl (by omega), lt_eq, ← hz5, gg_in (by omega) (by omega), nCl (by omega), lt_eq, ← hz6, gg_in (by omega) (by omega), nCl (by omega), lt_eq, ← hz7, gg_in (by omega) (by omega), nCl (by omega)]
      rw [g7, p1, ob_some, gg_t (RS.f R8.1).1, q1, ob_some, gg_t (RS.f R9.1).1, (RS.f R9.1).2.1, gg_t (RS.f R9.1).2.2.1, (RS.f R9.1).2.2.2.1]
      rw [R9.2.1]
      rw [← t1]
      simp (disch := omega) only [ZL, nAdd, nMul, nSub, nLt, nLe, nEq, nCl, nDiv, nRem2, gg_in, ob_some, r_machine0]
    · unfold caM
      rw [← hC]
      exact Ra
  obtain ⟨h2, y1, y2, y3⟩ := r_castsL (k := k) (q := q) (l := l) (fr := fr) (w := w) (Q := fun h2 => Fr (fun b => b = 74) h h2 ∧ RSt h2 (caM m s k q l i fr w o) kk ii t u f) R0 hs hw (by rw [f74_73 F0]; exact W1) (fun j hj => by rw [F0.2.2.2.2.2.2 _ (show ¬ 90 = 74 by omega)]; exact W2 j hj) fin
  refine ⟨h2, ?_, y2, y3⟩
  have em := R.2.1
  have e0' : gI h 74 0 = m 0 := by rw [em]
  have e4' : gI h 74 4 = nI s := by rw [em]; exact e4
  rw [← y1, hg0]
  unfold MX12_casts
  simp (disch := omega) only [↓reduceIte, Nat.reduceLT, Nat.reduceLeDiff, Nat.reduceEqDiff, ZL, nAdd, nMul, nSub, nLt, nLe, nEq, nCl, nDiv, nRem2, nM1, nM2, nM3, nM4, nM5, nM6, gg_in, gg_rf, gg_T, if_true, if_false, ↓lt_eq, ob_some, b2_some, up1_some, kdQ, lnQ, gPQ, gI2, kd_bmp, ln_bmp, gP_bmp, gI_bmp, and_self, i0, i1, RS.f R.1, e0', e4', r_slug0, r_part0, and_false, if_false, Nat.add_zero]
end
