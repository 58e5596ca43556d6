/-! conditions of rules: the reference's side -/
/-- tags and facts as the reference has them -/
def RF (h : Hp) (F : Nat → Int32) : Prop := (∀ j, j < 3 → gI h 84 j = F j ∧ zO (F j)) ∧ ∀ j, j < 6 → gI h 85 j = F (3 + j)
/-- only the pile and its height are changed -/
def Rg (h h1 : Hp) : Prop := Fr (fun b => b = 73 ∨ b = 86) h h1 ∧ ∀ j, j ≠ 24 → gI h1 73 j = gI h 73 j
theorem Rg.rfl {h : Hp} : Rg h h := ⟨Fr.rfl, fun _ _ => Eq.refl _⟩
theorem Rg.trans {h h1 h2 : Hp} (a : Rg h h1) (b : Rg h1 h2) : Rg h h2 := ⟨a.1.trans b.1, fun j hj => (b.2 j hj).trans (a.2 j hj)⟩
theorem Rg.rk {h h1 : Hp} (a : Rg h h1) : Rk h h1 := ⟨a.1.mono (fun b z => by omega), a.2 0 (by omega), a.2 4 (by omega), a.2 6 (by omega), a.2 9 (by omega)⟩
theorem Rg.g {h h1 : Hp} (a : Rg h h1) {b : Nat} (q1 : b ≠ 73) (q2 : b ≠ 86) : gI h1 b = gI h b := a.1.2.2.2.2.2.2 b (by omega)
theorem Rg.rf {h h1 : Hp} {F : Nat → Int32} (a : Rg h h1) (f : RF h F) : RF h1 F := by
  unfold RF
  rw [a.g (by omega) (by omega), a.g (by omega) (by omega)]
  exact f
theorem zO_t {x : Int32} (z : zO x) : x = bI (decide (nI 0 < x)) := by
  rcases z with rfl | rfl
  · rw [decide_eq_false (by decide), bIF]
  · rw [decide_eq_true (by decide), bIT]
section
variable {h h1 h' : Hp} {F : Nat → Int32} {m : Nat → Int32} {Y fr n k d : Nat} {g : Nat → Bool}
theorem rg_w {v : Bool} {i d' : Nat} : Rg h (sI (sI h 86 i (bI v)) 73 24 (nI d')) := ⟨(Fr.sI (S := fun b => b = 73 ∨ b = 86) (Or.inr rfl)).trans (Fr.sI (S := fun b => b = 73 ∨ b = 86) (Or.inl rfl)), fun j hj => by rw [gI_sI, if_pos rfl, up_at, if_neg hj, gI_sI, if_neg (by omega)]⟩
/-- one word of a condition -/
theorem r_op (R : RS h) (em : gI h 74 = m) (f : RF h F) (eh : gI h 73 24 = nI d) (hg : ∀ j, j < d → gI h 86 j = bI (g j)) {o : Op} (hk : k < n) (hb : Y + fr + n < 337220) (hc : ∀ j, j < (encR o).length → m (Y + fr + (k + j)) = nI ((encR o).getD j 0)) (hl : k + (encR o).length ≤ n) (ok : okOp o) (hd : if o.1 ≤ 3 then d < 50 else if o.1 = 4 then 1 ≤ d ∧ d ≤ 50 else 2 ≤ d ∧ d ≤ 50) : ∃ h1, BX12_holds_46 h 73 (nI Y) (nI fr) (nI n) (nI k) = some (.inl (nI (k + (encR o).length), h1)) ∧ Rg h h1 ∧ gI h1 73 24 = nI (stp F (d, g) o).1 ∧ (∀ j, j < (stp F (d, g) o).1 → gI h1 86 j = bI ((stp F (d, g) o).2 j)) ∧ (stp F (d, g) o).1 ≤ 50 := by
  obtain ⟨o1, o2, o3⟩ := o
  have push : ∀ v, opV F (o1, o2, o3) = v → o1 ≤ 3 → d < 50 → BX12_holds_46 h 73 (nI Y) (nI fr) (nI n) (nI k) = some (.inl (nI (k + (encR (o1, o2, o3)).length), sI (sI h 86 d (bI v)) 73 24 (nI (d + 1)))) → ∃ h1, BX12_holds_46 h 73 (nI Y) (nI fr) (nI n) (nI k) = some (.inl (nI (k + (encR (o1, o2, o3)).length), h1)) ∧ Rg h h1 ∧ gI h1 73 24 = nI (stp F (d, g) (o1, o2, o3)).1 ∧ (∀ j, j < (stp F (d, g) (o1, o2, o3)).1 → gI h1 86 j = bI ((stp F (d, g) (o1, o2, o3)).2 j)) ∧ (stp F (d, g) (o1, o2, o3)).1 ≤ 50 := fun v hv h3 hd2 e => by
    have es : stp F (d, g) (o1, o2, o3) = (d + 1, va_up g d v) := by rw [← hv]; exact if_pos h3
    rw [es]
    refine ⟨_, e, rg_w, by rw [gI_sI, if_pos rfl, up_at, if_pos rfl], fun j hj => ?_, by show d + 1 ≤ 50; omega⟩
    have hj : j < d + 1 := hj
    show _ = bI (va_up g d v j)
    rw [gI_sI, if_neg (by omega), gI_sI, if_pos rfl, up_at, up_at]
    by_cases z : j = d
    · rw [if_pos z, if_pos z]
    · rw [if_neg z, if_neg z]; exact hg j (by omega)
  have cut : ∀ v i d', d' ≤ 50 → d' = (stp F (d, g) (o1, o2, o3)).1 → (∀ j, j < d' → (if j = i then bI v else gI h 86 j) = bI ((stp F (d, g) (o1, o2, o3)).2 j)) → BX12_holds_46 h 73 (nI Y) (nI fr) (nI n) (nI k) = some (.inl (nI (k + (encR (o1, o2, o3)).length), sI (sI h 73 24 (nI d')) 86 i (bI v))) → ∃ h1, BX12_holds_46 h 73 (nI Y) (nI fr) (nI n) (nI k) = some (.inl (nI (k + (encR (o1, o2, o3)).length), h1)) ∧ Rg h h1 ∧ gI h1 73 24 = nI (stp F (d, g) (o1, o2, o3)).1 ∧ (∀ j, j < (stp F (d, g) (o1, o2, o3)).1 → gI h1 86 j = bI ((stp F (d, g) (o1, o2, o3)).2 j)) ∧ (stp F (d, g) (o1, o2, o3)).1 ≤ 50 := fun v i d' h50 hd' hj e => by
    rw [← hd']
    refine ⟨_, e, ⟨(Fr.sI (S := fun b => b = 73 ∨ b = 86) (Or.inl rfl)).trans (Fr.sI (S := fun b => b = 73 ∨ b = 86) (Or.inr rfl)), fun j hj2 => by rw [gI_sI, if_neg (by omega), gI_sI, if_pos rfl, up_at, if_neg hj2]⟩, by rw [gI_sI, if_neg (by omega), gI_sI, if_pos rfl, up_at, if_pos rfl], fun j hj2 => ?_, h50⟩
    rw [gI_sI, if_pos rfl, up_at, gI_sI, if_neg (show ¬ (86 = 73) by omega)]
    exact hj j hj2
  rcases ok with ⟨q1, q2⟩ | ⟨q1, q2, q3⟩ | q1 | q1 | q1
  · have q1 : o1 = 1 := q1
    have q2 : o2 < 3 := q2
    subst q1
    have hd : d < 50 := hd
    have c0 : m (Y + fr + k) = nI 1 := hc 0 (by show 0 < 2; omega)
    have c1 : m (Y + fr + k + 1) = nI o2 := hc 1 (by show 1 < 2; omega)
    have hl : k + 2 ≤ n := hl
    obtain ⟨f1, f2⟩ := f.1 o2 q2
    have f3 := zO_t f2
    refine push (decide (nI 0 < F o2)) rfl (by omega) hd ?_
    show _ = some (Sum.inl (nI (k + 2), _))
    rw [← f3]
    have vb : vp_nar .boolean (F o2) = F o2 := by rw [f3, vBb]
    simp (disch := omega) only [BX12_holds_46, ↓reduceIte, Nat.reduceLT, Nat.reduceLeDiff, Nat.reduceEqDiff, ZL, nAdd, nMul, nSub, nLt, nLe, nEq, nCl, nDiv, nRem2, nM1, nM2, nM3, nM4, nM5, nM6, gg_in, gg_rf, gg_T, if_true, if_false, ↓lt_eq, ob_some, b2_some, up1_some, kd_sI, ln_sI, gP_sI, gI_sI, kd_rI, ln_rI, gP_rI, gI_rI, kd_bmp, ln_bmp, gP_bmp, gI_bmp, up_at, i0, i1, RS.f R, em, c0, c1, eh, f1, vb]
  · have q2 : o2 < 6 := q2
    have q3 : o3 ≤ 9999 := q3
    have f1 := f.2 o2 q2
    rcases q1 with q1 | q1
    · have q1 : o1 = 2 := q1
      subst q1
      have hd : d < 50 := hd
      have c0 : m (Y + fr + k) = nI 2 := hc 0 (by show 0 < 3; omega)
      have c1 : m (Y + fr + k + 1) = nI o2 := hc 1 (by show 1 < 3; omega)
      have c2 : m (Y + fr + k + 2) = nI o3 := hc 2 (by show 2 < 3; omega)
      have hl : k + 3 ≤ n := hl
      refine push (decide (F (3 + o2) < nI o3)) rfl (by omega) hd ?_
      show _ = some (Sum.inl (nI (k + 3), _))
      by_cases z : nI o3 ≤ F (3 + o2)
      · rw [decide_eq_false (fun q => Int32.not_le.mpr q z), bIF]
        simp (disch := omega) only [BX12_holds_46, MX12_holds_127, MX12_holds_203, ↓reduceIte, Nat.reduceLT, Nat.reduceLeDiff, Nat.reduceEqDiff, ZL, nAdd, nMul, nSub, nLt, nLe, nEq, nCl, nDiv, nRem2, nM1, nM2, nM3, nM4, nM5, nM6, gg_in, gg_rf, gg_T, if_true, if_false, ↓lt_eq, ob_some, b2_some, up1_some, kd_sI, ln_sI, gP_sI, gI_sI, kd_rI, ln_rI, gP_rI, gI_rI, kd_bmp, ln_bmp, gP_bmp, gI_bmp, up_at, i0, i1, RS.f R, em, c0, c1, c2, eh, f1, if_pos z, vB0]
      · rw [decide_eq_true (Int32.not_le.mp z), bIT]
        simp (disch := omega) only [BX12_holds_46, MX12_holds_127, MX12_holds_203, ↓reduceIte, Nat.reduceLT, Nat.reduceLeDiff, Nat.reduceEqDiff, ZL, nAdd, nMul, nSub, nLt, nLe, nEq, nCl, nDiv, nRem2, nM1, nM2, nM3, nM4, nM5, nM6, gg_in, gg_rf, gg_T, if_true, if_false, ↓lt_eq, ob_some, b2_some, up1_some, kd_sI, ln_sI, gP_sI, gI_sI, kd_rI, ln_rI, gP_rI, gI_rI, kd_bmp, ln_bmp, gP_bmp, gI_bmp, up_at, i0, i1, RS.f R, em, c0, c1, c2, eh, f1, if_neg z, vB1]
    · have q1 : o1 = 3 := q1
      subst q1
      have hd : d < 50 := hd
      have c0 : m (Y + fr + k) = nI 3 := hc 0 (by show 0 < 3; omega)
      have c1 : m (Y + fr + k + 1) = nI o2 := hc 1 (by show 1 < 3; omega)
      have c2 : m (Y + fr + k + 2) = nI o3 := hc 2 (by show 2 < 3; omega)
      have hl : k + 3 ≤ n := hl
      refine push (decide (nI o3 < F (3 + o2))) rfl (by omega) hd ?_
      show _ = some (Sum.inl (nI (k + 3), _))
      by_cases z : F (3 + o2) ≤ nI o3
      · rw [decide_eq_false (fun q => Int32.not_le.mpr q z), bIF]
        simp (disch := omega) only [BX12_holds_46, MX12_holds_127, MX12_holds_203, ↓reduceIte, Nat.reduceLT, Nat.reduceLeDiff, Nat.reduceEqDiff, ZL, nAdd, nMul, nSub, nLt, nLe, nEq, nCl, nDiv, nRem2, nM1, nM2, nM3, nM4, nM5, nM6, gg_in, gg_rf, gg_T, if_true, if_false, ↓lt_eq, ob_some, b2_some, up1_some, kd_sI, ln_sI, gP_sI, gI_sI, kd_rI, ln_rI, gP_rI, gI_rI, kd_bmp, ln_bmp, gP_bmp, gI_bmp, up_at, i0, i1, RS.f R, em, c0, c1, c2, eh, f1, if_pos z, vB0]
      · rw [decide_eq_true (Int32.not_le.mp z), bIT]
        simp (disch := omega) only [BX12_holds_46, MX12_holds_127, MX12_holds_203, ↓reduceIte, Nat.reduceLT, Nat.reduceLeDiff, Nat.reduceEqDiff, ZL, nAdd, nMul, nSub, nLt, nLe, nEq, nCl, nDiv, nRem2, nM1, nM2, nM3, nM4, nM5, nM6, gg_in, gg_rf, gg_T, if_true, if_false, ↓lt_eq, ob_some, b2_some, up1_some, kd_sI, ln_sI, gP_sI, gI_sI, kd_rI, ln_rI, gP_rI, gI_rI, kd_bmp, ln_bmp, gP_bmp, gI_bmp, up_at, i0, i1, RS.f R, em, c0, c1, c2, eh, f1, if_neg z, vB1]
  · have q1 : o1 = 4 := q1
    subst q1
    have hd : 1 ≤ d ∧ d ≤ 50 := hd
    have c0 : m (Y + fr + k) = nI 4 := hc 0 (by show 0 < 1; omega)
    have hl : k + 1 ≤ n := hl
    have gd := hg (d - 1) (by omega)
    have e24 : sI h 73 24 (nI d) = h := by rw [← eh, sI_eq]; exact (congrArg (rI h 73) (funext fun j => by rw [up_at]; by_cases z : j = 24 <;> simp [z])).trans (rI_self h 73)
    refine cut (!(g (d - 1))) (d - 1) d hd.2 rfl (fun j hj => ?_) ?_
    · show _ = bI (va_up g (d - 1) (!(g (d - 1))) j)
      rw [up_at]
      by_cases z : j = d - 1
      · rw [if_pos z, if_pos z]
      · rw [if_neg z, if_neg z]; exact hg j hj
    · show _ = some (Sum.inl (nI (k + 1), _))
      rw [e24]
      cases hb2 : g (d - 1) <;> rw [hb2] at gd <;> simp (disch := omega) only [BX12_holds_46, MX12_holds_255, ↓reduceIte, Nat.reduceLT, Nat.reduceLeDiff, Nat.reduceEqDiff, ZL, nAdd, nMul, nSub, nLt, nLe, nEq, nCl, nDiv, nRem2, nM1, nM2, nM3, nM4, nM5, nM6, gg_in, gg_rf, gg_T, if_true, if_false, ↓lt_eq, ob_some, b2_some, up1_some, kd_sI, ln_sI, gP_sI, gI_sI, kd_rI, ln_rI, gP_rI, gI_rI, kd_bmp, ln_bmp, gP_bmp, gI_bmp, up_at, i0, i1, RS.f R, em, c0, eh, gd, bIT, bIF, n10, vB0, vB1, Bool.not_true, Bool.not_false]
  · have q1 : o1 = 5 := q1
    subst q1
    have hd : 2 ≤ d ∧ d ≤ 50 := hd
    have c0 : m (Y + fr + k) = nI 5 := hc 0 (by show 0 < 1; omega)
    have hl : k + 1 ≤ n := hl
    have gd := hg (d - 1) (by omega)
    have ge := hg (d - 2) (by omega)
    have e12 : d - 1 - 1 = d - 2 := by omega
    refine cut (g (d - 2) && g (d - 1)) (d - 2) (d - 1) (by omega) rfl (fun j hj => ?_) ?_
    · show _ = bI (va_up g (d - 2) (g (d - 2) && g (d - 1)) j)
      rw [up_at]
      by_cases z : j = d - 2
      · rw [if_pos z, if_pos z]
      · rw [if_neg z, if_neg z]; exact hg j (by omega)
    · show _ = some (Sum.inl (nI (k + 1), _))
      cases hb2 : g (d - 1) <;> rw [hb2] at gd <;> cases hc2 : g (d - 2) <;> rw [hc2] at ge <;> simp (disch := omega) only [BX12_holds_46, MX12_holds_318, MX12_holds_353, ↓reduceIte, Nat.reduceLT, Nat.reduceLeDiff, Nat.reduceEqDiff, ZL, nAdd, nMul, nSub, nLt, nLe, nEq, nCl, nDiv, nRem2, nM1, nM2, nM3, nM4, nM5, nM6, gg_in, gg_rf, gg_T, if_true, if_false, ↓lt_eq, ob_some, b2_some, up1_some, kd_sI, ln_sI, gP_sI, gI_sI, kd_rI, ln_rI, gP_rI, gI_rI, kd_bmp, ln_bmp, gP_bmp, gI_bmp, up_at, i0, i1, RS.f R, em, c0, eh, e12, gd, ge, bIT, bIF, n10, vB0, vB1, Bool.and_true, Bool.and_false, Bool.true_and, Bool.false_and]
  · have q1 : o1 = 6 := q1
    subst q1
    have hd : 2 ≤ d ∧ d ≤ 50 := hd
    have c0 : m (Y + fr + k) = nI 6 := hc 0 (by show 0 < 1; omega)
    have hl : k + 1 ≤ n := hl
    have gd := hg (d - 1) (by omega)
    have ge := hg (d - 2) (by omega)
    have e12 : d - 1 - 1 = d - 2 := by omega
    refine cut (g (d - 2) || g (d - 1)) (d - 2) (d - 1) (by omega) rfl (fun j hj => ?_) ?_
    · show _ = bI (va_up g (d - 2) (g (d - 2) || g (d - 1)) j)
      rw [up_at]
      by_cases z : j = d - 2
      · rw [if_pos z, if_pos z]
      · rw [if_neg z, if_neg z]; exact hg j (by omega)
    · show _ = some (Sum.inl (nI (k + 1), _))
      cases hb2 : g (d - 1) <;> rw [hb2] at gd <;> cases hc2 : g (d - 2) <;> rw [hc2] at ge <;> simp (disch := omega) only [BX12_holds_46, MX12_holds_348, MX12_holds_353, ↓reduceIte, Nat.reduceLT, Nat.reduceLeDiff, Nat.reduceEqDiff, ZL, nAdd, nMul, nSub, nLt, nLe, nEq, nCl, nDiv, nRem2, nM1, nM2, nM3, nM4, nM5, nM6, gg_in, gg_rf, gg_T, if_true, if_false, ↓lt_eq, ob_some, b2_some, up1_some, kd_sI, ln_sI, gP_sI, gI_sI, kd_rI, ln_rI, gP_rI, gI_rI, kd_bmp, ln_bmp, gP_bmp, gI_bmp, up_at, i0, i1, RS.f R, em, c0, eh, e12, gd, ge, bIT, bIF, n10, vB0, vB1, Bool.or_true, Bool.or_false, Bool.true_or, Bool.false_or]
theorem getD_app1 {a b : List Nat} {j : Nat} (hj : j < a.length) : (a ++ b).getD j 0 = a.getD j 0 := by
  rw [List.getD_eq_getElem?_getD, List.getD_eq_getElem?_getD, List.getElem?_append_left hj]
theorem getD_app2 {a b : List Nat} {j : Nat} : (a ++ b).getD (a.length + j) 0 = b.getD j 0 := by
  rw [List.getD_eq_getElem?_getD, List.getD_eq_getElem?_getD, List.getElem?_append_right (Nat.le_add_right _ _), Nat.add_sub_cancel_left]
theorem r_ops {e : Nat} (hb : Y + fr + n < 337220) : ∀ (ops : List Op) (k d : Nat) (g : Nat → Bool) (h : Hp), RS h → gI h 74 = m → RF h F → gI h 73 24 = nI d → (∀ j, j < d → gI h 86 j = bI (g j)) → k + (ops.flatMap encR).length = n → (∀ j, j < (ops.flatMap encR).length → m (Y + fr + (k + j)) = nI ((ops.flatMap encR).getD j 0)) → (∀ o ∈ ops, okOp o) → d ≤ 50 → dpO ops d = some e → ∃ h1, MX12_holds_46 h 73 (nI Y) (nI fr) (nI n) (nI k) = MX12_holds_360 h1 73 ∧ Rg h h1 ∧ ∀ j, j < e → gI h1 86 j = bI ((evL F ops (d, g)).2 j)
  | [], k, d, g, h, R, em, f, eh, hg, hn, hc, ok, h50, hd => by
    have hd : d = e := Option.some.inj hd
    subst hd
    have hn : k = n := hn
    subst hn
    refine ⟨h, ?_, Rg.rfl, hg⟩
    have e1 : BX12_holds_46 h 73 (nI Y) (nI fr) (nI k) (nI k) = up1 (MX12_holds_360 h 73) := by
      unfold BX12_holds_46
      rw [if_pos (nI_le (by omega) (by omega))]
    unfold MX12_holds_46
    rw [it_eq]
    show (match BX12_holds_46 h 73 (nI Y) (nI fr) (nI k) (nI k) with | _ => _) = _
    rw [e1]
    cases MX12_holds_360 h 73 <;> rfl
  | o :: l, k, d, g, h, R, em, f, eh, hg, hn, hc, ok, h50, hd => by
    obtain ⟨d1, d2⟩ := dpO_s (F := F) (g := g) hd h50
    have ok1 := ok o (List.mem_cons_self)
    have el : ((o :: l).flatMap encR) = encR o ++ l.flatMap encR := rfl
    rw [el] at hn hc
    rw [List.length_append] at hn
    have ne : 0 < (encR o).length := by
      unfold encR
      split
      · exact Nat.succ_pos _
      · split
        · exact Nat.succ_pos _
        · split <;> exact Nat.succ_pos _
    obtain ⟨h1, k1, k2, k3, k4, k5⟩ := r_op (Y := Y) (fr := fr) (n := n) (k := k) R em f eh hg (o := o) (by omega) hb (fun j hj => by rw [hc j (by rw [List.length_append]; omega), getD_app1 hj]) (by omega) ok1 d1
    obtain ⟨h2, q1, q2, q3⟩ := r_ops hb l (k + (encR o).length) (stp F (d, g) o).1 (stp F (d, g) o).2 h1 (k2.rk.rs R) (by rw [k2.g (by omega) (by omega)]; exact em) (k2.rf f) k3 k4 (by omega) (fun j hj => by
      have := hc ((encR o).length + j) (by rw [List.length_append]; omega)
      rw [getD_app2] at this
      rw [Nat.add_assoc k]
      exact this) (fun o2 ho => ok o2 (List.mem_cons_of_mem _ ho)) k5 d2
    refine ⟨h2, ?_, k2.trans q2, q3⟩
    refine Eq.trans ?_ q1
    unfold MX12_holds_46
    exact it_next k1
/-- the words of rule r of the style at Y -/
def EncR (m : Nat → Int32) (Y r : Nat) (ops : List Op) : Prop := (∀ o ∈ ops, okOp o) ∧ (ops = [] ∨ dpO ops 0 = some 1) ∧ ∃ fr, fr + (ops.flatMap encR).length ≤ 562 ∧ m (Y + 2 + 5 * r + 3) = nI fr ∧ m (Y + 2 + 5 * r + 4) = nI (ops.flatMap encR).length ∧ ∀ j, j < (ops.flatMap encR).length → m (Y + fr + j) = nI ((ops.flatMap encR).getD j 0)
theorem r_holds {r : Nat} {ops : List Op} (R : RS h) (em : gI h 74 = m) (f : RF h F) (hY : Y + 562 < 337220) (hr : r < 12) (E : EncR m Y r ops) : ∃ h1, MX12_holds h 73 (nI Y) (nI r) = some (bI (hB F ops), h1) ∧ Rg h h1 := by
  obtain ⟨ok, dp, fr, c1, c2, c3, c4⟩ := E
  cases ops with
  | nil =>
    refine ⟨h, ?_, Rg.rfl⟩
    have c3 : m (Y + 2 + 5 * r + 4) = nI 0 := c3
    simp (disch := omega) only [MX12_holds, ↓reduceIte, Nat.reduceLT, Nat.reduceLeDiff, Nat.reduceEqDiff, ZL, nAdd, nMul, nSub, nLt, nLe, nEq, nCl, nDiv, nRem2, nM1, nM2, nM3, nM4, nM5, nM6, gg_in, gg_rf, gg_T, if_true, if_false, ↓lt_eq, ob_some, b2_some, up1_some, kd_sI, ln_sI, gP_sI, gI_sI, kd_rI, ln_rI, gP_rI, gI_rI, kd_bmp, ln_bmp, gP_bmp, gI_bmp, up_at, i0, i1, RS.f R, em, c2, c3, hB, bIT]
  | cons o l =>
    have dp : dpO (o :: l) 0 = some 1 := by
      rcases dp with z | z
      · exact absurd z (by simp)
      · exact z
    have ne : 0 < (((o :: l).flatMap encR)).length := by
      rw [show ((o :: l).flatMap encR) = encR o ++ l.flatMap encR from rfl, List.length_append]
      have : 0 < (encR o).length := by
        unfold encR
        split
        · exact Nat.succ_pos _
        · split
          · exact Nat.succ_pos _
          · split <;> exact Nat.succ_pos _
      omega
    have R0 : Rg h (sI h 73 24 (nI 0)) := ⟨Fr.sI (S := fun b => b = 73 ∨ b = 86) (Or.inl rfl), fun j hj => by rw [gI_sI, if_pos rfl, up_at, if_neg hj]⟩
    obtain ⟨N, hN⟩ : ∃ N, N = ((o :: l).flatMap encR).length := ⟨_, rfl⟩
    rw [← hN] at c1 c3 ne
    obtain ⟨h1, q1, q2, q3⟩ := r_ops (F := F) (m := m) (n := N) (Y := Y) (fr := fr) (by omega) (o :: l) 0 0 (fun _ => false) (sI h 73 24 (nI 0)) R.sI (by rw [gI_sI, if_neg (by omega)]; exact em) (R0.rf f) (by rw [gI_sI, if_pos rfl, up_at, if_pos rfl]) (fun j hj => absurd hj (by omega)) (by rw [Nat.zero_add]; exact hN.symm) (fun j hj => by rw [Nat.zero_add]; exact c4 j hj) ok (by omega) dp
    refine ⟨h1, ?_, R0.trans q2⟩
    have q4 := q3 0 (by omega)
    have Rh := q2.rk.rs (R.sI (a := 73) (i := 24) (v := nI 0))
    have e0 : MX12_holds h 73 (nI Y) (nI r) = MX12_holds_46 (sI h 73 24 (nI 0)) 73 (nI Y) (nI fr) (nI N) (nI 0) := by
      simp (disch := omega) only [MX12_holds, ↓reduceIte, Nat.reduceLT, Nat.reduceLeDiff, Nat.reduceEqDiff, ZL, nAdd, nMul, nSub, nLt, nLe, nEq, nCl, nDiv, nRem2, nM1, nM2, nM3, nM4, nM5, nM6, gg_in, gg_rf, gg_T, if_true, if_false, ↓lt_eq, ob_some, b2_some, up1_some, kd_sI, ln_sI, gP_sI, gI_sI, kd_rI, ln_rI, gP_rI, gI_rI, kd_bmp, ln_bmp, gP_bmp, gI_bmp, up_at, i0, i1, RS.f R, em, c2, c3]
    rw [e0, q1]
    simp (disch := omega) only [MX12_holds_360, ↓reduceIte, Nat.reduceLT, Nat.reduceLeDiff, Nat.reduceEqDiff, ZL, nAdd, nMul, nSub, nLt, nLe, nEq, nCl, nDiv, nRem2, nM1, nM2, nM3, nM4, nM5, nM6, gg_in, gg_rf, gg_T, if_true, if_false, ↓lt_eq, ob_some, b2_some, up1_some, kd_sI, ln_sI, gP_sI, gI_sI, kd_rI, ln_rI, gP_rI, gI_rI, kd_bmp, ln_bmp, gP_bmp, gI_bmp, up_at, i0, i1, RS.f Rh, q4, zBb]
    rfl
end
