/-! conditions of rules: the class's side -/
def bI (b : Bool) : Int32 := if b = true then nI 1 else nI 0
theorem vB0 : vp_nar .boolean (nI 0) = nI 0 := by decide
theorem vB1 : vp_nar .boolean (nI 1) = nI 1 := by decide
theorem bIT : bI true = nI 1 := rfl
theorem bIF : bI false = nI 0 := rfl
theorem vBb (b : Bool) : vp_nar .boolean (bI b) = bI b := by cases b <;> decide
theorem zBb (b : Bool) : (zOk (bI b) = true) = True := by cases b <;> simp [bIT, bIF, zk0, zk1]
theorem n10 : (nI 1 = nI 0) = False := eq_false (by decide)
theorem n01 : (nI 0 = nI 1) = False := eq_false (by decide)
theorem en_and {e c : Nat} (hc : c < 32) (he : e ≤ 9999) : nI (32 * e + c) &&& nI 31 = nI c := by
  rw [pk_andN (n := 32 * e + c) (by omega) (m := nI 31) 5 (by decide)]
  exact congrArg nI (by omega)
theorem en_shr {e c : Nat} (hc : c < 32) (he : e ≤ 9999) : nI (32 * e + c) >>> (nI 5 &&& nI 31) = nI e := by
  rw [pk_shrN (n := 32 * e + c) (by omega) _ 5 (by decide)]
  exact congrArg nI (by omega)
theorem lE (a b : Int32) : (if a ≤ b then some (nI 0) else some (nI 1)) = some (bI (decide (b < a))) := by
  by_cases z : a ≤ b
  · rw [if_pos z, decide_eq_false (fun q => Int32.not_le.mpr q z), bIF]
  · rw [if_neg z, decide_eq_true (Int32.not_le.mp z), bIT]
def opV (F : Nat → Int32) (o : Op) : Bool := if o.1 = 1 then decide (nI 0 < F o.2.1) else if o.1 = 2 then decide (F (3 + o.2.1) < nI o.2.2) else decide (nI o.2.2 < F (3 + o.2.1))
/-- one word of a condition, on the pile -/
def stp (F : Nat → Int32) (s : Nat × (Nat → Bool)) (o : Op) : Nat × (Nat → Bool) := if o.1 ≤ 3 then (s.1 + 1, va_up s.2 s.1 (opV F o)) else if o.1 = 4 then (s.1, va_up s.2 (s.1 - 1) (!(s.2 (s.1 - 1)))) else (s.1 - 1, va_up s.2 (s.1 - 2) (if o.1 = 5 then (s.2 (s.1 - 2) && s.2 (s.1 - 1)) else (s.2 (s.1 - 2) || s.2 (s.1 - 1))))
def evL (F : Nat → Int32) : List Op → Nat × (Nat → Bool) → Nat × (Nat → Bool)
  | [], s => s
  | o :: r, s => evL F r (stp F s o)
def hB (F : Nat → Int32) : List Op → Bool
  | [] => true
  | o :: r => (evL F (o :: r) (0, fun _ => false)).2 0
section
variable {h h1 h' : Hp} {y fa : Nat} {F : Nat → Int32}
theorem c_isTrue (kf : kd h fa = 20) (lf : ln h fa = 9) {c e : Nat} (hc : c < 27) (he : e ≤ 9999) : MX9_isTrue h (nI c) (nI e) fa = some (bI (if c < 9 then decide (nI 0 < gI h fa c) else if c < 18 then decide (gI h fa (c - 9) < nI e) else decide (nI e < gI h fa (c - 18)))) := by
  unfold MX9_isTrue
  simp only [ZL, pk_rem (show c < 2147483648 by omega) (show 0 < 9 by omega) (show 9 < 2147483648 by omega)]
  rw [if_neg (nI_nlt (by omega) (by omega)), gg_t kf, lf, if_pos (nI_lt (by omega) (by omega)), gg_in (by omega) (by omega), gg_in (by omega) (by omega), gg_in (by omega) (by omega), nCl (by omega)]
  by_cases c9 : c < 9
  · rw [if_pos (nI_lt (by omega) (by omega)), if_pos (nI_lt (by omega) (by omega)), if_pos c9, lE, show c % 9 = c by omega]
  · by_cases c18 : c < 18
    · rw [if_pos (nI_lt (by omega) (by omega)), if_neg (nI_nlt (by omega) (by omega)), if_neg c9, if_pos c18, show c % 9 = c - 9 by omega]
      by_cases z : nI e ≤ gI h fa (c - 9)
      · rw [if_pos z, decide_eq_false (fun q => Int32.not_le.mpr q z), bIF]
      · rw [if_neg z, decide_eq_true (Int32.not_le.mp z), bIT]
    · rw [if_neg (nI_nlt (by omega) (by omega)), if_neg c9, if_neg c18, lE, show c % 9 = c - 18 by omega]
/-- the cells that a weighing touches -/
def WgS (h : Hp) (y fa : Nat) (F : Nat → Int32) : Prop := kd h y = 8 ∧ (kd h (gP h y 5) = 20 ∧ ln h (gP h y 5) = 12) ∧ (kd h (gP h y 6) = 20 ∧ ln h (gP h y 6) = 256) ∧ (kd h (gP h y 7) = 22 ∧ ln h (gP h y 7) = 12) ∧ (kd h (gP h y 8) = 22 ∧ ln h (gP h y 8) = 64) ∧ (kd h fa = 20 ∧ ln h fa = 9) ∧ (∀ j, j < 9 → gI h fa j = F j) ∧ (Nq (gP h y 5) (gP h y 8) ∧ Nq (gP h y 6) (gP h y 8) ∧ Nq fa (gP h y 8) ∧ Nq y (gP h y 8) ∧ Nq (gP h y 7) (gP h y 8)) ∧ (Nq (gP h y 5) (gP h y 7) ∧ Nq (gP h y 6) (gP h y 7) ∧ Nq fa (gP h y 7) ∧ Nq y (gP h y 7))
theorem WgS.fr (W : WgS h y fa F) (G : Fr (fun b => b = gP h y 7 ∨ b = gP h y 8) h h1) : WgS h1 y fa F := by
  obtain ⟨w1, w2, w3, w4, w5, w6, w7, w8, w9⟩ := W
  have e : gI h1 fa = gI h fa := G.2.2.2.2.2.2 fa (fun z => by
    rcases z with z | z
    · exact w9.2.2.1.n z
    · exact w8.2.2.1.n z)
  unfold WgS
  rw [G.1, G.2.1, G.2.2.1, e]
  exact ⟨w1, w2, w3, w4, w5, w6, w7, w8, w9⟩
theorem c_push (W : WgS h y fa F) {c e d : Nat} (hc : c < 27) (he : e ≤ 9999) (hd : d < 50) : MX9_depthAfter h y (nI (32 * e + c)) fa (nI d) = some (nI (d + 1), sI h (gP h y 8) d (bI (if c < 9 then decide (nI 0 < gI h fa c) else if c < 18 then decide (gI h fa (c - 9) < nI e) else decide (nI e < gI h fa (c - 18))))) := by
  obtain ⟨w1, -, -, -, w5, w6, -⟩ := W
  simp (disch := omega) only [MX9_depthAfter, MX9_depthAfter_44, MX9_depthAfter_95, MX9_depthAfter_146, ↓reduceIte, Nat.reduceLT, Nat.reduceLeDiff, Nat.reduceEqDiff, ZL, nAdd, nMul, nSub, nLt, nLe, nEq, nCl, nDiv, nRem2, nM1, nM2, nM3, nM4, nM5, nM6, gg_in, gg_rf, gg_T, if_true, if_false, ↓lt_eq, ob_some, b2_some, up1_some, kd_sI, ln_sI, gP_sI, gI_sI, kd_rI, ln_rI, gP_rI, gI_rI, kd_bmp, ln_bmp, gP_bmp, gI_bmp, up_at, i0, i1, en_and, en_shr, w1, w5.1, w5.2, c_isTrue w6.1 w6.2, vBb]
theorem c_op (W : WgS h y fa F) {o : Op} {d : Nat} {g : Nat → Bool} (ok : okOp o) (hd : if o.1 ≤ 3 then d < 50 else if o.1 = 4 then 1 ≤ d ∧ d ≤ 50 else 2 ≤ d ∧ d ≤ 50) (hg : ∀ j, j < d → gI h (gP h y 8) j = bI (g j)) : ∃ i v, MX9_depthAfter h y (nI (encC o)) fa (nI d) = some (nI (stp F (d, g) o).1, sI h (gP h y 8) i v) ∧ (∀ j, j < (stp F (d, g) o).1 → (if j = i then v else gI h (gP h y 8) j) = bI ((stp F (d, g) o).2 j)) ∧ (stp F (d, g) o).1 ≤ 50 := by
  obtain ⟨o1, o2, o3⟩ := o
  have push : ∀ c e : Nat, c < 27 → e ≤ 9999 → d < 50 → encC (o1, o2, o3) = 32 * e + c → o1 ≤ 3 → (if c < 9 then decide (nI 0 < gI h fa c) else if c < 18 then decide (gI h fa (c - 9) < nI e) else decide (nI e < gI h fa (c - 18))) = opV F (o1, o2, o3) → ∃ i v, MX9_depthAfter h y (nI (encC (o1, o2, o3))) fa (nI d) = some (nI (stp F (d, g) (o1, o2, o3)).1, sI h (gP h y 8) i v) ∧ (∀ j, j < (stp F (d, g) (o1, o2, o3)).1 → (if j = i then v else gI h (gP h y 8) j) = bI ((stp F (d, g) (o1, o2, o3)).2 j)) ∧ (stp F (d, g) (o1, o2, o3)).1 ≤ 50 := fun c e hc he hd2 e1 h3 e2 => by
    have es : stp F (d, g) (o1, o2, o3) = (d + 1, va_up g d (opV F (o1, o2, o3))) := if_pos h3
    refine ⟨d, bI (opV F (o1, o2, o3)), ?_, ?_, ?_⟩
    · rw [es, e1, c_push W hc he hd2, e2]
    · rw [es]
      intro j hj
      have hj : j < d + 1 := hj
      show _ = bI (va_up g d (opV F (o1, o2, o3)) j)
      rw [up_at]
      by_cases z : j = d
      · rw [if_pos z, if_pos z]
      · rw [if_neg z, if_neg z]
        exact hg j (by omega)
    · rw [es]; show d + 1 ≤ 50; omega
  obtain ⟨w1, -, -, -, ⟨w5, w5'⟩, w6, w7, -⟩ := W
  have a29 : nI 29 &&& nI 31 = nI 29 := by decide
  have a28 : nI 28 &&& nI 31 = nI 28 := by decide
  have a27 : nI 27 &&& nI 31 = nI 27 := by decide
  rcases ok with ⟨q1, q2⟩ | ⟨q1, q2, q3⟩ | q1 | q1 | q1
  · have q1 : o1 = 1 := q1
    have q2 : o2 < 3 := q2
    subst q1
    refine push o2 0 (by omega) (by omega) hd (by show o2 = _; omega) (by omega) ?_
    rw [if_pos (by omega), w7 o2 (by omega)]
    rfl
  · have q2 : o2 < 6 := q2
    have q3 : o3 ≤ 9999 := q3
    rcases q1 with q1 | q1
    · have q1 : o1 = 2 := q1
      subst q1
      refine push (12 + o2) o3 (by omega) (by omega) hd (by show 32 * o3 + 12 + o2 = _; omega) (by omega) ?_
      rw [if_neg (by omega), if_pos (by omega), w7 _ (by omega), show 12 + o2 - 9 = 3 + o2 by omega]
      rfl
    · have q1 : o1 = 3 := q1
      subst q1
      refine push (21 + o2) o3 (by omega) (by omega) hd (by show 32 * o3 + 21 + o2 = _; omega) (by omega) ?_
      rw [if_neg (by omega), if_neg (by omega), w7 _ (by omega), show 21 + o2 - 18 = 3 + o2 by omega]
      rfl
  · have q1 : o1 = 4 := q1
    subst q1
    have hd : 1 ≤ d ∧ d ≤ 50 := hd
    have gd := hg (d - 1) (by omega)
    refine ⟨d - 1, bI (!(g (d - 1))), ?_, fun j hj => ?_, hd.2⟩
    · show MX9_depthAfter h y (nI 29) fa (nI d) = some (nI d, _)
      cases hb : g (d - 1) <;> rw [hb] at gd <;> simp (disch := omega) only [MX9_depthAfter, MX9_depthAfter_41, ↓reduceIte, Nat.reduceLT, Nat.reduceLeDiff, Nat.reduceEqDiff, ZL, nAdd, nMul, nSub, nLt, nLe, nEq, nCl, nDiv, nRem2, nM1, nM2, nM3, nM4, nM5, nM6, gg_in, gg_rf, gg_T, if_true, if_false, ↓lt_eq, ob_some, b2_some, up1_some, kd_sI, ln_sI, gP_sI, gI_sI, kd_rI, ln_rI, gP_rI, gI_rI, kd_bmp, ln_bmp, gP_bmp, gI_bmp, up_at, i0, i1, a29, w1, w5, w5', gd, bIT, bIF, n10, vB0, vB1, Bool.not_true, Bool.not_false]
    · show _ = bI (va_up g (d - 1) (!(g (d - 1))) j)
      have hj : j < d := hj
      rw [up_at]
      by_cases z : j = d - 1
      · rw [if_pos z, if_pos z]
      · rw [if_neg z, if_neg z]; exact hg j hj
  · have q1 : o1 = 5 := q1
    subst q1
    have hd : 2 ≤ d ∧ d ≤ 50 := hd
    have gd := hg (d - 1) (by omega)
    have ge := hg (d - 2) (by omega)
    refine ⟨d - 2, bI (g (d - 2) && g (d - 1)), ?_, fun j hj => ?_, by show d - 1 ≤ 50; omega⟩
    · show MX9_depthAfter h y (nI 27) fa (nI d) = some (nI (d - 1), _)
      cases hb : g (d - 1) <;> rw [hb] at gd <;> cases hc : g (d - 2) <;> rw [hc] at ge <;> simp (disch := omega) only [MX9_depthAfter, MX9_depthAfter_44, MX9_depthAfter_89, MX9_depthAfter_90, ↓reduceIte, Nat.reduceLT, Nat.reduceLeDiff, Nat.reduceEqDiff, ZL, nAdd, nMul, nSub, nLt, nLe, nEq, nCl, nDiv, nRem2, nM1, nM2, nM3, nM4, nM5, nM6, gg_in, gg_rf, gg_T, if_true, if_false, ↓lt_eq, ob_some, b2_some, up1_some, kd_sI, ln_sI, gP_sI, gI_sI, kd_rI, ln_rI, gP_rI, gI_rI, kd_bmp, ln_bmp, gP_bmp, gI_bmp, up_at, i0, i1, a27, w1, w5, w5', gd, ge, bIT, bIF, n10, vB0, vB1, Bool.and_true, Bool.and_false, Bool.true_and, Bool.false_and]
    · show _ = bI (va_up g (d - 2) (g (d - 2) && g (d - 1)) j)
      have hj : j < d - 1 := hj
      rw [up_at]
      by_cases z : j = d - 2
      · rw [if_pos z, if_pos z]
      · rw [if_neg z, if_neg z]; exact hg j (by omega)
  · have q1 : o1 = 6 := q1
    subst q1
    have hd : 2 ≤ d ∧ d ≤ 50 := hd
    have gd := hg (d - 1) (by omega)
    have ge := hg (d - 2) (by omega)
    refine ⟨d - 2, bI (g (d - 2) || g (d - 1)), ?_, fun j hj => ?_, by show d - 1 ≤ 50; omega⟩
    · show MX9_depthAfter h y (nI 28) fa (nI d) = some (nI (d - 1), _)
      cases hb : g (d - 1) <;> rw [hb] at gd <;> cases hc : g (d - 2) <;> rw [hc] at ge <;> simp (disch := omega) only [MX9_depthAfter, MX9_depthAfter_44, MX9_depthAfter_95, MX9_depthAfter_136, MX9_depthAfter_141, ↓reduceIte, Nat.reduceLT, Nat.reduceLeDiff, Nat.reduceEqDiff, ZL, nAdd, nMul, nSub, nLt, nLe, nEq, nCl, nDiv, nRem2, nM1, nM2, nM3, nM4, nM5, nM6, gg_in, gg_rf, gg_T, if_true, if_false, ↓lt_eq, ob_some, b2_some, up1_some, kd_sI, ln_sI, gP_sI, gI_sI, kd_rI, ln_rI, gP_rI, gI_rI, kd_bmp, ln_bmp, gP_bmp, gI_bmp, up_at, i0, i1, a28, w1, w5, w5', gd, ge, bIT, bIF, n10, vB0, vB1, Bool.or_true, Bool.or_false, Bool.true_or, Bool.false_or]
    · show _ = bI (va_up g (d - 2) (g (d - 2) || g (d - 1)) j)
      have hj : j < d - 1 := hj
      rw [up_at]
      by_cases z : j = d - 2
      · rw [if_pos z, if_pos z]
      · rw [if_neg z, if_neg z]; exact hg j (by omega)
theorem dpO_s {o : Op} {l : List Op} {d e : Nat} {g : Nat → Bool} (hd : dpO (o :: l) d = some e) (h50 : d ≤ 50) : (if o.1 ≤ 3 then d < 50 else if o.1 = 4 then 1 ≤ d ∧ d ≤ 50 else 2 ≤ d ∧ d ≤ 50) ∧ dpO l (stp F (d, g) o).1 = some e := by
  unfold dpO at hd
  unfold stp
  by_cases z : o.1 ≤ 3
  · rw [if_pos z] at hd ⊢
    rw [if_pos z]
    by_cases q : d < 50
    · rw [if_pos q] at hd; exact ⟨q, hd⟩
    · rw [if_neg q] at hd; exact absurd hd (by simp)
  · rw [if_neg z] at hd ⊢
    rw [if_neg z]
    by_cases z4 : o.1 = 4
    · rw [if_pos z4] at hd ⊢
      rw [if_pos z4]
      by_cases q : 1 ≤ d
      · rw [if_pos q] at hd; exact ⟨⟨q, h50⟩, hd⟩
      · rw [if_neg q] at hd; exact absurd hd (by simp)
    · rw [if_neg z4] at hd ⊢
      rw [if_neg z4]
      by_cases q : 2 ≤ d
      · rw [if_pos q] at hd; exact ⟨⟨q, h50⟩, hd⟩
      · rw [if_neg q] at hd; exact absurd hd (by simp)
/-- the words of one rule, one behind the other -/
theorem c_ops {r e : Nat} (hr : r < 12) : ∀ (ops : List Op) (i d : Nat) (g : Nat → Bool) (h : Hp), WgS h y fa F → gI h (gP h y 5) r = nI (i + ops.length) → i + ops.length ≤ 256 → (∀ j, j < ops.length → gI h (gP h y 6) (i + j) = nI (encC (ops.getD j (0, 0, 0)))) → (∀ o ∈ ops, okOp o) → d ≤ 50 → dpO ops d = some e → (∀ j, j < d → gI h (gP h y 8) j = bI (g j)) → ∃ h1, MX9_weigh_18 h y fa (nI r) (nI d) (nI i) = MX9_weigh_61 h1 y fa (nI r) (nI e) ∧ Fr (fun b => b = gP h y 8) h h1 ∧ e ≤ 50 ∧ ∀ j, j < e → gI h1 (gP h y 8) j = bI ((evL F ops (d, g)).2 j)
  | [], i, d, g, h, W, hE, h256, hC, ok, h50, hd, hg => by
    have hd : d = e := Option.some.inj hd
    subst hd
    obtain ⟨w1, ⟨w2, w2'⟩, ⟨w3, w3'⟩, -⟩ := W
    have hE : gI h (gP h y 5) r = nI i := hE
    have h256 : i ≤ 256 := h256
    have K : ∀ x : Option Hp, MX9_weigh_61 h y fa (nI r) (nI d) = MX9_weigh_61 h y fa (nI r) (nI d) := fun _ => rfl
    refine ⟨h, ?_, Fr.rfl, h50, fun j hj => hg j hj⟩
    have e1 : BX9_weigh_18 h y fa (nI r) (nI d) (nI i) = up1 (MX9_weigh_61 h y fa (nI r) (nI d)) := by
      unfold BX9_weigh_18
      rw [gg_t w1, gg_t w2, w2', gg_in (by omega) (by omega), nCl (by omega), hE, if_pos (nI_le (by omega) (by omega))]
    unfold MX9_weigh_18
    rw [it_eq]
    show (match BX9_weigh_18 h y fa (nI r) (nI d) (nI i) with | _ => _) = _
    rw [e1]
    cases MX9_weigh_61 h y fa (nI r) (nI d) <;> rfl
  | o :: l, i, d, g, h, W, hE, h256, hC, ok, h50, hd, hg => by
    obtain ⟨d1, d2⟩ := dpO_s (F := F) (g := g) hd h50
    have ok1 := ok o (List.mem_cons_self)
    obtain ⟨a, v, k1, k2, k3⟩ := c_op W ok1 d1 hg
    have hE : gI h (gP h y 5) r = nI (i + (l.length + 1)) := hE
    have h256 : i + (l.length + 1) ≤ 256 := h256
    have hC0 := hC 0 (by show 0 < l.length + 1; omega)
    have hC0 : gI h (gP h y 6) i = nI (encC o) := hC0
    have F1 : Fr (fun b => b = gP h y 8) h (sI h (gP h y 8) a v) := Fr.sI rfl
    have W1 : WgS (sI h (gP h y 8) a v) y fa F := W.fr (F1.mono (fun b z => Or.inr z))
    obtain ⟨w1, ⟨w2, w2'⟩, ⟨w3, w3'⟩, -, -, -, -, ⟨n5, n6, -⟩, -⟩ := W
    have e1 : BX9_weigh_18 h y fa (nI r) (nI d) (nI i) = some (.inl (nI (stp F (d, g) o).1, nI (i + 1), sI h (gP h y 8) a v)) := by
      unfold BX9_weigh_18
      rw [gg_t w1, gg_t w2, w2', gg_in (by omega) (by omega), nCl (by omega), hE, if_neg (nI_ge (by omega) (by omega)), gg_t w3, w3', if_neg (nI_ge (by omega) (by omega)), gg_in (by omega) (by omega), nCl (by omega), hC0, k1, b2_some, nI_1]
    obtain ⟨h1, q1, q2, q3, q4⟩ := c_ops hr l (i + 1) (stp F (d, g) o).1 (stp F (d, g) o).2 (sI h (gP h y 8) a v) W1 (by
        show gI (sI h (gP h y 8) a v) (gP h y 5) r = _
        rw [gI_sI, if_neg n5.n, hE]
        exact congrArg nI (by omega)) (by omega) (fun j hj => by
        show gI (sI h (gP h y 8) a v) (gP h y 6) (i + 1 + j) = _
        rw [gI_sI, if_neg n6.n]
        have := hC (j + 1) (by show j + 1 < l.length + 1; omega)
        rw [show i + 1 + j = i + (j + 1) by omega]
        exact this) (fun o2 ho => ok o2 (List.mem_cons_of_mem _ ho)) k3 d2 (fun j hj => by
        show gI (sI h (gP h y 8) a v) (gP h y 8) j = _
        rw [gI_sI, if_pos rfl, up_at]
        exact k2 j hj)
    refine ⟨h1, ?_, F1.trans q2, q3, q4⟩
    refine Eq.trans ?_ q1
    unfold MX9_weigh_18
    exact it_next e1
end
