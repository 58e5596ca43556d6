/-! conditions of rules: weighed by the class; the last that holds; facts -/
def lV (c : Nat) : Int32 := if c = 0 then -nI 1 else nI (c - 1)
theorem lV_s (j : Nat) : nI j + -nI 1 = lV j := by
  cases j with
  | zero => decide
  | succ j => exact pk_m1 j
theorem lV_m (j : Nat) : nI j - nI 1 = lV j := by
  cases j with
  | zero => decide
  | succ j => exact pk_sub (by omega)
theorem lV_neg {c : Nat} (hc : c < 2147483648) : (lV c < nI 0) = (c = 0) := by
  refine propext ?_
  unfold lV
  by_cases z : c = 0
  · rw [if_pos z]; exact ⟨fun _ => z, fun _ => by decide⟩
  · rw [if_neg z]; exact ⟨fun q => absurd q (nI_nlt (by omega) (by omega)), fun q => absurd q z⟩
theorem lV_eqm {c : Nat} (hc : c < 2147483648) : (lV c = -nI 1) = (c = 0) := by
  refine propext ?_
  unfold lV
  by_cases z : c = 0
  · rw [if_pos z]; exact ⟨fun _ => z, fun _ => rfl⟩
  · rw [if_neg z, nM6 (by omega)]; exact ⟨fun q => q.elim, fun q => absurd q z⟩
/-- the last below n with P: 0 none, j + 1 -/
def lrN (P : Nat → Bool) : Nat → Nat
  | 0 => 0
  | n + 1 => if P n = true then n + 1 else lrN P n
theorem lrN_le {P : Nat → Bool} : ∀ n, lrN P n ≤ n
  | 0 => Nat.le_refl 0
  | n + 1 => by
    unfold lrN
    have := lrN_le (P := P) n
    by_cases z : P n = true
    · rw [if_pos z]; exact Nat.le_refl _
    · rw [if_neg z]; omega
theorem lrN_P {P : Nat → Bool} : ∀ n, lrN P n ≠ 0 → P (lrN P n - 1) = true
  | 0, h => absurd rfl h
  | n + 1, h => by
    unfold lrN at h ⊢
    by_cases z : P n = true
    · rw [if_pos z]; exact z
    · rw [if_neg z] at h ⊢; exact lrN_P n h
theorem lrN_c {P Q : Nat → Bool} : ∀ n, (∀ j, j < n → P j = Q j) → lrN P n = lrN Q n
  | 0, _ => rfl
  | n + 1, H => by
    unfold lrN
    rw [H n (by omega), lrN_c n (fun j hj => H j (by omega))]
def CdA (h : Hp) (y n : Nat) (cd : Nat → List Op) (ce : Nat → Nat) : Prop := ce 0 = 0 ∧ ∀ r, r < n → gI h (gP h y 5) r = nI (ce (r + 1)) ∧ ce (r + 1) = ce r + (cd r).length ∧ ce (r + 1) ≤ 256 ∧ (∀ i, i < (cd r).length → gI h (gP h y 6) (ce r + i) = nI (encC ((cd r).getD i (0, 0, 0)))) ∧ (∀ o ∈ cd r, okOp o) ∧ (cd r = [] ∨ dpO (cd r) 0 = some 1)
section
variable {h h1 h' : Hp} {y fa n : Nat} {F : Nat → Int32} {cd : Nat → List Op} {ce : Nat → Nat}
theorem c_w61 (W : WgS h y fa F) {r e : Nat} (hr : r < 12) (b : Bool) (hb : (e = 0 ∧ b = true) ∨ (e = 1 ∧ gI h (gP h y 8) 0 = bI b)) : MX9_weigh_61 h y fa (nI r) (nI e) = some (.inl (gI h (gP h y 5) r, nI (r + 1), sI h (gP h y 7) r (bI b))) := by
  obtain ⟨w1, w2, w3, w4, w5, w6, w7, w8, ⟨n57, -⟩⟩ := W
  rcases hb with ⟨rfl, rfl⟩ | ⟨rfl, hb⟩
  · simp (disch := omega) only [MX9_weigh_61, MX9_weigh_80, MX9_weigh_85, ↓reduceIte, Nat.reduceLT, Nat.reduceLeDiff, Nat.reduceEqDiff, ZL, nAdd, nMul, nSub, nLt, nLe, nEq, nCl, nDiv, nRem2, nM1, nM2, nM3, nM4, nM5, nM6, gg_in, gg_rf, gg_T, if_true, if_false, ↓lt_eq, ob_some, b2_some, up1_some, kd_sI, ln_sI, gP_sI, gI_sI, kd_rI, ln_rI, gP_rI, gI_rI, kd_bmp, ln_bmp, gP_bmp, gI_bmp, up_at, i0, i1, w1, w2.1, w2.2, w4.1, w4.2, eq_false n57.n, bIT, vB1]
  · cases b <;> simp (disch := omega) only [MX9_weigh_61, MX9_weigh_80, MX9_weigh_85, ↓reduceIte, Nat.reduceLT, Nat.reduceLeDiff, Nat.reduceEqDiff, ZL, nAdd, nMul, nSub, nLt, nLe, nEq, nCl, nDiv, nRem2, nM1, nM2, nM3, nM4, nM5, nM6, gg_in, gg_rf, gg_T, if_true, if_false, ↓lt_eq, ob_some, b2_some, up1_some, kd_sI, ln_sI, gP_sI, gI_sI, kd_rI, ln_rI, gP_rI, gI_rI, kd_bmp, ln_bmp, gP_bmp, gI_bmp, up_at, i0, i1, w1, w2.1, w2.2, w4.1, w4.2, w5.1, w5.2, hb, eq_false n57.n, bIT, bIF, n10, vB0, vB1]
theorem c_weigh (hn : n ≤ 12) (W : WgS h y fa F) (e1 : gI h y 1 = nI n) (A : CdA h y n cd ce) : ∃ h1, MX9_weigh h y fa = some h1 ∧ (Fr (fun b => b = gP h y 7 ∨ b = gP h y 8) h h1 ∧ ∀ r, r < n → gI h1 (gP h y 7) r = bI (hB F (cd r))) := by
  unfold MX9_weigh MX9_weigh_4
  refine it_cnt (fun r s => s.1 = nI (ce r) ∧ s.2.1 = nI r ∧ Fr (fun b => b = gP h y 7 ∨ b = gP h y 8) h s.2.2 ∧ ∀ r', r' < r → gI s.2.2 (gP h y 7) r' = bI (hB F (cd r'))) n (fun r s hr p => ?_) (fun s p => ?_) ⟨by rw [A.1]; rfl, rfl, Fr.rfl, fun r' hr' => absurd hr' (by omega)⟩
  · obtain ⟨x, z, g⟩ := s
    obtain ⟨p1, p2, G, p4⟩ := p
    have p1 : x = nI (ce r) := p1
    have p2 : z = nI r := p2
    have G : Fr (fun b => b = gP h y 7 ∨ b = gP h y 8) h g := G
    subst p1 p2
    have W1 := W.fr G
    obtain ⟨c1, c2, c3, c4, c5, c6⟩ := A.2 r hr
    have ep : gP g = gP h := G.2.2.1
    obtain ⟨w1, w2, w3, w4, w5, w6, w7, ⟨m58, m68, mf8, my8, m78⟩, ⟨m57, m67, mf7, my7⟩⟩ := id W
    have ge : ∀ b, Nq b (gP h y 7) → Nq b (gP h y 8) → gI g b = gI h b := fun b z7 z8 => G.2.2.2.2.2.2 b (fun q => by
      rcases q with q | q
      · exact z7.n q
      · exact z8.n q)
    have step : ∀ e, dpO (cd r) 0 = some e → ((e = 0 ∧ hB F (cd r) = true) ∨ (e = 1 ∧ cd r ≠ [])) → ∃ s', BX9_weigh_4 g y fa (nI (ce r)) (nI r) = some (.inl s') ∧ s'.1 = nI (ce (r + 1)) ∧ s'.2.1 = nI (r + 1) ∧ Fr (fun b => b = gP h y 7 ∨ b = gP h y 8) h s'.2.2 ∧ ∀ r', r' < r + 1 → gI s'.2.2 (gP h y 7) r' = bI (hB F (cd r')) := fun e hd he => by
      obtain ⟨h2, q1, q2, q3, q4⟩ := c_ops (F := F) (y := y) (fa := fa) (show r < 12 by omega) (cd r) (ce r) 0 (fun _ => false) g W1 (by rw [ep, ge _ m57 m58, c1, c2]) (by omega) (fun j hj => by rw [ep, ge _ m67 m68]; exact c4 j hj) c5 (by omega) hd (fun j hj => absurd hj (by omega))
      rw [ep] at q2 q4
      have W2 : WgS h2 y fa F := W1.fr (by rw [ep]; exact q2.mono (fun b z => Or.inr z))
      have e2 : gP h2 = gP h := q2.2.2.1.trans ep
      have z5 : gI h2 (gP h y 5) = gI h (gP h y 5) := (q2.2.2.2.2.2.2 _ m58.n).trans (ge _ m57 m58)
      have z7 : gI h2 (gP h y 7) = gI g (gP h y 7) := q2.2.2.2.2.2.2 _ m78.n
      have k61 := c_w61 W2 (r := r) (e := e) (by omega) (hB F (cd r)) (by
        rcases he with he | ⟨he, hne⟩
        · exact Or.inl he
        · refine Or.inr ⟨he, ?_⟩
          rw [e2, q4 0 (by omega)]
          cases hc : cd r with
          | nil => exact absurd hc hne
          | cons o l => rfl)
      rw [e2, z5, c1] at k61
      refine ⟨(nI (ce (r + 1)), nI (r + 1), sI h2 (gP h y 7) r (bI (hB F (cd r)))), ?_, rfl, rfl, (G.trans (q2.mono (fun b z => Or.inr z))).trans (Fr.sI (Or.inl rfl)), fun r' hr' => ?_⟩
      · unfold BX9_weigh_4
        rw [gg_t (by rw [G.1]; exact w1), ge y my7 my8, e1, if_neg (nI_ge (by omega) (by omega))]
        exact q1.trans k61
      · show gI (sI h2 (gP h y 7) r (bI (hB F (cd r)))) (gP h y 7) r' = _
        rw [gI_sI, if_pos rfl, up_at]
        by_cases z : r' = r
        · rw [if_pos z, z]
        · rw [if_neg z, z7]; exact p4 r' (by omega)
    by_cases z : cd r = []
    · exact step 0 (by rw [z]; rfl) (Or.inl ⟨rfl, by rw [z]; rfl⟩)
    · rcases c6 with c6 | c6
      · exact absurd c6 z
      · exact step 1 c6 (Or.inr ⟨rfl, z⟩)
  · obtain ⟨x, z, g⟩ := s
    obtain ⟨p1, p2, G, p4⟩ := p
    have p2 : z = nI n := p2
    have G : Fr (fun b => b = gP h y 7 ∨ b = gP h y 8) h g := G
    subst p2
    refine ⟨g, ?_, G, p4⟩
    show BX9_weigh_4 g y fa x (nI n) = _
    obtain ⟨w1, w2, w3, w4, w5, w6, w7, ⟨m58, m68, mf8, my8, m78⟩, ⟨m57, m67, mf7, my7⟩⟩ := id W
    have ge : gI g y = gI h y := G.2.2.2.2.2.2 y (fun q => by
      rcases q with q | q
      · exact my7.n q
      · exact my8.n q)
    unfold BX9_weigh_4
    rw [gg_t (by rw [G.1]; exact w1), ge, e1, if_pos (nI_le (by omega) (by omega))]
theorem c_last {w : Nat} (hn : n ≤ 12) (hw : w < 7) (hk : kd h y = 8) (k2 : kd h (gP h y 2) = 20 ∧ ln h (gP h y 2) = 12) (k7 : kd h (gP h y 7) = 22 ∧ ln h (gP h y 7) = 12) (e1 : gI h y 1 = nI n) (P : Nat → Bool) (hP : ∀ r, r < n → ((gI h (gP h y 2) r = nI w ∧ gI h (gP h y 7) r ≠ nI 0) ↔ P r = true)) : MX9_lastThatHolds h y (nI w) = some (lV (lrN P n)) := by
  have K : ∀ j, j ≤ n → it (fun q : Int32 => BX9_lastThatHolds_7 h y (nI w) q) (lV j) = some (lV (lrN P j)) := by
    intro j
    induction j with
    | zero =>
      intro _
      refine it_done ?_
      show BX9_lastThatHolds_7 h y (nI w) (-nI 1) = some (.inr (-nI 1))
      unfold BX9_lastThatHolds_7
      rw [if_pos (by decide)]
      rfl
    | succ j ih =>
      intro hj
      have st : BX9_lastThatHolds_7 h y (nI w) (nI j) = if P j = true then some (.inr (nI j)) else some (.inl (lV j)) := by
        unfold BX9_lastThatHolds_7
        simp only [ZL]
        rw [if_neg (nI_nlt (by omega) (by omega)), gg_t hk, gg_t k2.1, k2.2, gg_in (by omega) (by omega), nCl (by omega), gg_t k7.1, k7.2, gg_in (by omega) (by omega), lV_s j]
        have q := hP j (by omega)
        by_cases z1 : gI h (gP h y 2) j = nI w
        · rw [if_pos z1]
          by_cases z2 : gI h (gP h y 7) j = nI 0
          · rw [if_pos z2, if_neg (fun p => (q.mpr p).2 z2)]
          · rw [if_neg z2, if_pos (q.mp ⟨z1, z2⟩)]
        · rw [if_neg z1, if_neg (fun p => z1 (q.mpr p).1)]
      show it _ (nI j) = _
      unfold lrN
      by_cases z : P j = true
      · rw [if_pos z] at st ⊢
        exact it_done st
      · rw [if_neg z] at st ⊢
        rw [it_next (f := fun q : Int32 => BX9_lastThatHolds_7 h y (nI w) q) st]
        exact ih (by omega)
  unfold MX9_lastThatHolds MX9_lastThatHolds_7
  rw [gg_t hk, e1, show nI n - (1 : Int32) = lV n from lV_m n]
  exact K n (Nat.le_refl n)
end
theorem frs {h h1 : Hp} {a i : Nat} {v : Int32} (G : Fr (fun b => b = a) h h1) : Fr (fun b => b = a) h (sI h1 a i v) := G.trans (Fr.sI (S := fun b => b = a) (Eq.refl _))
/-- facts of part q at minute t -/
def fcP (m : Nat → Int32) (q : Nat) (t : Int32) (j : Nat) : Int32 := if j = 0 then (if m (70 + q / 5) = nI 1 then nI 1 else nI 0) else if j = 1 then (if t ≤ m (90 + q / 5) then nI 0 else nI 1) else if j = 2 then nI 0 else if j = 3 then m (130 + 645 * q) else if j = 4 then m (130 + 645 * q + 1) else if j = 5 then m (90 + q / 5) else if j = 6 then t else if j = 7 then nI 0 else nI 99
theorem d9 {j : Nat} (h : j < 9) : j = 0 ∨ j = 1 ∨ j = 2 ∨ j = 3 ∨ j = 4 ∨ j = 5 ∨ j = 6 ∨ j = 7 ∨ j = 8 := by omega
section
variable {h h1 h' : Hp} {r p q : Nat} {m : Nat → Int32}
theorem c_facts (S : RmS h r) (PS : PtS h p) (V : PtV h p m q) (t : Int32) (n1 : Nq r (gP h r 15)) (n2 : Nq p (gP h r 15)) : ∃ h1, MX7_factsOfPart h r p t = some h1 ∧ (Fr (fun b => b = gP h r 15) h h1 ∧ ∀ j, j < 9 → gI h1 (gP h r 15) j = fcP m q t j) := by
  have s1 := S.1
  obtain ⟨x0, x1, x2⟩ := S.2.2.2.2.2.2.2.2.2.1
  have p1 := PS.1
  obtain ⟨v5, v6, v7, v8, -⟩ := V
  have e1 := eq_false n1.n
  have e2 := eq_false n2.n
  have W : ∀ a b : Int32, (if m (70 + q / 5) = nI 1 then nI 1 else nI 0) = a → (if t ≤ m (90 + q / 5) then nI 0 else nI 1) = b → ∃ h1, MX7_factsOfPart_37 (sI h (gP h r 15) 0 a) r p t (gP h r 15) (nI 1) b = some h1 ∧ (Fr (fun b => b = gP h r 15) h h1 ∧ ∀ j, j < 9 → gI h1 (gP h r 15) j = fcP m q t j) := fun a b ha hb => by
    refine ⟨sI (sI (sI (sI (sI (sI (sI (sI (sI h (gP h r 15) 0 a) (gP h r 15) 1 b) (gP h r 15) 2 (nI 0)) (gP h r 15) 3 (m (130 + 645 * q))) (gP h r 15) 4 (m (130 + 645 * q + 1))) (gP h r 15) 5 (m (90 + q / 5))) (gP h r 15) 6 t) (gP h r 15) 7 (nI 0)) (gP h r 15) 8 (nI 99), ?_, ?_, fun j hj => ?_⟩
    · simp (disch := omega) only [MX7_factsOfPart_37, ↓reduceIte, Nat.reduceLT, Nat.reduceLeDiff, Nat.reduceEqDiff, ZL, nAdd, nMul, nSub, nLt, nLe, nEq, nCl, nDiv, nRem2, nM1, nM2, nM3, nM4, nM5, nM6, gg_in, gg_rf, gg_T, if_true, if_false, ↓lt_eq, ob_some, b2_some, up1_some, kd_sI, ln_sI, gP_sI, gI_sI, kd_rI, ln_rI, gP_rI, gI_rI, kd_bmp, ln_bmp, gP_bmp, gI_bmp, up_at, i0, i1, s1, x1, x2, p1, e1, e2, v5, v6, v7, v8]
    · exact frs (frs (frs (frs (frs (frs (frs (frs (frs Fr.rfl))))))))
    · unfold fcP
      rw [ha, hb]
      simp only [gI_sI, if_true, up_at]
      rcases d9 hj with rfl | rfl | rfl | rfl | rfl | rfl | rfl | rfl | rfl <;> rfl
  unfold MX7_factsOfPart
  rw [gg_t s1, gg_t p1, v7]
  have K : ∀ a : Int32, (if m (70 + q / 5) = nI 1 then nI 1 else nI 0) = a → ∃ h1, MX7_factsOfPart_18 h r p t (gP h r 15) (nI 0) a = some h1 ∧ (Fr (fun b => b = gP h r 15) h h1 ∧ ∀ j, j < 9 → gI h1 (gP h r 15) j = fcP m q t j) := fun a ha => by
    by_cases z : t ≤ m (90 + q / 5)
    · have := W a (nI 0) ha (if_pos z)
      simp (disch := omega) only [MX7_factsOfPart_18, ↓reduceIte, Nat.reduceLT, Nat.reduceLeDiff, Nat.reduceEqDiff, ZL, nAdd, nMul, nSub, nLt, nLe, nEq, nCl, nDiv, nRem2, nM1, nM2, nM3, nM4, nM5, nM6, gg_in, gg_rf, gg_T, if_true, if_false, ↓lt_eq, ob_some, b2_some, up1_some, kd_sI, ln_sI, gP_sI, gI_sI, kd_rI, ln_rI, gP_rI, gI_rI, kd_bmp, ln_bmp, gP_bmp, gI_bmp, up_at, i0, i1, s1, x1, x2, p1, e1, e2, v8, z]
      exact this
    · have := W a (nI 1) ha (if_neg z)
      simp (disch := omega) only [MX7_factsOfPart_18, ↓reduceIte, Nat.reduceLT, Nat.reduceLeDiff, Nat.reduceEqDiff, ZL, nAdd, nMul, nSub, nLt, nLe, nEq, nCl, nDiv, nRem2, nM1, nM2, nM3, nM4, nM5, nM6, gg_in, gg_rf, gg_T, if_true, if_false, ↓lt_eq, ob_some, b2_some, up1_some, kd_sI, ln_sI, gP_sI, gI_sI, kd_rI, ln_rI, gP_rI, gI_rI, kd_bmp, ln_bmp, gP_bmp, gI_bmp, up_at, i0, i1, s1, x1, x2, p1, e1, e2, v8, z]
      exact this
  by_cases z : m (70 + q / 5) = nI 1
  · have := K (nI 1) (if_pos z)
    rw [show (1 : Int32) = nI 1 from rfl, if_pos z]
    exact this
  · have := K (nI 0) (if_neg z)
    rw [show (1 : Int32) = nI 1 from rfl, if_neg z]
    exact this
end
