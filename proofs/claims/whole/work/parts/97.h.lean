/-! what a line says: as a list of bytes; written by the reference -/
def bitL (m : Nat → Int32) (q k : Nat) : List Nat := (List.range (Nn m (130 + 645 * q + 125 + k))).map (fun x => 97 + Nn m (130 + 645 * q + 165 + 12 * k + x))
def blL (m : Nat → Int32) (q a d : Nat) : List Nat := if d ≠ 0 ∧ wkN m q (a + d) ≠ wkN m q (a + d - 1) then [32] else []
/-- the bytes of d pieces from a on -/
def txR (m : Nat → Int32) (q a : Nat) : Nat → List Nat
  | 0 => []
  | d + 1 => txR m q a d ++ blL m q a d ++ bitL m q (a + d)
def hyL (m : Nat → Int32) (q b : Nat) : List Nat := if weN m q (b + 1) = weN m q b then [45] else []
/-- the bytes of the line of the pieces a to b -/
def wtX (m : Nat → Int32) (q a b : Nat) : List Nat := txR m q a (b + 1 - a) ++ hyL m q b
def sgN (s : Nat) : Nat := if s = 26 then 45 else 97 + s
/-- how many of a sign -/
def sgC (l : List Nat) (s : Nat) : Nat := (l.filter (fun x => decide (x = sgN s))).length
/-- a list at the begin of an array -/
def PLs (h : Hp) (c : Nat) (l : List Nat) : Prop := ∀ j, j < l.length → gI h c j = nI (l.getD j 0)
theorem sgC_app {l : List Nat} {x s : Nat} : sgC (l ++ [x]) s = sgC l s + (if x = sgN s then 1 else 0) := by
  unfold sgC
  rw [List.filter_append, List.length_append]
  by_cases z : x = sgN s
  · rw [if_pos z]; simp [z]
  · rw [if_neg z]; simp [z]
theorem sgC_le {l : List Nat} {s : Nat} : sgC l s ≤ l.length := List.length_filter_le _ _
theorem getD_e {l : List Nat} {x : Nat} : (l ++ [x]).getD l.length 0 = x := by
  rw [List.getD_eq_getElem?_getD, List.getElem?_append_right (Nat.le_refl _), Nat.sub_self]
  rfl
theorem PLs.app {h h1 : Hp} {c x : Nat} {l : List Nat} (P : PLs h c l) (e : ∀ j, gI h1 c j = if j = l.length then nI x else gI h c j) : PLs h1 c (l ++ [x]) := fun j hj => by
  rw [List.length_append] at hj
  have hj : j < l.length + 1 := hj
  rw [e]
  by_cases z : j = l.length
  · rw [if_pos z, z, getD_e]
  · rw [if_neg z, getD_app1 (by omega)]
    exact P j (by omega)
section
variable {h h1 h' : Hp} {m : Nat → Int32} {q a b l : Nat}
theorem bitL_len {k : Nat} : (bitL m q k).length = Nn m (130 + 645 * q + 125 + k) := by unfold bitL; rw [List.length_map, List.length_range]
theorem bitL_take {k x : Nat} (hx : x < Nn m (130 + 645 * q + 125 + k)) : (bitL m q k).take (x + 1) = (bitL m q k).take x ++ [97 + Nn m (130 + 645 * q + 165 + 12 * k + x)] := by
  rw [List.take_succ_eq_append_getElem (by rw [bitL_len]; exact hx)]
  simp [bitL]
theorem txR_s {d : Nat} : txR m q a (d + 1) = txR m q a d ++ blL m q a d ++ bitL m q (a + d) := rfl
theorem txR_pre : ∀ {d e : Nat}, d ≤ e → txR m q a d <+: txR m q a e := by
  intro d e
  induction e with
  | zero => intro h; rw [show d = 0 by omega]; exact List.prefix_refl _
  | succ e ih =>
    intro h
    by_cases z : d = e + 1
    · rw [z]; exact List.prefix_refl _
    · refine (ih (by omega)).trans ?_
      rw [txR_s, List.append_assoc]
      exact List.prefix_append _ _
theorem wt_pre {d x : Nat} (hd : a + d ≤ b) : (txR m q a d ++ blL m q a d ++ (bitL m q (a + d)).take x).length ≤ (wtX m q a b).length := by
  have h1 : (txR m q a d ++ blL m q a d ++ (bitL m q (a + d)).take x) <+: txR m q a (d + 1) := by
    rw [txR_s]
    exact List.prefix_append_right_inj _ |>.mpr (List.take_prefix _ _)
  have h2 : txR m q a (d + 1) <+: txR m q a (b + 1 - a) := txR_pre (by omega)
  exact ((h1.trans h2).trans (List.prefix_append _ _)).length_le
theorem txR_len (J : MIp m q) : ∀ d, a + d < nP m q → (txR m q a (d + 1)).length + lsN m q a + weN m q a = lsN m q (a + d + 1) + weN m q (a + d)
  | 0, h => by
    rw [txR_s, show txR m q a 0 = [] from rfl, show blL m q a 0 = [] from if_neg (by omega)]
    rw [List.nil_append, List.nil_append, bitL_len]
    show Nn m (130 + 645 * q + 125 + a) + lsN m q a + weN m q a = lsN m q a + Nn m (130 + 645 * q + 125 + a) + weN m q a
    omega
  | d + 1, h => by
    have ih := txR_len J d (by omega)
    obtain ⟨e1, e2, e3⟩ := we_s J (k := a + d) (by omega)
    have e4 := (we_s J (k := a + d + 1) (by omega)).2.2
    have pd := pd_iff J (b := a + d) (by omega)
    rw [txR_s, List.length_append, List.length_append, bitL_len]
    show _ = lsN m q (a + d + 1) + Nn m (130 + 645 * q + 125 + (a + d + 1)) + weN m q (a + d + 1)
    rw [show a + (d + 1) = a + d + 1 by omega]
    unfold blL
    rw [show a + (d + 1) = a + d + 1 by omega, Nat.add_sub_cancel, ← e3, ← e4]
    by_cases z : weN m q (a + d + 1) = weN m q (a + d)
    · rw [if_neg (fun w => w.2 z)]
      show _ + 0 + _ + _ + _ = _
      omega
    · rw [if_pos ⟨by omega, z⟩]
      have := e1 (Classical.byContradiction fun w => z (pd.mpr w))
      show _ + 1 + _ + _ + _ = _
      omega
theorem wt_len (J : MIp m q) (hab : a ≤ b) (hb : b < nP m q) : (wtX m q a b).length ≤ lsN m q (b + 1) - lsN m q a + (weN m q b - weN m q a) + 1 ∧ lsN m q a ≤ lsN m q (b + 1) ∧ weN m q a ≤ weN m q b := by
  have h1 := txR_len J (a := a) (b - a) (by omega)
  rw [show b - a + 1 = b + 1 - a by omega, show a + (b - a) + 1 = b + 1 by omega, show a + (b - a) = b by omega] at h1
  have h2 : (hyL m q b).length ≤ 1 := by unfold hyL; split <;> simp
  have h3 := we_mono J (a := a) (b - a) (by omega)
  rw [show a + (b - a) = b by omega] at h3
  have h4 : ∀ d, lsN m q a ≤ lsN m q (a + d) := fun d => by
    induction d with
    | zero => exact Nat.le_refl _
    | succ d ih => exact Nat.le_trans ih (Nat.le_add_right _ _)
  have h5 := h4 (b + 1 - a)
  rw [show a + (b + 1 - a) = b + 1 by omega] at h5
  unfold wtX
  rw [List.length_append]
  omega
theorem by_r (B : MIb m) (J : MIp m q) {k x : Nat} (hk : k < nP m q) (hx : x < Nn m (130 + 645 * q + 125 + k)) : Nn m (130 + 645 * q + 165 + 12 * k + x) ≤ 25 := ((J.bt hk).2.2.2.2.2 x hx).2
/-- what the reference has written so far -/
def WL (h : Hp) (l : List Nat) : Prop := gI h 73 35 = nI l.length ∧ PLs h 90 l ∧ ∀ s, s < 27 → gI h 91 s = nI (sgC l s)
/-- only the line, its needs and its length are changed -/
def Rw (h h1 : Hp) : Prop := Fr (fun b => b = 73 ∨ b = 90 ∨ b = 91) h h1 ∧ ∀ j, j ≠ 35 → gI h1 73 j = gI h 73 j
theorem Rw.rfl : Rw h h := ⟨Fr.rfl, fun _ _ => Eq.refl _⟩
theorem Rw.trans {h2 : Hp} (a : Rw h h1) (b : Rw h1 h2) : Rw h h2 := ⟨a.1.trans b.1, fun j hj => (b.2 j hj).trans (a.2 j hj)⟩
theorem Rw.rk (a : Rw h h1) : Rk h h1 := ⟨a.1.mono (fun b z => by omega), a.2 0 (by omega), a.2 4 (by omega), a.2 6 (by omega), a.2 9 (by omega)⟩
theorem Rw.em (a : Rw h h1) (e : gI h 74 = m) : gI h1 74 = m := by rw [a.rk.g (by omega) (by omega)]; exact e
/-- a letter more -/
theorem WL.let {l : List Nat} {c : Nat} (W : WL h l) (hc : c ≤ 25) : WL (sI (sI (sI h 91 c (nI (sgC l c + 1))) 90 l.length (nI (97 + c))) 73 35 (nI (l.length + 1))) (l ++ [97 + c]) ∧ Rw h (sI (sI (sI h 91 c (nI (sgC l c + 1))) 90 l.length (nI (97 + c))) 73 35 (nI (l.length + 1))) := by
  obtain ⟨W1, W2, W3⟩ := W
  refine ⟨⟨?_, W2.app (fun j => ?_), fun s hs => ?_⟩, ((Fr.sI (S := fun b => b = 73 ∨ b = 90 ∨ b = 91) (Or.inr (Or.inr (Eq.refl _)))).trans (Fr.sI (S := fun b => b = 73 ∨ b = 90 ∨ b = 91) (Or.inr (Or.inl (Eq.refl _))))).trans (Fr.sI (S := fun b => b = 73 ∨ b = 90 ∨ b = 91) (Or.inl (Eq.refl _))), fun j hj => ?_⟩
  · rw [gIl, List.length_append]; rfl
  · rw [gI_sI, if_neg (show ¬ 90 = 73 by omega), gI_sI, if_pos (Eq.refl 90), up_at, gI_sI, if_neg (show ¬ 90 = 91 by omega)]
  · rw [gI_sI, if_neg (show ¬ 91 = 73 by omega), gI_sI, if_neg (show ¬ 91 = 90 by omega), gI_sI, if_pos (Eq.refl 91), up_at, sgC_app]
    by_cases z : s = c
    · rw [if_pos z, if_pos (by unfold sgN; rw [if_neg (by omega), z]), z]
    · rw [if_neg z, if_neg (by unfold sgN; split <;> omega)]
      exact W3 s hs
  · rw [gI_sI, if_pos (Eq.refl 73), up_at, if_neg hj, gI_sI, if_neg (show ¬ 73 = 90 by omega), gI_sI, if_neg (show ¬ 73 = 91 by omega)]
theorem WL.blank {l : List Nat} (W : WL h l) : WL (sI (sI h 90 l.length (nI 32)) 73 35 (nI (l.length + 1))) (l ++ [32]) ∧ Rw h (sI (sI h 90 l.length (nI 32)) 73 35 (nI (l.length + 1))) := by
  obtain ⟨W1, W2, W3⟩ := W
  refine ⟨⟨?_, W2.app (fun j => ?_), fun s hs => ?_⟩, (Fr.sI (S := fun b => b = 73 ∨ b = 90 ∨ b = 91) (Or.inr (Or.inl (Eq.refl _)))).trans (Fr.sI (S := fun b => b = 73 ∨ b = 90 ∨ b = 91) (Or.inl (Eq.refl _))), fun j hj => ?_⟩
  · rw [gIl, List.length_append]; rfl
  · rw [gI_sI, if_neg (show ¬ 90 = 73 by omega), gI_sI, if_pos (Eq.refl 90), up_at]
  · rw [gI_sI, if_neg (show ¬ 91 = 73 by omega), gI_sI, if_neg (show ¬ 91 = 90 by omega), sgC_app, if_neg (by unfold sgN; split <;> omega)]
    exact W3 s hs
  · rw [gI_sI, if_pos (Eq.refl 73), up_at, if_neg hj, gI_sI, if_neg (show ¬ 73 = 90 by omega)]
theorem WL.hyp {l : List Nat} (W : WL h l) : WL (sI (sI (sI h 91 26 (nI (sgC l 26 + 1))) 90 l.length (nI 45)) 73 35 (nI (l.length + 1))) (l ++ [45]) ∧ Rw h (sI (sI (sI h 91 26 (nI (sgC l 26 + 1))) 90 l.length (nI 45)) 73 35 (nI (l.length + 1))) := by
  obtain ⟨W1, W2, W3⟩ := W
  refine ⟨⟨?_, W2.app (fun j => ?_), fun s hs => ?_⟩, ((Fr.sI (S := fun b => b = 73 ∨ b = 90 ∨ b = 91) (Or.inr (Or.inr (Eq.refl _)))).trans (Fr.sI (S := fun b => b = 73 ∨ b = 90 ∨ b = 91) (Or.inr (Or.inl (Eq.refl _))))).trans (Fr.sI (S := fun b => b = 73 ∨ b = 90 ∨ b = 91) (Or.inl (Eq.refl _))), fun j hj => ?_⟩
  · rw [gIl, List.length_append]; rfl
  · rw [gI_sI, if_neg (show ¬ 90 = 73 by omega), gI_sI, if_pos (Eq.refl 90), up_at, gI_sI, if_neg (show ¬ 90 = 91 by omega)]
  · rw [gI_sI, if_neg (show ¬ 91 = 73 by omega), gI_sI, if_neg (show ¬ 91 = 90 by omega), gI_sI, if_pos (Eq.refl 91), up_at, sgC_app]
    by_cases z : s = 26
    · rw [if_pos z, if_pos (by unfold sgN; rw [if_pos z]), z]
    · rw [if_neg z, if_neg (by unfold sgN; rw [if_neg z]; omega)]
      exact W3 s hs
  · rw [gI_sI, if_pos (Eq.refl 73), up_at, if_neg hj, gI_sI, if_neg (show ¬ 73 = 90 by omega), gI_sI, if_neg (show ¬ 73 = 91 by omega)]
/-- line l goes from piece a to piece b -/
def Ln (m : Nat → Int32) (q l a b : Nat) : Prop := l < 40 ∧ m (130 + 645 * q + 5 + l) = nI b ∧ ((l = 0 ∧ a = 0) ∨ (1 ≤ l ∧ 1 ≤ a ∧ m (130 + 645 * q + 5 + (l - 1)) = nI (a - 1))) ∧ a ≤ b ∧ b < nP m q ∧ (wtX m q a b).length ≤ 401
theorem r_begins (R : RS h) (em : gI h 74 = m) (hq : vP m q) (j40 : nP m q ≤ 40) (H : Ln m q l a b) : MX12_begins h 73 (nI (130 + 645 * q)) (nI l) = some (nI a) := by
  obtain ⟨l40, eb, ea, hab, hb, -⟩ := H
  have hq0 := hq.1
  unfold MX12_begins
  rcases ea with ⟨rfl, rfl⟩ | ⟨l1, a1, ea⟩
  · rw [if_pos (show nI 0 = 0 from rfl)]
    rfl
  · rw [if_neg (by rw [show (0 : Int32) = nI 0 from rfl, nEq (by omega) (by omega)]; omega)]
    have e : 130 + 645 * q + 5 + l - 1 = 130 + 645 * q + 5 + (l - 1) := by omega
    simp (disch := omega) only [↓reduceIte, Nat.reduceLT, Nat.reduceLeDiff, Nat.reduceEqDiff, ZL, nAdd, nMul, nSub, nLt, nLe, nEq, nCl, nDiv, nRem2, nM1, nM2, nM3, nM4, nM5, nM6, gg_in, gg_rf, gg_T, if_true, if_false, ↓lt_eq, ob_some, b2_some, up1_some, kd_sI, ln_sI, gP_sI, gI_sI, kd_rI, ln_rI, gP_rI, gI_rI, kd_bmp, ln_bmp, gP_bmp, gI_bmp, up_at, i0, i1, RS.f R, em, e, ea]
    exact congrArg (fun z => some (nI z)) (by omega)
theorem r_wrI (R : RS h) (em : gI h 74 = m) (B : MIb m) (hq : vP m q) (J : MIp m q) (H : Ln m q l a b) : ∀ (g : Hp) d, a + d ≤ b → Rw h g → WL g (txR m q a d ++ blL m q a d) → ∃ r, MX12_write_122 g 73 (nI l) (nI (130 + 645 * q)) (nI b) (nI (a + d)) = some r ∧ (∃ g1, r = .inl (nI (a + (d + 1)), g1) ∧ Rw h g1 ∧ WL g1 (txR m q a (d + 1))) := fun g d hd G W => by
  obtain ⟨-, j40, j1⟩ := J.n
  have hq0 := hq.1
  have bg : ∀ {g : Hp}, Rw h g → MX12_begins g 73 (nI (130 + 645 * q)) (nI l) = some (nI a) := fun K => r_begins (K.rk.rs R) (K.em em) hq j40 H
  obtain ⟨l40, eb, ea, hab, hbn, hlen⟩ := H
  unfold MX12_write_122 MX12_write_125
  obtain ⟨a1, a2, a3, a4, a5, a6⟩ := J.bt (k := a + d) (by omega)
  refine it_cnt (fun x s => s.1 = nI x ∧ Rw h s.2 ∧ WL s.2 (txR m q a d ++ blL m q a d ++ (bitL m q (a + d)).take x)) (Nn m (130 + 645 * q + 125 + (a + d))) (fun x s hx p => ?_) (fun s p => ?_) ⟨rfl, G, by rw [List.take_zero, List.append_nil]; exact W⟩
  · obtain ⟨z, g1⟩ := s
    obtain ⟨p1, G1, W1⟩ := p
    replace p1 : z = nI x := p1
    replace G1 : Rw h g1 := G1
    replace W1 : WL g1 (txR m q a d ++ blL m q a d ++ (bitL m q (a + d)).take x) := W1
    subst p1
    obtain ⟨c1, c2⟩ := a6 x hx
    have lb := wt_pre (m := m) (q := q) (x := x) hd
    obtain ⟨L, hL⟩ : ∃ L, L = txR m q a d ++ blL m q a d ++ (bitL m q (a + d)).take x := ⟨_, rfl⟩
    rw [← hL] at W1 lb
    obtain ⟨w1, w2⟩ := W1.let c2
    have R1 := G1.rk.rs R
    have m1 := G1.em em
    obtain ⟨W11, W12, W13⟩ := id W1
    have e91 := W13 (Nn m (130 + 645 * q + 165 + 12 * (a + d) + x)) (by omega)
    refine ⟨(nI (x + 1), sI (sI (sI g1 91 (Nn m (130 + 645 * q + 165 + 12 * (a + d) + x)) (nI (sgC L (Nn m (130 + 645 * q + 165 + 12 * (a + d) + x)) + 1))) 90 L.length (nI (97 + Nn m (130 + 645 * q + 165 + 12 * (a + d) + x)))) 73 35 (nI (L.length + 1))), ?_, rfl, G1.trans w2, ?_⟩
    · show BX12_write_125 g1 73 (nI l) (nI (130 + 645 * q)) (nI b) (nI (a + d)) (nI x) = _
      have sl : L.length ≤ 401 := by omega
      simp (disch := omega) only [BX12_write_125, ↓reduceIte, Nat.reduceLT, Nat.reduceLeDiff, Nat.reduceEqDiff, ZL, nAdd, nMul, nSub, nLt, nLe, nEq, nCl, nDiv, nRem2, nM1, nM2, nM3, nM4, nM5, nM6, gg_in, gg_rf, gg_T, if_true, if_false, ↓lt_eq, ob_some, b2_some, up1_some, kd_sI, ln_sI, gP_sI, gI_sI, kd_rI, ln_rI, gP_rI, gI_rI, kd_bmp, ln_bmp, gP_bmp, gI_bmp, up_at, i0, i1, RS.f R1, m1, a3, c1, e91, W11]
    · show WL _ (txR m q a d ++ blL m q a d ++ (bitL m q (a + d)).take (x + 1))
      rw [bitL_take hx, ← List.append_assoc, ← hL]
      exact w1
  · obtain ⟨z, g1⟩ := s
    obtain ⟨p1, G1, W1⟩ := p
    replace p1 : z = nI (Nn m (130 + 645 * q + 125 + (a + d))) := p1
    replace G1 : Rw h g1 := G1
    replace W1 : WL g1 (txR m q a d ++ blL m q a d ++ (bitL m q (a + d)).take (Nn m (130 + 645 * q + 125 + (a + d)))) := W1
    rw [show (bitL m q (a + d)).take (Nn m (130 + 645 * q + 125 + (a + d))) = bitL m q (a + d) by rw [← bitL_len]; exact List.take_length] at W1
    subst p1
    refine ⟨_, ?_, g1, rfl, G1, W1⟩
    obtain ⟨N, hN⟩ : ∃ N, N = Nn m (130 + 645 * q + 125 + (a + d)) := ⟨_, rfl⟩
    show BX12_write_125 g1 73 (nI l) (nI (130 + 645 * q)) (nI b) (nI (a + d)) (nI (Nn m (130 + 645 * q + 125 + (a + d)))) = some (.inr (.inl (nI (a + d + 1), g1)))
    rw [← hN] at a3 a4 ⊢
    have hc : gI g1 74 (130 + 645 * q + 125 + (a + d)) = nI N := by rw [G1.em em]; exact a3
    have R1 := G1.rk.rs R
    clear ea hlen bg em W1 W G G1 a5 a6
    unfold BX12_write_125
    simp only [ZL]
    rw [gg_t (RS.f R1).1]
    simp (disch := omega) only [RS.f R1, nAdd, gg_rf, gg_T, gg_in, nCl, hc]
    rw [if_pos (nI_le (Nat.le_refl N) (by omega))]
theorem r_wrP (R : RS h) (em : gI h 74 = m) (B : MIb m) (hq : vP m q) (J : MIp m q) (H : Ln m q l a b) : ∀ g, Rw h g → WL g [] → ∃ h1, MX12_write_54 g 73 (nI l) (nI (130 + 645 * q)) (nI b) (nI a) = some h1 ∧ (Rw h h1 ∧ WL h1 (wtX m q a b)) := fun g G W => by
  have inner := r_wrI R em B hq J H
  obtain ⟨-, j40, j1⟩ := J.n
  have hq0 := hq.1
  have bg : ∀ {g : Hp}, Rw h g → MX12_begins g 73 (nI (130 + 645 * q)) (nI l) = some (nI a) := fun K => r_begins (K.rk.rs R) (K.em em) hq j40 H
  obtain ⟨l40, eb, ea, hab, hbn, hlen⟩ := H
  unfold MX12_write_54
  refine it_cnt (fun d s => s.1 = nI (a + d) ∧ Rw h s.2 ∧ WL s.2 (txR m q a d)) (b + 1 - a) (fun d s hd p => ?_) (fun s p => ?_) ⟨rfl, G, W⟩
  · obtain ⟨z, g1⟩ := s
    obtain ⟨p1, G1, W1⟩ := p
    replace p1 : z = nI (a + d) := p1
    replace G1 : Rw h g1 := G1
    replace W1 : WL g1 (txR m q a d) := W1
    subst p1
    have R1 := G1.rk.rs R
    have m1 := G1.em em
    show ∃ s', BX12_write_54 g1 73 (nI l) (nI (130 + 645 * q)) (nI b) (nI (a + d)) = some (.inl s') ∧ _
    have fin : ∀ g2, Rw h g2 → WL g2 (txR m q a d ++ blL m q a d) → BX12_write_54 g1 73 (nI l) (nI (130 + 645 * q)) (nI b) (nI (a + d)) = MX12_write_122 g2 73 (nI l) (nI (130 + 645 * q)) (nI b) (nI (a + d)) → ∃ s', BX12_write_54 g1 73 (nI l) (nI (130 + 645 * q)) (nI b) (nI (a + d)) = some (.inl s') ∧ (s'.1 = nI (a + (d + 1)) ∧ Rw h s'.2 ∧ WL s'.2 (txR m q a (d + 1))) := fun g2 G2 W2 e => by
      obtain ⟨r, k1, g3, k2, k3, k4⟩ := inner g2 d (by omega) G2 W2
      exact ⟨_, by rw [e, k1, k2], rfl, k3, k4⟩
    by_cases z : d = 0
    · subst z
      refine fin g1 G1 (by rw [show blL m q a 0 = [] from if_neg (by omega), List.append_nil]; exact W1) ?_
      unfold BX12_write_54
      rw [if_neg (nI_nlt (by omega) (by omega)), gg_t (RS.f R1).1, bg G1, ob_some, if_pos (nI_le (by omega) (by omega))]
    · have e85 := (J.bt (k := a + d) (by omega)).1
      have e84 := (J.bt (k := a + d - 1) (by omega)).1
      have w1 := (J.bt (k := a + d) (by omega)).2.1
      have w2 := (J.bt (k := a + d - 1) (by omega)).2.1
      have ei : 130 + 645 * q + 85 + (a + d) - 1 = 130 + 645 * q + 85 + (a + d - 1) := by omega
      by_cases y : wkN m q (a + d) = wkN m q (a + d - 1)
      · refine fin g1 G1 (by rw [show blL m q a d = [] from if_neg (fun w => w.2 y), List.append_nil]; exact W1) ?_
        unfold BX12_write_54
        rw [if_neg (nI_nlt (by omega) (by omega)), gg_t (RS.f R1).1, bg G1, ob_some, if_neg (nI_ge (by omega) (by omega))]
        simp (disch := omega) only [↓reduceIte, Nat.reduceLT, Nat.reduceLeDiff, Nat.reduceEqDiff, ZL, nAdd, nMul, nSub, nLt, nLe, nEq, nCl, nDiv, nRem2, nM1, nM2, nM3, nM4, nM5, nM6, gg_in, gg_rf, gg_T, if_true, if_false, ↓lt_eq, ob_some, b2_some, up1_some, kd_sI, ln_sI, gP_sI, gI_sI, kd_rI, ln_rI, gP_rI, gI_rI, kd_bmp, ln_bmp, gP_bmp, gI_bmp, up_at, i0, i1, RS.f R1, m1, ei, e85, e84, y]
      · obtain ⟨b1, b2⟩ := W1.blank
        have lb := wt_pre (m := m) (q := q) (x := 0) (a := a) (d := d) (b := b) (by omega)
        rw [List.length_append, List.length_append] at lb
        have sl : (txR m q a d).length ≤ 401 := by omega
        have W11 := W1.1
        refine fin _ (G1.trans b2) (by rw [show blL m q a d = [32] from if_pos ⟨z, y⟩]; exact b1) ?_
        unfold BX12_write_54
        rw [if_neg (nI_nlt (by omega) (by omega)), gg_t (RS.f R1).1, bg G1, ob_some, if_neg (nI_ge (by omega) (by omega))]
        simp (disch := omega) only [↓reduceIte, Nat.reduceLT, Nat.reduceLeDiff, Nat.reduceEqDiff, ZL, nAdd, nMul, nSub, nLt, nLe, nEq, nCl, nDiv, nRem2, nM1, nM2, nM3, nM4, nM5, nM6, gg_in, gg_rf, gg_T, if_true, if_false, ↓lt_eq, ob_some, b2_some, up1_some, kd_sI, ln_sI, gP_sI, gI_sI, kd_rI, ln_rI, gP_rI, gI_rI, kd_bmp, ln_bmp, gP_bmp, gI_bmp, up_at, i0, i1, RS.f R1, m1, ei, e85, e84, y, W11]
  · obtain ⟨z, g1⟩ := s
    obtain ⟨p1, G1, W1⟩ := p
    replace p1 : z = nI (a + (b + 1 - a)) := p1
    replace G1 : Rw h g1 := G1
    replace W1 : WL g1 (txR m q a (b + 1 - a)) := W1
    rw [show a + (b + 1 - a) = b + 1 by omega] at p1
    subst p1
    have R1 := G1.rk.rs R
    have m1 := G1.em em
    have ew := r_endsWord R1 m1 hq J hbn
    have e0 : BX12_write_54 g1 73 (nI l) (nI (130 + 645 * q)) (nI b) (nI (b + 1)) = up1 (MX12_write_210 g1 73 (nI (130 + 645 * q)) (nI b)) := by
      unfold BX12_write_54
      rw [if_pos (nI_lt (by omega) (by omega))]
    show ∃ r, BX12_write_54 g1 73 (nI l) (nI (130 + 645 * q)) (nI b) (nI (b + 1)) = some (.inr r) ∧ _
    rw [e0]
    have sl : (txR m q a (b + 1 - a)).length ≤ 401 := by
      have : (wtX m q a b).length = (txR m q a (b + 1 - a)).length + (hyL m q b).length := List.length_append
      omega
    obtain ⟨W11, W12, W13⟩ := id W1
    have e91 := W13 26 (by omega)
    by_cases z : weN m q (b + 1) = weN m q b
    · rw [if_pos z] at ew
      obtain ⟨b1, b2⟩ := W1.hyp
      refine ⟨_, ?_, G1.trans b2, by unfold wtX; rw [show hyL m q b = [45] from if_pos z]; exact b1⟩
      unfold MX12_write_210
      simp (disch := omega) only [↓reduceIte, Nat.reduceLT, Nat.reduceLeDiff, Nat.reduceEqDiff, ZL, nAdd, nMul, nSub, nLt, nLe, nEq, nCl, nDiv, nRem2, nM1, nM2, nM3, nM4, nM5, nM6, gg_in, gg_rf, gg_T, if_true, if_false, ↓lt_eq, ob_some, b2_some, up1_some, kd_sI, ln_sI, gP_sI, gI_sI, kd_rI, ln_rI, gP_rI, gI_rI, kd_bmp, ln_bmp, gP_bmp, gI_bmp, up_at, i0, i1, RS.f R1, ew, W11, e91]
    · rw [if_neg z] at ew
      refine ⟨_, ?_, G1, by unfold wtX; rw [show hyL m q b = [] from if_neg z, List.append_nil]; exact W1⟩
      unfold MX12_write_210
      simp (disch := omega) only [↓reduceIte, Nat.reduceLT, Nat.reduceLeDiff, Nat.reduceEqDiff, ZL, nAdd, nMul, nSub, nLt, nLe, nEq, nCl, nDiv, nRem2, nM1, nM2, nM3, nM4, nM5, nM6, gg_in, gg_rf, gg_T, if_true, if_false, ↓lt_eq, ob_some, b2_some, up1_some, kd_sI, ln_sI, gP_sI, gI_sI, kd_rI, ln_rI, gP_rI, gI_rI, kd_bmp, ln_bmp, gP_bmp, gI_bmp, up_at, i0, i1, RS.f R1, ew, n10]
theorem r_write (R : RS h) (em : gI h 74 = m) (B : MIb m) (hq : vP m q) (J : MIp m q) (H : Ln m q l a b) : ∃ h1, MX12_write h 73 (nI q) (nI l) = some h1 ∧ (Rw h h1 ∧ WL h1 (wtX m q a b)) := by
  have pieces := r_wrP R em B hq J H
  obtain ⟨-, j40, j1⟩ := J.n
  have hq0 := hq.1
  have bg : ∀ {g : Hp}, Rw h g → MX12_begins g 73 (nI (130 + 645 * q)) (nI l) = some (nI a) := fun K => r_begins (K.rk.rs R) (K.em em) hq j40 H
  obtain ⟨l40, eb, ea, hab, hbn, hlen⟩ := H
  -- the needs are cleared
  obtain ⟨g0, hg0⟩ : ∃ g, g = sI h 73 35 (nI 0) := ⟨_, rfl⟩
  have G0 : Rw h g0 := by
    rw [hg0]
    exact ⟨Fr.sI (S := fun b => b = 73 ∨ b = 90 ∨ b = 91) (Or.inl rfl), fun j hj => by rw [gI_sI, if_pos (Eq.refl 73), up_at, if_neg hj]⟩
  have e0 : MX12_write h 73 (nI q) (nI l) = MX12_write_25 g0 73 (nI l) (nI (130 + 645 * q)) (nI b) (nI 0) := by
    unfold MX12_write
    rw [r_part0, ob_some, hg0]
    simp (disch := omega) only [↓reduceIte, Nat.reduceLT, Nat.reduceLeDiff, Nat.reduceEqDiff, ZL, nAdd, nMul, nSub, nLt, nLe, nEq, nCl, nDiv, nRem2, nM1, nM2, nM3, nM4, nM5, nM6, gg_in, gg_rf, gg_T, if_true, if_false, ↓lt_eq, ob_some, b2_some, up1_some, kd_sI, ln_sI, gP_sI, gI_sI, kd_rI, ln_rI, gP_rI, gI_rI, kd_bmp, ln_bmp, gP_bmp, gI_bmp, up_at, i0, i1, RS.f R, em, eb]
  rw [e0]
  unfold MX12_write_25
  refine it_cnt (fun d s => s.1 = nI d ∧ Rw h s.2 ∧ gI s.2 73 35 = nI 0 ∧ ∀ s', s' < d → gI s.2 91 s' = nI 0) 27 (fun d s hd p => ?_) (fun s p => ?_) ⟨rfl, G0, by rw [hg0, gIl], fun s' hs' => absurd hs' (by omega)⟩
  · obtain ⟨z, g1⟩ := s
    obtain ⟨p1, G1, p3, p4⟩ := p
    replace p1 : z = nI d := p1
    replace G1 : Rw h g1 := G1
    replace p3 : gI g1 73 35 = nI 0 := p3
    replace p4 : ∀ s', s' < d → gI g1 91 s' = nI 0 := p4
    subst p1
    refine ⟨(nI (d + 1), sI g1 91 d (nI 0)), ?_, rfl, G1.trans ⟨Fr.sI (S := fun b => b = 73 ∨ b = 90 ∨ b = 91) (Or.inr (Or.inr rfl)), fun j hj => by rw [gI_sI, if_neg (show ¬ 73 = 91 by omega)]⟩, ?_, fun s' hs' => ?_⟩
    · show BX12_write_25 g1 73 (nI l) (nI (130 + 645 * q)) (nI b) (nI d) = _
      simp (disch := omega) only [BX12_write_25, ↓reduceIte, Nat.reduceLT, Nat.reduceLeDiff, Nat.reduceEqDiff, ZL, nAdd, nMul, nSub, nLt, nLe, nEq, nCl, nDiv, nRem2, nM1, nM2, nM3, nM4, nM5, nM6, gg_in, gg_rf, gg_T, if_true, if_false, ↓lt_eq, ob_some, b2_some, up1_some, kd_sI, ln_sI, gP_sI, gI_sI, kd_rI, ln_rI, gP_rI, gI_rI, kd_bmp, ln_bmp, gP_bmp, gI_bmp, up_at, i0, i1, RS.f (G1.rk.rs R)]
    · show gI (sI g1 91 d (nI 0)) 73 35 = nI 0
      rw [gI_sI, if_neg (show ¬ 73 = 91 by omega)]
      exact p3
    · show gI (sI g1 91 d (nI 0)) 91 s' = nI 0
      rw [gI_sI, if_pos (Eq.refl 91), up_at]
      by_cases y : s' = d
      · rw [if_pos y]
      · rw [if_neg y]; exact p4 s' (by omega)
  · obtain ⟨z, g1⟩ := s
    obtain ⟨p1, G1, p3, p4⟩ := p
    replace p1 : z = nI 27 := p1
    replace G1 : Rw h g1 := G1
    replace p3 : gI g1 73 35 = nI 0 := p3
    replace p4 : ∀ s', s' < 27 → gI g1 91 s' = nI 0 := p4
    subst p1
    obtain ⟨h1, k1, k2⟩ := pieces g1 G1 ⟨p3, fun j hj => absurd hj (by simp), fun s hs => p4 s hs⟩
    refine ⟨h1, ?_, k2⟩
    show BX12_write_25 g1 73 (nI l) (nI (130 + 645 * q)) (nI b) (nI 27) = _
    unfold BX12_write_25 MX12_write_46
    rw [if_pos (show (27 : Int32) ≤ nI 27 by decide), gg_t (RS.f (G1.rk.rs R)).1, bg G1, ob_some, k1]
    rfl
end
