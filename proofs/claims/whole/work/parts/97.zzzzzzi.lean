/-! style: conditions of rules, the class: codes, tags, facts -/
def CD (h0 : Hp) (y : Nat) : Prop := y = 3 ∨ y = gP h0 5 5 ∨ y = gP h0 5 6
/-- where the reading of a rule's condition begins -/
def HB (h0 : Hp) (b : Nat → Nat) (e r : Nat) : Prop := TQ h0 b e ∧ StyS h0 5 ∧ gI h0 5 1 = nI r ∧ 1 ≤ r ∧ r ≤ 12 ∧ gI h0 3 3 = -nI 1 ∧ (∀ y, y = 2 ∨ y = 3 ∨ y = 4 ∨ y = 5 → y ≠ gP h0 5 5 ∧ y ≠ gP h0 5 6) ∧ gP h0 5 5 ≠ gP h0 5 6
/-- it stands at a, the codes l are added to c0 of them -/
def CK (h0 h : Hp) (a r c0 : Nat) (l : List Op) : Prop := Fr (CD h0) h0 h ∧ (∀ j, j ≠ 2 → gI h 3 j = gI h0 3 j) ∧ gI h 3 2 = nI a ∧ (∀ j, gI h (gP h0 5 5) j = if j + 1 = r then nI (c0 + l.length) else gI h0 (gP h0 5 5) j) ∧ ∀ j, gI h (gP h0 5 6) j = if c0 ≤ j ∧ j < c0 + l.length then nI (encC (l.getD (j - c0) (0, 0, 0))) else gI h0 (gP h0 5 6) j
/-- it has found a fault at p -/
def CX (h0 h : Hp) (r p : Nat) : Prop := Fr (CD h0) h0 h ∧ gI h 3 3 = nI p ∧ ∃ c, c ≤ 256 ∧ gI h (gP h0 5 5) (r - 1) = nI c
section
variable {h0 h h1 : Hp} {b : Nat → Nat} {e r c0 a c k j x y p : Nat} {l : List Op} {o : Op} {u v : Int32}
theorem CK.tq (B : HB h0 b e r) (K : CK h0 h a r c0 l) : TQ h b e ∧ gI h 3 3 = -nI 1 := by
  obtain ⟨⟨t1, t2, t3, t4, t5, t6, t7, t8, t9, t10, t11, t12⟩, B2, B3, B4, B5, B6, B7, B8⟩ := B
  obtain ⟨F, k1, -⟩ := K
  have o : ∀ y, y = 2 ∨ y = 4 → gI h y = gI h0 y := fun y hy => F.2.2.2.2.2.2 y (fun z => by
    obtain ⟨d1, d2⟩ := B7 y (by omega)
    rcases z with z | z | z
    · omega
    · exact d1 z
    · exact d2 z)
  refine ⟨⟨by rw [F.1]; exact t1, by rw [F.2.2.1]; exact t2, by rw [F.2.2.1]; exact t3, by rw [F.2.2.1]; exact t4, by rw [F.1]; exact t5, by rw [F.2.1]; exact t6, by rw [F.1]; exact t7, by rw [F.2.1]; exact t8, by rw [k1 1 (by omega)]; exact t9, t10, fun i hi => by rw [o 2 (by omega)]; exact t11 i hi, fun i hi => by rw [o 4 (by omega)]; exact t12 i hi⟩, by rw [k1 3 (by omega)]; exact B6⟩
theorem CK.at (B : HB h0 b e r) (K : CK h0 h a r c0 l) (x : Nat) : CK h0 (sI h 3 2 (nI x)) x r c0 l := by
  obtain ⟨F, k1, k2, k3, k4⟩ := K
  obtain ⟨d1, d2⟩ := B.2.2.2.2.2.2.1 3 (by omega)
  refine ⟨F.trans (Fr.sI (Or.inl rfl)), fun j hj => ?_, ?_, fun j => ?_, fun j => ?_⟩
  · rw [gI_sI, if_pos rfl, up_at, if_neg hj]; exact k1 j hj
  · rw [gI_sI, if_pos rfl, up_at, if_pos rfl]
  · rw [gI_sI, if_neg (fun e => d1 e.symm)]; exact k3 j
  · rw [gI_sI, if_neg (fun e => d2 e.symm)]; exact k4 j
/-- a fault is found -/
theorem CK.fl (B : HB h0 b e r) (K : CK h0 h a r c0 l) (hc : c0 + l.length ≤ 256) (p : Nat) : CX h0 (sI h 3 3 (nI p)) r p := by
  obtain ⟨F, k1, k2, k3, k4⟩ := K
  obtain ⟨d1, d2⟩ := B.2.2.2.2.2.2.1 3 (by omega)
  have r1 := B.2.2.2.1
  refine ⟨F.trans (Fr.sI (Or.inl rfl)), by rw [gI_sI, if_pos rfl, up_at, if_pos rfl], c0 + l.length, hc, ?_⟩
  rw [gI_sI, if_neg (fun e => d1 e.symm), k3, if_pos (by omega)]
theorem c_add (B : HB h0 b e r) (F : Fr (CD h0) h0 h) (h5 : gI h (gP h0 5 5) (r - 1) = nI c) (hc : c ≤ 256) : MX9_addCode h 5 u v = if c < 256 then some (sI (sI h (gP h0 5 6) c (nI 32 * v + u)) (gP h0 5 5) (r - 1) (nI (c + 1))) else some h := by
  obtain ⟨-, S5, B3, B4, B5, -, B7, B8⟩ := B
  obtain ⟨s1, s2, s3, s4, s5, s6, s7, s8⟩ := S5
  obtain ⟨d1, d2⟩ := B7 5 (by omega)
  have g5 : gI h 5 1 = nI r := by
    rw [F.2.2.2.2.2.2 5 (fun z => by
      rcases z with z | z | z
      · omega
      · exact d1 z
      · exact d2 z)]
    exact B3
  unfold MX9_addCode
  simp only [ZL]
  rw [F.1, F.2.1, F.2.2.1, gg_t s1, g5, if_neg (by rw [nEq (by omega) (by omega)]; omega), gg_t s5.2.1, nSub (by omega), s5.2.2, gg_in (by omega) (by omega), gg_t s6.2.1, nCl (by omega), h5, s6.2.2]
  by_cases z : c < 256
  · rw [if_pos (nI_lt z (by omega)), gg_in (by omega) (by omega), nCl (by omega), lt_eq, show gI (sI h (gP h0 5 6) c (nI 32 * v + u)) 5 1 = nI r by rw [gI_sI, if_neg d2]; exact g5, nSub (by omega), gg_in (by omega) (by omega), nCl (by omega), show gI (sI h (gP h0 5 6) c (nI 32 * v + u)) (gP h0 5 5) (r - 1) = nI c by rw [gI_sI, if_neg B8]; exact h5, nAdd, lt_eq, if_pos z]
  · rw [if_neg (nI_nlt (by omega) (by omega)), if_neg z]
theorem getD_app : ∀ (l : List Op) (o d : Op) (i : Nat), (l ++ [o]).getD i d = if i < l.length then l.getD i d else if i = l.length then o else d
  | [], o, d, 0 => rfl
  | [], o, d, i + 1 => by
    show d = if i + 1 < 0 then d else if i + 1 = 0 then o else d
    rw [if_neg (show ¬ i + 1 < 0 by omega), if_neg (show ¬ i + 1 = 0 by omega)]
  | x :: l, o, d, 0 => by
    show x = if 0 < l.length + 1 then x else _
    rw [if_pos (by omega)]
  | x :: l, o, d, i + 1 => by
    have ih := getD_app l o d i
    show (l ++ [o]).getD i d = if i + 1 < l.length + 1 then l.getD i d else if i + 1 = l.length + 1 then o else d
    rw [ih]
    by_cases z : i < l.length
    · rw [if_pos z, if_pos (by omega)]
    · rw [if_neg z, if_neg (show ¬ i + 1 < l.length + 1 by omega)]
      by_cases w : i = l.length
      · rw [if_pos w, if_pos (by omega)]
      · rw [if_neg w, if_neg (show ¬ i + 1 = l.length + 1 by omega)]
/-- a code is added -/
theorem CK.add (B : HB h0 b e r) (K : CK h0 h a r c0 l) (hc : c0 + l.length < 256) (ho : nI 32 * v + u = nI (encC o)) : ∃ h', MX9_addCode h 5 u v = some h' ∧ CK h0 h' a r c0 (l ++ [o]) := by
  have r1 := B.2.2.2.1
  have e1 := c_add (u := u) (v := v) B K.1 (c := c0 + l.length) (by rw [K.2.2.2.1, if_pos (by omega)]) (by omega)
  rw [if_pos hc, ho] at e1
  refine ⟨_, e1, ?_⟩
  obtain ⟨F, k1, k2, k3, k4⟩ := K
  obtain ⟨d1, d2⟩ := B.2.2.2.2.2.2.1 3 (by omega)
  have B8 := B.2.2.2.2.2.2.2
  have ll : (l ++ [o]).length = l.length + 1 := by rw [List.length_append]; rfl
  refine ⟨(F.trans (Fr.sI (Or.inr (Or.inr rfl)))).trans (Fr.sI (Or.inr (Or.inl rfl))), fun j hj => ?_, ?_, fun j => ?_, fun j => ?_⟩
  · rw [gI_sI, if_neg d1, gI_sI, if_neg d2]; exact k1 j hj
  · rw [gI_sI, if_neg d1, gI_sI, if_neg d2]; exact k2
  · rw [gI_sI, if_pos rfl, up_at, gI_sI, if_neg B8, k3, ll]
    by_cases z : j + 1 = r
    · rw [if_pos (by omega), if_pos z]; rfl
    · rw [if_neg (by omega), if_neg z, if_neg z]
  · rw [gI_sI, if_neg (fun e => B8 e.symm), gI_sI, if_pos rfl, up_at, k4, ll, getD_app]
    by_cases z : j = c0 + l.length
    · rw [if_pos z, if_pos (by omega), if_neg (by omega), if_pos (by omega)]
    · rw [if_neg z]
      by_cases w : c0 ≤ j ∧ j < c0 + l.length
      · rw [if_pos w, if_pos (by omega), if_pos (by omega)]
      · rw [if_neg w, if_neg (by omega)]
theorem CX.add (B : HB h0 b e r) (K : CX h0 h r p) : ∃ h', MX9_addCode h 5 u v = some h' ∧ CX h0 h' r p := by
  obtain ⟨F, k1, c, hc, k2⟩ := K
  have r1 := B.2.2.2.1
  obtain ⟨d1, d2⟩ := B.2.2.2.2.2.2.1 3 (by omega)
  have B8 := B.2.2.2.2.2.2.2
  have e1 := c_add (u := u) (v := v) B F k2 hc
  by_cases z : c < 256
  · rw [if_pos z] at e1
    exact ⟨_, e1, (F.trans (Fr.sI (Or.inr (Or.inr rfl)))).trans (Fr.sI (Or.inr (Or.inl rfl))), by rw [gI_sI, if_neg d1, gI_sI, if_neg d2]; exact k1, c + 1, by omega, by rw [gI_sI, if_pos rfl, up_at, if_pos rfl]⟩
  · rw [if_neg z] at e1
    exact ⟨_, e1, F, k1, c, hc, k2⟩
/-- a word where no blank is -/
theorem tkW_j (T : TQ h b e) (ha : gI h 3 2 = nI j) (je : j ≤ e) (ij : ik b e j = j) (hk : k < 21) : MX10_takeWord h 3 k = if wdB b e k j = true then some (nI 1, sI h 3 2 (nI (j + sN k))) else some (nI 0, h) := by
  have := c_tkW T ha je hk
  rw [ij] at this
  rw [this]
  cases w : wdB b e k j with
  | true => rw [if_pos rfl, if_pos rfl]; rfl
  | false => rw [if_neg (by decide), if_neg (by decide), sI_id ha]; rfl
theorem tkS_j (T : TQ h b e) (ha : gI h 3 2 = nI j) (je : j ≤ e) (ij : ik b e j = j) (hc : c < 128) : MX10_takeSign h 3 (nI c) = if j < e ∧ b j = c then some (nI 1, sI h 3 2 (nI (j + 1))) else some (nI 0, h) := by
  have := c_tkS T ha je hc
  rw [ij] at this
  rw [this]
  by_cases w : j < e ∧ b j = c
  · rw [if_pos w, if_pos w, decide_eq_true w]; rfl
  · rw [if_neg w, if_neg w, decide_eq_false w, sI_id ha]; rfl
/-- a fact's name -/
noncomputable def fcN (b : Nat → Nat) (e j : Nat) : Option (Nat × Nat) :=
  if wdB b e 8 j = true then some (0, j + sN 8) else if wdB b e 10 j = true then some (1, j + sN 10) else if wdB b e 4 j = true then some (2, j + sN 4)
  else if wdB b e 20 j = true then some (3, j + sN 20) else if wdB b e 2 j = true then some (4, j + sN 2) else if wdB b e 5 j = true then some (5, j + sN 5) else if wdB b e 14 j = true then some (6, j + sN 14) else if wdB b e 11 j = true then some (7, j + sN 11) else if wdB b e 12 j = true then some (8, j + sN 12) else none
theorem c_fact (T : TQ h b e) (ha : gI h 3 2 = nI j) (je : j ≤ e) (ij : ik b e j = j) : MX10_takeFact h 3 = match fcN b e j with | none => some (-nI 1, h) | some q => some (nI q.1, sI h 3 2 (nI q.2)) := by
  have t1 := T.1
  unfold MX10_takeFact fcN
  simp only [ZL]
  rw [gg_t t1, tkW_j T ha je ij (k := 8) (by omega)]
  by_cases w8 : wdB b e 8 j = true
  · rw [if_pos w8, if_pos w8, b2_some, if_neg (by decide)]
  rw [if_neg w8, if_neg w8, b2_some, if_pos rfl, gg_t t1, tkW_j T ha je ij (k := 10) (by omega)]
  by_cases w10 : wdB b e 10 j = true
  · rw [if_pos w10, if_pos w10, b2_some, if_neg (by decide)]
  rw [if_neg w10, if_neg w10, b2_some, if_pos rfl, gg_t t1, tkW_j T ha je ij (k := 4) (by omega)]
  by_cases w4 : wdB b e 4 j = true
  · rw [if_pos w4, if_pos w4, b2_some, if_neg (by decide)]
  rw [if_neg w4, if_neg w4, b2_some, if_pos rfl, gg_t t1, tkW_j T ha je ij (k := 20) (by omega)]
  by_cases w20 : wdB b e 20 j = true
  · rw [if_pos w20, if_pos w20, b2_some, if_neg (by decide)]
  rw [if_neg w20, if_neg w20, b2_some, if_pos rfl, gg_t t1, tkW_j T ha je ij (k := 2) (by omega)]
  by_cases w2 : wdB b e 2 j = true
  · rw [if_pos w2, if_pos w2, b2_some, if_neg (by decide)]
  rw [if_neg w2, if_neg w2, b2_some, if_pos rfl, gg_t t1, tkW_j T ha je ij (k := 5) (by omega)]
  by_cases w5 : wdB b e 5 j = true
  · rw [if_pos w5, if_pos w5, b2_some, if_neg (by decide)]
  rw [if_neg w5, if_neg w5, b2_some, if_pos rfl, gg_t t1, tkW_j T ha je ij (k := 14) (by omega)]
  by_cases w14 : wdB b e 14 j = true
  · rw [if_pos w14, if_pos w14, b2_some, if_neg (by decide)]
  rw [if_neg w14, if_neg w14, b2_some, if_pos rfl, gg_t t1, tkW_j T ha je ij (k := 11) (by omega)]
  by_cases w11 : wdB b e 11 j = true
  · rw [if_pos w11, if_pos w11, b2_some, if_neg (by decide)]
  rw [if_neg w11, if_neg w11, b2_some, if_pos rfl, gg_t t1, tkW_j T ha je ij (k := 12) (by omega)]
  by_cases w12 : wdB b e 12 j = true
  · rw [if_pos w12, if_pos w12, b2_some, if_neg (by decide)]
  · rw [if_neg w12, if_neg w12, b2_some, if_pos rfl]
theorem lf_fc : lfP b e j = match fcN b e j with | none => .inl j | some q => if q.1 < 3 then .inr (q.2, [(1, q.1, 0)]) else fcQ b e (q.1 - 3) q.2 := by
  unfold lfP fcN
  by_cases w8 : wdB b e 8 j = true
  · rw [if_pos w8, if_pos w8]; rfl
  rw [if_neg w8, if_neg w8]
  by_cases w10 : wdB b e 10 j = true
  · rw [if_pos w10, if_pos w10]; rfl
  rw [if_neg w10, if_neg w10]
  by_cases w4 : wdB b e 4 j = true
  · rw [if_pos w4, if_pos w4]; rfl
  rw [if_neg w4, if_neg w4]
  by_cases w20 : wdB b e 20 j = true
  · rw [if_pos w20, if_pos w20]; rfl
  rw [if_neg w20, if_neg w20]
  by_cases w2 : wdB b e 2 j = true
  · rw [if_pos w2, if_pos w2]; rfl
  rw [if_neg w2, if_neg w2]
  by_cases w5 : wdB b e 5 j = true
  · rw [if_pos w5, if_pos w5]; rfl
  rw [if_neg w5, if_neg w5]
  by_cases w14 : wdB b e 14 j = true
  · rw [if_pos w14, if_pos w14]; rfl
  rw [if_neg w14, if_neg w14]
  by_cases w11 : wdB b e 11 j = true
  · rw [if_pos w11, if_pos w11]; rfl
  rw [if_neg w11, if_neg w11]
  by_cases w12 : wdB b e 12 j = true
  · rw [if_pos w12, if_pos w12]; rfl
  · rw [if_neg w12, if_neg w12]
theorem fcN_g (h : j ≤ e) : ∀ q, fcN b e j = some q → q.1 < 9 ∧ q.2 ≤ e ∧ j ≤ q.2 := fun q hq => by
  have st : ∀ t k, t < 9 → wdB b e k j = true → some (t, j + sN k) = some q → q.1 < 9 ∧ q.2 ≤ e ∧ j ≤ q.2 := fun t k ht w h => by
    cases h
    exact ⟨ht, (wd_i w).1, Nat.le_add_right _ _⟩
  unfold fcN at hq
  by_cases w8 : wdB b e 8 j = true
  · rw [if_pos w8] at hq; exact st 0 8 (by omega) w8 hq
  rw [if_neg w8] at hq
  by_cases w10 : wdB b e 10 j = true
  · rw [if_pos w10] at hq; exact st 1 10 (by omega) w10 hq
  rw [if_neg w10] at hq
  by_cases w4 : wdB b e 4 j = true
  · rw [if_pos w4] at hq; exact st 2 4 (by omega) w4 hq
  rw [if_neg w4] at hq
  by_cases w20 : wdB b e 20 j = true
  · rw [if_pos w20] at hq; exact st 3 20 (by omega) w20 hq
  rw [if_neg w20] at hq
  by_cases w2 : wdB b e 2 j = true
  · rw [if_pos w2] at hq; exact st 4 2 (by omega) w2 hq
  rw [if_neg w2] at hq
  by_cases w5 : wdB b e 5 j = true
  · rw [if_pos w5] at hq; exact st 5 5 (by omega) w5 hq
  rw [if_neg w5] at hq
  by_cases w14 : wdB b e 14 j = true
  · rw [if_pos w14] at hq; exact st 6 14 (by omega) w14 hq
  rw [if_neg w14] at hq
  by_cases w11 : wdB b e 11 j = true
  · rw [if_pos w11] at hq; exact st 7 11 (by omega) w11 hq
  rw [if_neg w11] at hq
  by_cases w12 : wdB b e 12 j = true
  · rw [if_pos w12] at hq; exact st 8 12 (by omega) w12 hq
  rw [if_neg w12] at hq
  cases hq
end
