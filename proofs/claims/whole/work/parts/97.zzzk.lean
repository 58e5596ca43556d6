/-! lock: the reference lays the slugs -/
def LRk (h : Hp) (m : Nat → Int32) (p : Nat) (g : Hp) (W : List Int32) : Prop := Fr (fun y => y = 74) h g ∧ gI g 74 = lkW m p W
section
variable {h g h' h1 : Hp} {m kk t : Nat → Int32} {ii nn f : Int32} {a p q s x k j n : Nat} {W : List Int32} {b : Bst}
theorem lr_st (R : RSt h m kk ii t nn f) (L : LRk h m p g W) : RSt g (lkW m p W) kk ii t nn f ∧ gI g 73 = gI h 73 := by
  obtain ⟨F, e⟩ := L
  obtain ⟨r0, r1, r2, r3, r4, r5, r6⟩ := R
  have o : ∀ b, b ≠ 74 → gI g b = gI h b := fun b hb => F.2.2.2.2.2.2 b hb
  exact ⟨⟨r0.fr F, e, by rw [o 75 (by omega)]; exact r2, by rw [o 73 (by omega)]; exact r3, by rw [o 77 (by omega)]; exact r4, by rw [o 73 (by omega)]; exact r5, by rw [o 73 (by omega)]; exact r6⟩, o 73 (by omega)⟩
theorem r_l230 (R : RS h) (I : MI m) (hp : p < 6) (L : LRk h m p g W) (hq : vP m q) (hW : W.length + Nn m (130 + 645 * q + 4) ≤ 180) (v1 v6 v7 : Int32) : ∃ h1, MX12_lock_230 g 73 v1 (nI (327382 + 185 * p)) (nI W.length) v6 v7 (nI k) (nI (130 + 645 * q)) (nI 0) = some (.inl (nI (W.length + Nn m (130 + 645 * q + 4)), nI (k + 1), h1)) ∧ LRk h m p h1 (W ++ plL m q (Nn m (130 + 645 * q + 4))) := by
  have hq0 := hq.1
  obtain ⟨e4, l4⟩ := (I.2.1 q hq).2.2.2.2.2.1.eq (by omega)
  have lp : ∃ z, it (fun y : Int32 × Int32 × Hp => BX12_lock_230 y.2.2 73 v1 (nI (327382 + 185 * p)) y.1 v6 v7 (nI k) (nI (130 + 645 * q)) y.2.1) (nI W.length, nI 0, g) = some z ∧ ∃ h1, z = .inl (nI (W.length + Nn m (130 + 645 * q + 4)), nI (k + 1), h1) ∧ LRk h m p h1 (W ++ plL m q (Nn m (130 + 645 * q + 4))) := by
    refine it_cnt (fun l y => y.1 = nI (W.length + l) ∧ y.2.1 = nI l ∧ LRk h m p y.2.2 (W ++ plL m q l)) (Nn m (130 + 645 * q + 4)) (fun l y hl pp => ?_) (fun y pp => ?_) ⟨rfl, rfl, by unfold plL; rw [List.append_nil]; exact L⟩
    · obtain ⟨a1, a2, g⟩ := y
      obtain ⟨p1, p2, p3⟩ := pp
      replace p1 : a1 = nI (W.length + l) := p1
      replace p2 : a2 = nI l := p2
      replace p3 : LRk h m p g (W ++ plL m q l) := p3
      subst p1 p2
      have Rg := R.fr p3.1
      have lW : (W ++ plL m q l).length = W.length + l := by rw [List.length_append, plL_len]
      have g4 : gI g 74 (130 + 645 * q + 4) = nI (Nn m (130 + 645 * q + 4)) := by rw [p3.2, lkW_o (by omega)]; exact e4
      have gv : gI g 74 (130 + 645 * q + 45 + l) = m (130 + 645 * q + 45 + l) := by rw [p3.2, lkW_o (by omega)]
      refine ⟨(nI (W.length + (l + 1)), nI (l + 1), sI g 74 (327382 + 185 * p + 5 + (W.length + l)) (m (130 + 645 * q + 45 + l) - nI 1)), ?_, rfl, rfl, p3.1.trans (Fr.sI rfl), ?_⟩
      · show BX12_lock_230 g 73 v1 (nI (327382 + 185 * p)) (nI (W.length + l)) v6 v7 (nI k) (nI (130 + 645 * q)) (nI l) = _
        unfold BX12_lock_230
        simp only [ZL]
        rw [gg_t (RS.f Rg).1]
        simp only [RS.f Rg]
        rw [gg_T, nAdd, gg_in (by omega) (by omega), nCl (by omega), g4, if_neg (nI_ge hl (by omega)), nAdd, nAdd, gg_in (by omega) (by omega), nAdd, nAdd, gg_in (by omega) (by omega), nCl (by omega), nCl (by omega), gv, lt_eq, nAdd, nAdd]
        rfl
      · show gI (sI g 74 (327382 + 185 * p + 5 + (W.length + l)) (m (130 + 645 * q + 45 + l) - nI 1)) 74 = lkW m p (W ++ plL m q (l + 1))
        have e : plL m q (l + 1) = plL m q l ++ [m (130 + 645 * q + 45 + l) - nI 1] := rfl
        rw [gI_sI, if_pos rfl, p3.2, ← lW, lkW_up, e, List.append_assoc]
    · obtain ⟨a1, a2, g⟩ := y
      obtain ⟨p1, p2, p3⟩ := pp
      replace p1 : a1 = nI (W.length + Nn m (130 + 645 * q + 4)) := p1
      replace p2 : a2 = nI (Nn m (130 + 645 * q + 4)) := p2
      replace p3 : LRk h m p g (W ++ plL m q (Nn m (130 + 645 * q + 4))) := p3
      subst p1 p2
      have Rg := R.fr p3.1
      have g4 : gI g 74 (130 + 645 * q + 4) = nI (Nn m (130 + 645 * q + 4)) := by rw [p3.2, lkW_o (by omega)]; exact e4
      refine ⟨.inl (nI (W.length + Nn m (130 + 645 * q + 4)), nI (k + 1), g), ?_, g, rfl, p3⟩
      show BX12_lock_230 g 73 v1 (nI (327382 + 185 * p)) (nI (W.length + Nn m (130 + 645 * q + 4))) v6 v7 (nI k) (nI (130 + 645 * q)) (nI (Nn m (130 + 645 * q + 4))) = _
      unfold BX12_lock_230
      simp only [ZL]
      rw [gg_t (RS.f Rg).1]
      simp only [RS.f Rg]
      rw [gg_T, nAdd, gg_in (by omega) (by omega), nCl (by omega), g4, if_pos (nI_le (Nat.le_refl _) (by omega)), nAdd]
  obtain ⟨z, y1, h1, y2, y3⟩ := lp
  refine ⟨h1, ?_, y3⟩
  unfold MX12_lock_230
  rw [y1, y2]
theorem r_l186 (R : RS h) (I : MI m) (hp : p < 6) (K : RFt h m p a) (hN : fN m a ≤ 4) (b0 : (fitB m p a).1 ≠ 0) (hj : j < fN m a) (hx : x < 3) (L : LRk h m p g W) (hW : (fitB m p a).2.1 j = x → W.length + fL m a j ((fitB m p a).2.2 j) ≤ 180) (v1 : Int32) : ∃ h1, MX12_lock_186 g 73 v1 (nI (327382 + 185 * p)) (nI W.length) (nI x) (nI j) (nI 0) = some (.inl (nI (W ++ (if (fitB m p a).2.1 j = x then stL m (fS m a j) ((fitB m p a).2.2 j) else [])).length, nI (j + 1), h1)) ∧ LRk h m p h1 (W ++ (if (fitB m p a).2.1 j = x then stL m (fS m a j) ((fitB m p a).2.2 j) else [])) := by
  obtain ⟨q3, q4, q5⟩ := (fit_q m p a b0).1 j hj
  obtain ⟨hs, hb⟩ := fS_in hj
  have f1 := I.1.f.2.1.2
  have pb := (pg_b I hp).2.1
  have s5 := ((I.1.2.2.2.2.2.2.2.2.2 _ hs).2.2.1.eq (by omega)).2
  have q5' : (fitB m p a).2.2 j ≤ Nn m (110 + fS m a j) := q5
  have lm : ∀ d i, i + d = (fitB m p a).2.2 j → lnS m (fS m a j) i ≤ lnS m (fS m a j) ((fitB m p a).2.2 j) := fun d => by
    induction d with
    | zero => intro i e; rw [show i = (fitB m p a).2.2 j by omega]; exact Nat.le_refl _
    | succ d ih =>
      intro i e
      have := ih (i + 1) (by omega)
      have e2 : lnS m (fS m a j) (i + 1) = lnS m (fS m a j) i + Nn m (130 + 645 * (5 * fS m a j + i) + 4) := rfl
      omega
  have hd : ∀ g U i, LRk h m p g U → BX12_lock_186 g 73 v1 (nI (327382 + 185 * p)) (nI U.length) (nI x) (nI j) (nI i) = if nI ((fitB m p a).2.2 j) ≤ nI i then some (.inr (.inl (nI U.length, nI (j + 1), g))) else if (fitB m p a).2.1 j = x then MX12_lock_230 g 73 v1 (nI (327382 + 185 * p)) (nI U.length) (nI x) (nI j) (nI i) (nI (130 + 645 * (5 * fS m a j + i))) (nI 0) else some (.inr (.inl (nI U.length, nI (j + 1), g))) := fun g U i Lg => by
    have Rg := R.fr Lg.1
    have Kg := rf_74 K Lg.1
    obtain ⟨w1, w2⟩ := Kg.1.2.2 b0 j hj
    unfold BX12_lock_186
    simp only [ZL]
    rw [gg_t (RS.f Rg).1]
    simp only [RS.f Rg]
    rw [gg_T, gg_in (by omega) (by omega), nCl (by omega), w2, gg_T, gg_in (by omega) (by omega), w1, gg_T, gg_in (by omega) (by omega), Kg.2.2 j hj, nMul, nAdd, nAdd, r_part0, ob_some]
    by_cases z : (fitB m p a).2.1 j = x
    · rw [if_pos (show nI ((fitB m p a).2.1 j) = nI x by rw [z]), if_pos z]
    · rw [if_neg (show ¬ nI ((fitB m p a).2.1 j) = nI x by rw [nEq (by omega) (by omega)]; exact z), if_neg z]
  by_cases z : (fitB m p a).2.1 j = x
  · rw [if_pos z]
    have hW' := hW z
    have e4 : fL m a j ((fitB m p a).2.2 j) = lnS m (fS m a j) ((fitB m p a).2.2 j) := rfl
    have lp : ∃ z, it (fun y : Int32 × Int32 × Hp => BX12_lock_186 y.2.2 73 v1 (nI (327382 + 185 * p)) y.1 (nI x) (nI j) y.2.1) (nI W.length, nI 0, g) = some z ∧ ∃ h1, z = .inl (nI (W ++ stL m (fS m a j) ((fitB m p a).2.2 j)).length, nI (j + 1), h1) ∧ LRk h m p h1 (W ++ stL m (fS m a j) ((fitB m p a).2.2 j)) := by
      refine it_cnt (fun i y => y.1 = nI (W ++ stL m (fS m a j) i).length ∧ y.2.1 = nI i ∧ LRk h m p y.2.2 (W ++ stL m (fS m a j) i)) ((fitB m p a).2.2 j) (fun i y hi pp => ?_) (fun y pp => ?_) ⟨by unfold stL; rw [List.append_nil], rfl, by unfold stL; rw [List.append_nil]; exact L⟩
      · obtain ⟨a1, a2, g⟩ := y
        obtain ⟨p1, p2, p3⟩ := pp
        replace p1 : a1 = nI (W ++ stL m (fS m a j) i).length := p1
        replace p2 : a2 = nI i := p2
        replace p3 : LRk h m p g (W ++ stL m (fS m a j) i) := p3
        subst p1 p2
        obtain ⟨vq, -⟩ := ln_p I hs (n := i) (by omega)
        have := lm ((fitB m p a).2.2 j - (i + 1)) (i + 1) (by omega)
        have e2 : lnS m (fS m a j) (i + 1) = lnS m (fS m a j) i + Nn m (130 + 645 * (5 * fS m a j + i) + 4) := rfl
        have lW : (W ++ stL m (fS m a j) i).length = W.length + lnS m (fS m a j) i := by rw [List.length_append, stL_len]
        obtain ⟨g1, y1, y2⟩ := r_l230 (k := i) R I hp p3 vq (by omega) v1 (nI x) (nI j)
        have e3 : W ++ stL m (fS m a j) (i + 1) = W ++ stL m (fS m a j) i ++ plL m (5 * fS m a j + i) (Nn m (130 + 645 * (5 * fS m a j + i) + 4)) := by
          rw [List.append_assoc]; rfl
        refine ⟨(nI ((W ++ stL m (fS m a j) i).length + Nn m (130 + 645 * (5 * fS m a j + i) + 4)), nI (i + 1), g1), ?_, ?_, rfl, ?_⟩
        · show BX12_lock_186 g 73 v1 (nI (327382 + 185 * p)) (nI (W ++ stL m (fS m a j) i).length) (nI x) (nI j) (nI i) = _
          rw [hd g _ i p3, if_neg (nI_ge hi (by omega)), if_pos z, y1]
        · show nI ((W ++ stL m (fS m a j) i).length + Nn m (130 + 645 * (5 * fS m a j + i) + 4)) = nI (W ++ stL m (fS m a j) (i + 1)).length
          rw [e3, List.length_append (as := W ++ stL m (fS m a j) i), plL_len]
        · show LRk h m p g1 (W ++ stL m (fS m a j) (i + 1))
          rw [e3]
          exact y2
      · obtain ⟨a1, a2, g⟩ := y
        obtain ⟨p1, p2, p3⟩ := pp
        replace p1 : a1 = nI (W ++ stL m (fS m a j) ((fitB m p a).2.2 j)).length := p1
        replace p2 : a2 = nI ((fitB m p a).2.2 j) := p2
        replace p3 : LRk h m p g (W ++ stL m (fS m a j) ((fitB m p a).2.2 j)) := p3
        subst p1 p2
        refine ⟨.inl (nI (W ++ stL m (fS m a j) ((fitB m p a).2.2 j)).length, nI (j + 1), g), ?_, g, rfl, p3⟩
        show BX12_lock_186 g 73 v1 (nI (327382 + 185 * p)) (nI (W ++ stL m (fS m a j) ((fitB m p a).2.2 j)).length) (nI x) (nI j) (nI ((fitB m p a).2.2 j)) = _
        rw [hd g _ _ p3, if_pos (nI_le (Nat.le_refl _) (by omega))]
    obtain ⟨z, y1, h1, y2, y3⟩ := lp
    refine ⟨h1, ?_, y3⟩
    unfold MX12_lock_186
    rw [y1, y2]
  · rw [if_neg z, List.append_nil]
    refine ⟨g, ?_, L⟩
    unfold MX12_lock_186
    refine it_done ?_
    show BX12_lock_186 g 73 v1 (nI (327382 + 185 * p)) (nI W.length) (nI x) (nI j) (nI 0) = _
    rw [hd g W 0 L, if_neg (nI_ge (by omega) (by omega)), if_neg z]
theorem r_l174 (R : RS h) (I : MI m) (hp : p < 6) (K : RFt h m p a) (hN : fN m a ≤ 4) (b0 : (fitB m p a).1 ≠ 0) (hx : x < 3) (L : LRk h m p g (pgL m a (fitB m p a) x)) (v1 : Int32) : ∃ h1, MX12_lock_174 g 73 v1 (nI (327382 + 185 * p)) (nI (pgL m a (fitB m p a) x).length) (nI x) (nI 0) = some (.inl (nI (pgL m a (fitB m p a) (x + 1)).length, nI (x + 1), h1)) ∧ LRk h m p h1 (pgL m a (fitB m p a) (x + 1)) := by
  obtain ⟨q1, q2⟩ := fit_q m p a b0
  obtain ⟨-, b2, -, b4⟩ := pg_b I hp
  have pl := pgL_len (m := m) (a := a) (b := fitB m p a) q2 x
  have pl3 : (pgL m a (fitB m p a) x).length ≤ 120 := by
    have : Nn m (327382 + 185 * p + 1) * x ≤ 60 * 2 := Nat.mul_le_mul b4 (by omega)
    omega
  have cm : ∀ d j, j + d = fN m a → clN (fL m a) (fitB m p a).2.1 (fitB m p a).2.2 x j ≤ 60 := fun d => by
    induction d with
    | zero => intro j e; have := q2 x; rw [show j = fN m a by omega]; omega
    | succ d ih =>
      intro j e
      have := ih (j + 1) (by omega)
      have e2 : clN (fL m a) (fitB m p a).2.1 (fitB m p a).2.2 x (j + 1) = clN (fL m a) (fitB m p a).2.1 (fitB m p a).2.2 x j + (if (fitB m p a).2.1 j = x then fL m a j ((fitB m p a).2.2 j) else 0) := rfl
      omega
  have lp : ∃ z, it (fun y : Int32 × Int32 × Hp => BX12_lock_174 y.2.2 73 v1 (nI (327382 + 185 * p)) y.1 (nI x) y.2.1) (nI (pgL m a (fitB m p a) x).length, nI 0, g) = some z ∧ ∃ h1, z = .inl (nI (pgL m a (fitB m p a) (x + 1)).length, nI (x + 1), h1) ∧ LRk h m p h1 (pgL m a (fitB m p a) (x + 1)) := by
    refine it_cnt (fun i y => y.1 = nI (pgL m a (fitB m p a) x ++ coL m a (fitB m p a) x i).length ∧ y.2.1 = nI i ∧ LRk h m p y.2.2 (pgL m a (fitB m p a) x ++ coL m a (fitB m p a) x i)) (fN m a) (fun i y hi pp => ?_) (fun y pp => ?_) ⟨by unfold coL; rw [List.append_nil], rfl, by unfold coL; rw [List.append_nil]; exact L⟩
    · obtain ⟨a1, a2, g⟩ := y
      obtain ⟨p1, p2, p3⟩ := pp
      replace p1 : a1 = nI (pgL m a (fitB m p a) x ++ coL m a (fitB m p a) x i).length := p1
      replace p2 : a2 = nI i := p2
      replace p3 : LRk h m p g (pgL m a (fitB m p a) x ++ coL m a (fitB m p a) x i) := p3
      subst p1 p2
      have Rg := R.fr p3.1
      have Kg := rf_74 K p3.1
      have l1 := cm (fN m a - (i + 1)) (i + 1) (by omega)
      have e3 : clN (fL m a) (fitB m p a).2.1 (fitB m p a).2.2 x (i + 1) = clN (fL m a) (fitB m p a).2.1 (fitB m p a).2.2 x i + (if (fitB m p a).2.1 i = x then fL m a i ((fitB m p a).2.2 i) else 0) := rfl
      obtain ⟨g1, y1, y2⟩ := r_l186 R I hp K hN b0 hi hx p3 (fun z => by rw [if_pos z] at e3; rw [List.length_append, coL_len]; omega) v1
      have e5 : pgL m a (fitB m p a) x ++ coL m a (fitB m p a) x (i + 1) = pgL m a (fitB m p a) x ++ coL m a (fitB m p a) x i ++ (if (fitB m p a).2.1 i = x then stL m (fS m a i) ((fitB m p a).2.2 i) else []) := by
        rw [List.append_assoc]; rfl
      refine ⟨(nI (pgL m a (fitB m p a) x ++ coL m a (fitB m p a) x i ++ (if (fitB m p a).2.1 i = x then stL m (fS m a i) ((fitB m p a).2.2 i) else [])).length, nI (i + 1), g1), ?_, ?_, rfl, ?_⟩
      · show BX12_lock_174 g 73 v1 (nI (327382 + 185 * p)) (nI (pgL m a (fitB m p a) x ++ coL m a (fitB m p a) x i).length) (nI x) (nI i) = _
        unfold BX12_lock_174
        simp only [ZL]
        rw [gg_t (RS.f Rg).1, Kg.2.1, if_neg (nI_ge hi (by omega)), y1]
      · show nI (pgL m a (fitB m p a) x ++ coL m a (fitB m p a) x i ++ (if (fitB m p a).2.1 i = x then stL m (fS m a i) ((fitB m p a).2.2 i) else [])).length = nI (pgL m a (fitB m p a) x ++ coL m a (fitB m p a) x (i + 1)).length
        rw [e5]
      · show LRk h m p g1 (pgL m a (fitB m p a) x ++ coL m a (fitB m p a) x (i + 1))
        rw [e5]
        exact y2
    · obtain ⟨a1, a2, g⟩ := y
      obtain ⟨p1, p2, p3⟩ := pp
      replace p1 : a1 = nI (pgL m a (fitB m p a) (x + 1)).length := p1
      replace p2 : a2 = nI (fN m a) := p2
      replace p3 : LRk h m p g (pgL m a (fitB m p a) (x + 1)) := p3
      subst p1 p2
      have Rg := R.fr p3.1
      have Kg := rf_74 K p3.1
      refine ⟨.inl (nI (pgL m a (fitB m p a) (x + 1)).length, nI (x + 1), g), ?_, g, rfl, p3⟩
      show BX12_lock_174 g 73 v1 (nI (327382 + 185 * p)) (nI (pgL m a (fitB m p a) (x + 1)).length) (nI x) (nI (fN m a)) = _
      unfold BX12_lock_174
      simp only [ZL]
      rw [gg_t (RS.f Rg).1, Kg.2.1, if_pos (nI_le (Nat.le_refl _) (by omega)), nAdd]
  obtain ⟨z, y1, h1, y2, y3⟩ := lp
  refine ⟨h1, ?_, y3⟩
  unfold MX12_lock_174
  rw [y1, y2]
/-- the memory behind the lock -/
def lkM (m : Nat → Int32) (p : Nat) (W : List Int32) : Nat → Int32 := va_up (va_up (va_up (lkW m p W) (327382 + 185 * p + 2) (nI W.length)) (327382 + 185 * p + 3) (m 0)) (327382 + 185 * p + 4) (nI (ltN m p))
theorem lkM_o {y : Nat} (hW : W.length ≤ 180) (hy : y < 327382 + 185 * p + 2 ∨ 327382 + 185 * p + 185 ≤ y) : lkM m p W y = m y := by
  unfold lkM
  rw [up_at, if_neg (by omega), up_at, if_neg (by omega), up_at, if_neg (by omega), lkW_o (by omega)]
theorem lkM_l {l : Nat} (hl : l < W.length) : lkM m p W (327382 + 185 * p + 5 + l) = gD W l := by
  unfold lkM
  rw [up_at, if_neg (by omega), up_at, if_neg (by omega), up_at, if_neg (by omega), lkW_l hl]
theorem lkM_2 : lkM m p W (327382 + 185 * p + 2) = nI W.length ∧ lkM m p W (327382 + 185 * p + 3) = m 0 ∧ lkM m p W (327382 + 185 * p + 4) = nI (ltN m p) := by
  unfold lkM
  refine ⟨by rw [up_at, if_neg (by omega), up_at, if_neg (by omega), up_at, if_pos rfl], by rw [up_at, if_neg (by omega), up_at, if_pos rfl], by rw [up_at, if_pos rfl]⟩
theorem stI_mc {m' : Nat → Int32} {x : Int32} : ∀ n, (∀ y, y < n → m' (320962 + 562 * y) = m (320962 + 562 * y)) → stI m' x n = stI m x n
  | 0, _ => rfl
  | n + 1, H => by
    have ih := stI_mc (m' := m') (x := x) n (fun y hy => H y (by omega))
    have le := stI_le (m := m) (x := x) n
    unfold stI
    rw [ih, H n (by omega)]
    by_cases z : stI m x n = 0
    · rw [z, if_pos rfl, if_pos rfl]
    · rw [if_neg z, if_neg z, H (stI m x n - 1) (by omega)]
/-- the end: numbers, minute, lateness -/
theorem r_l298 (R : RSt h m kk ii t nn f) (I : MI m) (hp : p < 6) (L : LRk h m p g W) (hW : W.length ≤ 180) : ∃ h1, MX12_lock_298 g 73 (nI p) (nI (327382 + 185 * p)) (nI W.length) = some (nI W.length, h1) ∧ Fr (fun y => y = 74) h h1 ∧ gI h1 74 = lkM m p W := by
  obtain ⟨Rg, g73⟩ := lr_st R L
  have f0 := I.1.f.1
  have f2 := I.1.f.2.2.1
  have RR := Rg.1
  obtain ⟨h2, e2⟩ : ∃ x, x = sI g 74 (327382 + 185 * p + 2) (nI W.length) := ⟨_, rfl⟩
  have F2 : Fr (fun y => y = 74) g h2 := by rw [e2]; exact Fr.sI rfl
  have m2 : gI h2 74 = va_up (lkW m p W) (327382 + 185 * p + 2) (nI W.length) := by rw [e2, gI_sI, if_pos rfl, L.2]
  have m20 : gI h2 74 0 = m 0 := by rw [m2, up_at, if_neg (by omega), lkW_o (by omega)]
  obtain ⟨h3, e3⟩ : ∃ x, x = sI h2 74 (327382 + 185 * p + 3) (m 0) := ⟨_, rfl⟩
  have F3 : Fr (fun y => y = 74) h2 h3 := by rw [e3]; exact Fr.sI rfl
  have m3 : gI h3 74 = va_up (va_up (lkW m p W) (327382 + 185 * p + 2) (nI W.length)) (327382 + 185 * p + 3) (m 0) := by rw [e3, gI_sI, if_pos rfl, m2]
  have o3 : ∀ y, y < 327382 → gI h3 74 y = m y := fun y hy => by rw [m3, up_at, if_neg (by omega), up_at, if_neg (by omega), lkW_o (by omega)]
  have R3 := (RR.fr F2).fr F3
  have B3 : MIb (gI h3 74) := MIb.mc (m := m) (fun x hx => o3 x (by omega)) I.1
  have se : MX12_styleOf h3 73 (m 0) = some (stV (stN m)) := by
    have := r_styleOf R3 rfl B3 (m 0)
    rw [Nn.c (o3 2 (by omega)), stI_mc (m := m) _ (fun y hy => o3 _ (by omega))] at this
    exact this
  have sl := stI_le (m := m) (x := m 0) (Nn m 2)
  have sN : stN m = stI m (m 0) (Nn m 2) := rfl
  -- the last closing minute
  obtain ⟨h5, e5⟩ : ∃ x, x = sI h3 74 (327382 + 185 * p + 4) (nI (ltN m p)) := ⟨_, rfl⟩
  have F5 : Fr (fun y => y = 74) h3 h5 := by rw [e5]; exact Fr.sI rfl
  have m5 : gI h5 74 = lkM m p W := by rw [e5, gI_sI, if_pos rfl, m3]; rfl
  have fin : ∀ w, (w = nI 600 ∧ clV m p = -nI 1) ∨ (w = clV m p ∧ clV m p ≠ -nI 1) → MX12_lock_423 h3 73 (nI (327382 + 185 * p)) (nI W.length) w = some (nI W.length, h5) := fun w hw => by
    have e455 : ∀ v, v = nI (ltN m p) → MX12_lock_455 h3 (nI W.length) 74 (nI (327382 + 185 * p + 4)) v = some (nI W.length, h5) := fun v hv => by
      unfold MX12_lock_455
      rw [show kd h3 74 = 20 by simp only [RS.f R3], gg_t rfl, show ln h3 74 = 337220 by simp only [RS.f R3], gg_in (by omega) (by omega), nCl (by omega), hv, lt_eq, ← e5]
    unfold MX12_lock_423
    simp only [ZL]
    rw [gg_t (RS.f R3).1]
    simp only [RS.f R3]
    rw [gg_T, gg_in (by omega) (by omega), nCl (by omega), o3 0 (by omega), f0.1, nAdd]
    rcases hw with ⟨w1, w2⟩ | ⟨w1, w2⟩
    · have l0 : ltN m p = 0 := by unfold ltN; rw [if_pos w2]
      rw [w1, if_pos (nI_le (by omega) (by omega)), e455 _ (by rw [l0])]
    · rcases clV_b (p := p) I with z | ⟨x, hx, z⟩
      · exact absurd z w2
      · have l0 : ltN m p = Nn m 0 - x := by unfold ltN; rw [if_neg w2, z, nCl (by omega)]
        rw [w1, z]
        by_cases y : Nn m 0 ≤ x
        · rw [if_pos (nI_le y (by omega)), e455 _ (by rw [l0, show Nn m 0 - x = 0 by omega])]
        · rw [if_neg (nI_ge (by omega) (by omega)), nSub (by omega), e455 _ (by rw [l0])]
  have l344 : it (fun q : Int32 × Int32 => BX12_lock_344 h3 73 (nI p) (nI (327382 + 185 * p)) (nI W.length) (stV (stN m)) q.1 q.2) (nI 600, nI 0) = some (nI W.length, h5) := by
    by_cases z : stN m = 0
    · have cv : clV m p = -nI 1 := by unfold clV; rw [if_pos z]
      refine it_done ?_
      show BX12_lock_344 h3 73 (nI p) (nI (327382 + 185 * p)) (nI W.length) (stV (stN m)) (nI 600) (nI 0) = _
      unfold BX12_lock_344 stV
      simp only [ZL]
      rw [if_pos z, if_pos rfl, fin _ (Or.inl ⟨rfl, cv⟩), up1_some]
    · have hy : stN m - 1 < Nn m 2 := by omega
      obtain ⟨Y, hY⟩ : ∃ Y, Y = 320962 + 562 * (stN m - 1) := ⟨_, rfl⟩
      have J := I.2.2.2.2.2.1 _ hy
      rw [← hY] at J
      obtain ⟨j1, j2⟩ := J.2.1.eq (by omega)
      have cv : clV m p = clI m Y p (Nn m (Y + 1)) := by unfold clV; rw [if_neg z, hY]
      have sv : stV (stN m) = nI Y := by unfold stV; rw [if_neg z, hY]
      have Yb : Y ≤ 320962 + 562 * 9 := by omega
      refine it_seq2 (fun r => (if clI m Y p r = -nI 1 then nI 600 else clI m Y p r, nI r)) (Nn m (Y + 1)) (by rfl) (fun r hr => ?_) ?_
      · show BX12_lock_344 h3 73 (nI p) (nI (327382 + 185 * p)) (nI W.length) (stV (stN m)) (if clI m Y p r = -nI 1 then nI 600 else clI m Y p r) (nI r) = some (.inl (if clI m Y p (r + 1) = -nI 1 then nI 600 else clI m Y p (r + 1), nI (r + 1)))
        obtain ⟨x3, hx3, ex3⟩ := (J.2.2 r hr).2.2.1
        unfold BX12_lock_344
        simp only [ZL]
        rw [sv, if_neg (by rw [nM6 (by omega)]; exact id), gg_t (RS.f R3).1]
        simp only [RS.f R3]
        rw [gg_T, nAdd, nAdd, nAdd, nAdd, nMul, nAdd, nAdd, nAdd, nAdd, gg_in (by omega) (by omega), nCl (by omega), o3 (Y + 1) (by omega), j1, if_neg (nI_ge hr (by omega)), gg_in (by omega) (by omega), nCl (by omega), nCl (by omega), nCl (by omega), gg_in (by omega) (by omega), gg_in (by omega) (by omega), o3 _ (by omega), o3 _ (by omega), o3 _ (by omega)]
        have ec : clI m Y p (r + 1) = if m (Y + 2 + 5 * r) = nI 6 ∧ m (Y + 2 + 5 * r + 1) = nI p then m (Y + 2 + 5 * r + 2) else clI m Y p r := rfl
        rw [show Y + 3 + 5 * r = Y + 2 + 5 * r + 1 by omega, show Y + 4 + 5 * r = Y + 2 + 5 * r + 2 by omega, ec]
        by_cases z1 : m (Y + 2 + 5 * r) = nI 6
        · rw [if_pos z1]
          by_cases z2 : m (Y + 2 + 5 * r + 1) = nI p
          · rw [if_pos z2, if_pos (show m (Y + 2 + 5 * r) = nI 6 ∧ m (Y + 2 + 5 * r + 1) = nI p from ⟨z1, z2⟩), lt_eq, ex3, if_neg (by rw [nM6 (by omega)]; exact id)]
          · rw [if_neg z2, if_neg (show ¬ (m (Y + 2 + 5 * r) = nI 6 ∧ m (Y + 2 + 5 * r + 1) = nI p) from fun e => z2 e.2)]
        · rw [if_neg z1, if_neg (show ¬ (m (Y + 2 + 5 * r) = nI 6 ∧ m (Y + 2 + 5 * r + 1) = nI p) from fun e => z1 e.1)]
      · show BX12_lock_344 h3 73 (nI p) (nI (327382 + 185 * p)) (nI W.length) (stV (stN m)) (if clI m Y p (Nn m (Y + 1)) = -nI 1 then nI 600 else clI m Y p (Nn m (Y + 1))) (nI (Nn m (Y + 1))) = some (.inr (nI W.length, h5))
        have hw : MX12_lock_423 h3 73 (nI (327382 + 185 * p)) (nI W.length) (if clI m Y p (Nn m (Y + 1)) = -nI 1 then nI 600 else clI m Y p (Nn m (Y + 1))) = some (nI W.length, h5) := by
          refine fin _ ?_
          rw [← cv]
          by_cases y : clV m p = -nI 1
          · rw [if_pos y]; exact Or.inl ⟨rfl, y⟩
          · rw [if_neg y]; exact Or.inr ⟨rfl, y⟩
        unfold BX12_lock_344
        simp only [ZL]
        rw [sv, if_neg (by rw [nM6 (by omega)]; exact id), gg_t (RS.f R3).1]
        simp only [RS.f R3]
        rw [gg_T, nAdd, gg_in (by omega) (by omega), nCl (by omega), o3 (Y + 1) (by omega), j1, if_pos (nI_le (Nat.le_refl _) (by omega)), hw, up1_some]
  refine ⟨h5, ?_, ((L.1.trans F2).trans F3).trans F5, m5⟩
  unfold MX12_lock_298 MX12_lock_344
  simp only [ZL]
  rw [gg_t (RS.f RR).1]
  simp only [RS.f RR]
  rw [gg_T, nAdd, gg_in (by omega) (by omega), nCl (by omega), lt_eq, ← e2, gg_in (by omega) (by omega), nAdd, gg_in (by omega) (by omega), nCl (by omega), nCl (by omega), m20, lt_eq, ← e3, o3 0 (by omega), se, ob_some]
  exact l344
theorem r_l165 (R : RSt h m kk ii t nn f) (I : MI m) (hp : p < 6) (K : RFt h m p a) (hN : fN m a ≤ 4) (b0 : (fitB m p a).1 ≠ 0) : ∃ h1, MX12_lock_143 h 73 (nI p) (nI 1) = some (nI (pgL m a (fitB m p a) 3).length, h1) ∧ Fr (fun y => y = 74) h h1 ∧ gI h1 74 = lkM m p (pgL m a (fitB m p a) 3) := by
  obtain ⟨q1, q2⟩ := fit_q m p a b0
  obtain ⟨-, b2, -, b4⟩ := pg_b I hp
  have pl3 : (pgL m a (fitB m p a) 3).length ≤ 180 := by
    have pl := pgL_len (m := m) (a := a) (b := fitB m p a) q2 3
    omega
  have lp : ∃ z, it (fun y : Int32 × Int32 × Hp => BX12_lock_165 y.2.2 73 (nI p) (nI (327382 + 185 * p)) y.1 y.2.1) (nI 0, nI 0, h) = some z ∧ ∃ h1, z = (nI (pgL m a (fitB m p a) 3).length, h1) ∧ Fr (fun y => y = 74) h h1 ∧ gI h1 74 = lkM m p (pgL m a (fitB m p a) 3) := by
    refine it_cnt (fun i y => y.1 = nI (pgL m a (fitB m p a) i).length ∧ y.2.1 = nI i ∧ LRk h m p y.2.2 (pgL m a (fitB m p a) i)) 3 (fun i y hi pp => ?_) (fun y pp => ?_) ⟨rfl, rfl, Fr.rfl, by show gI h 74 = lkW m p []; rw [lkW_0]; exact R.2.1⟩
    · obtain ⟨a1, a2, g⟩ := y
      obtain ⟨p1, p2, p3⟩ := pp
      replace p1 : a1 = nI (pgL m a (fitB m p a) i).length := p1
      replace p2 : a2 = nI i := p2
      replace p3 : LRk h m p g (pgL m a (fitB m p a) i) := p3
      subst p1 p2
      obtain ⟨g1, y1, y2⟩ := r_l174 R.1 I hp K hN b0 hi p3 (nI p)
      refine ⟨(nI (pgL m a (fitB m p a) (i + 1)).length, nI (i + 1), g1), ?_, rfl, rfl, y2⟩
      show BX12_lock_165 g 73 (nI p) (nI (327382 + 185 * p)) (nI (pgL m a (fitB m p a) i).length) (nI i) = _
      unfold BX12_lock_165
      simp only [ZL]
      rw [if_neg (nI_ge hi (by omega)), y1]
    · obtain ⟨a1, a2, g⟩ := y
      obtain ⟨p1, p2, p3⟩ := pp
      replace p1 : a1 = nI (pgL m a (fitB m p a) 3).length := p1
      replace p2 : a2 = nI 3 := p2
      replace p3 : LRk h m p g (pgL m a (fitB m p a) 3) := p3
      subst p1 p2
      obtain ⟨g1, y1, y2, y3⟩ := r_l298 R I hp p3 pl3
      refine ⟨(nI (pgL m a (fitB m p a) 3).length, g1), ?_, g1, rfl, y2, y3⟩
      show BX12_lock_165 g 73 (nI p) (nI (327382 + 185 * p)) (nI (pgL m a (fitB m p a) 3).length) (nI 3) = _
      unfold BX12_lock_165
      simp only [ZL]
      rw [if_pos (nI_le (Nat.le_refl _) (by omega)), y1, up1_some]
  obtain ⟨z, y1, h1, y2, y3⟩ := lp
  refine ⟨h1, ?_, y3⟩
  unfold MX12_lock_143 MX12_lock_165
  simp only [ZL]
  rw [if_neg (by decide), nMul, nAdd, y1, y2]
end
