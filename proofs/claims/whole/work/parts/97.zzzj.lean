/-! lock: the reference -/
def lkW (m : Nat → Int32) (p : Nat) (W : List Int32) : Nat → Int32 := fun y => if 327382 + 185 * p + 5 ≤ y ∧ y < 327382 + 185 * p + 5 + W.length then gD W (y - (327382 + 185 * p + 5)) else m y
theorem lkW_0 {m : Nat → Int32} {p : Nat} : lkW m p [] = m := by
  funext y
  unfold lkW
  rw [if_neg (by rw [show ([] : List Int32).length = 0 from rfl]; omega)]
theorem lkW_o {m : Nat → Int32} {p y : Nat} {W : List Int32} (h : y < 327382 + 185 * p + 5 ∨ 327382 + 185 * p + 5 + W.length ≤ y) : lkW m p W y = m y := by
  unfold lkW
  rw [if_neg (by omega)]
theorem lkW_l {m : Nat → Int32} {p l : Nat} {W : List Int32} (h : l < W.length) : lkW m p W (327382 + 185 * p + 5 + l) = gD W l := by
  unfold lkW
  rw [if_pos (by omega), Nat.add_sub_cancel_left]
theorem lkW_up {m : Nat → Int32} {p : Nat} {W : List Int32} {v : Int32} : va_up (lkW m p W) (327382 + 185 * p + 5 + W.length) v = lkW m p (W ++ [v]) := by
  funext y
  have e : (W ++ [v]).length = W.length + 1 := by rw [List.length_append]; rfl
  rw [up_at]
  by_cases z : y = 327382 + 185 * p + 5 + W.length
  · rw [if_pos z, z, lkW_l (by omega), gD_eq]
  · rw [if_neg z]
    by_cases u : 327382 + 185 * p + 5 ≤ y ∧ y < 327382 + 185 * p + 5 + W.length
    · obtain ⟨l, rfl⟩ : ∃ l, y = 327382 + 185 * p + 5 + l := ⟨y - (327382 + 185 * p + 5), by omega⟩
      rw [lkW_l (by omega), lkW_l (by omega), gD_lt (by omega)]
    · rw [lkW_o (by omega), lkW_o (by omega)]
section
variable {h h' h1 : Hp} {m k t : Nat → Int32} {i n f : Int32} {a p q s x : Nat} {W : List Int32} {b : Bst}
/-- what the search has found stays where the memory alone is written -/
theorem rf_74 (K : RFt h m p a) (F : Fr (fun y => y = 74) h h1) : RFt h1 m p a := by
  unfold RFt RBk
  rw [F.2.2.2.2.2.2 73 (by omega), F.2.2.2.2.2.2 103 (by omega), F.2.2.2.2.2.2 104 (by omega), F.2.2.2.2.2.2 100 (by omega)]
  exact K
theorem rf_w (K : RFt h m p a) (F : Rw h h1) : RFt h1 m p a := by
  obtain ⟨⟨k1, k2, k3⟩, k4, k5⟩ := K
  refine ⟨⟨by rw [F.2 52 (by omega)]; exact k1, k2, fun e j hj => by rw [F.1.2.2.2.2.2.2 103 (by omega), F.1.2.2.2.2.2.2 104 (by omega)]; exact k3 e j hj⟩, by rw [F.2 51 (by omega)]; exact k4, fun j hj => by rw [F.1.2.2.2.2.2.2 100 (by omega)]; exact k5 j hj⟩
/-- is all right -/
theorem r_l87 (R : RS h) (em : gI h 74 = m) (I : MI m) (hq : vP m q) (es : m (130 + 645 * q + 3) = nI 1) (d0 : Bool) (v w u x : Int32) {kk : Nat} : ∃ h1, MX12_lock_87 h 73 v (bI d0) w (nI kk) (nI q) (nI 0) = some (.inl (bI (d0 && rtQ m q), nI (kk + 1), h1)) ∧ Rw h h1 := by
  have hq0 := hq.1
  obtain ⟨e4, l4⟩ := (I.2.1 q hq).2.2.2.2.2.1.eq (by omega)
  have lp : ∃ z, it (fun y : Int32 × Int32 × Hp => BX12_lock_87 y.2.2 73 v y.1 w (nI kk) (nI q) y.2.1) (bI d0, nI 0, h) = some z ∧ ∃ h1, z = .inl (bI (d0 && rtQ m q), nI (kk + 1), h1) ∧ Rw h h1 := by
    refine it_cnt (fun l y => y.1 = bI (d0 && dB (∀ j, j < l → rtB m q j = true)) ∧ y.2.1 = nI l ∧ Rw h y.2.2) (Nn m (130 + 645 * q + 4)) (fun l y hl pp => ?_) (fun y pp => ?_) ⟨?_, rfl, Rw.rfl⟩
    · obtain ⟨a1, a2, g⟩ := y
      obtain ⟨p1, p2, p3⟩ := pp
      replace p1 : a1 = bI (d0 && dB (∀ j, j < l → rtB m q j = true)) := p1
      replace p2 : a2 = nI l := p2
      replace p3 : Rw h g := p3
      subst p2
      have Rg := R.fr p3.1
      have eg := p3.em em
      have head : BX12_lock_87 g 73 v a1 w (nI kk) (nI q) (nI l) = if a1 = nI 0 then some (.inl (nI 0, nI (l + 1), g)) else b2 (MX12_isRight g 73 (nI q) (nI l)) fun (t98 : Int32) (h97 : Hp) => if t98 = nI 0 then some (.inl (nI 0, nI (l + 1), h97)) else some (.inl (nI 1, nI (l + 1), h97)) := by
        unfold BX12_lock_87 MX12_lock_123 MX12_lock_124
        simp only [ZL]
        rw [gg_t (RS.f Rg).1, r_part0, ob_some]
        simp only [RS.f Rg]
        rw [gg_T, nAdd, gg_in (by omega) (by omega), nCl (by omega), eg, e4, if_neg (nI_ge hl (by omega)), nAdd]
      have sp : (∀ j, j < l + 1 → rtB m q j = true) ↔ ((∀ j, j < l → rtB m q j = true) ∧ rtB m q l = true) := by
        constructor
        · intro H
          exact ⟨fun j hj => H j (by omega), H l (by omega)⟩
        · rintro ⟨H1, H2⟩ j hj
          by_cases z : j = l
          · rw [z]; exact H2
          · exact H1 j (by omega)
      by_cases z : d0 = true ∧ ∀ j, j < l → rtB m q j = true
      · have ea : a1 = nI 1 := by rw [p1, z.1, dB_t z.2]; rfl
        obtain ⟨g1, y1, y2⟩ := r_isRight Rg eg I hq es hl
        refine ⟨(bI (rtB m q l), nI (l + 1), g1), ?_, ?_, rfl, p3.trans y2⟩
        · show BX12_lock_87 g 73 v a1 w (nI kk) (nI q) (nI l) = _
          rw [head, ea, if_neg (by decide), y1, b2_some]
          cases rtB m q l
          · rw [if_pos (show bI false = nI 0 from rfl)]; rfl
          · rw [if_neg (show ¬ bI true = nI 0 by decide)]; rfl
        · show bI (rtB m q l) = bI (d0 && dB (∀ j, j < l + 1 → rtB m q j = true))
          rw [z.1, Bool.true_and]
          cases y : rtB m q l with
          | true => rw [dB_t (sp.mpr ⟨z.2, y⟩)]
          | false => rw [dB_f (fun H => by have := (sp.mp H).2; rw [y] at this; exact absurd this (by decide))]
      · have e0 : (d0 && dB (∀ j, j < l → rtB m q j = true)) = false := by
          cases d0 with
          | false => rfl
          | true => rw [Bool.true_and]; exact dB_f (fun H => z ⟨rfl, H⟩)
        have ea : a1 = nI 0 := by rw [p1, e0]; rfl
        refine ⟨(nI 0, nI (l + 1), g), ?_, ?_, rfl, p3⟩
        · show BX12_lock_87 g 73 v a1 w (nI kk) (nI q) (nI l) = _
          rw [head, ea, if_pos rfl]
        · show nI 0 = bI (d0 && dB (∀ j, j < l + 1 → rtB m q j = true))
          have e1 : (d0 && dB (∀ j, j < l + 1 → rtB m q j = true)) = false := by
            cases d0 with
            | false => rfl
            | true => rw [Bool.true_and]; exact dB_f (fun H => z ⟨rfl, (sp.mp H).1⟩)
          rw [e1]
          rfl
    · obtain ⟨a1, a2, g⟩ := y
      obtain ⟨p1, p2, p3⟩ := pp
      replace p1 : a1 = bI (d0 && dB (∀ j, j < Nn m (130 + 645 * q + 4) → rtB m q j = true)) := p1
      replace p2 : a2 = nI (Nn m (130 + 645 * q + 4)) := p2
      replace p3 : Rw h g := p3
      subst p2
      have Rg := R.fr p3.1
      have eg := p3.em em
      refine ⟨.inl (a1, nI (kk + 1), g), ?_, g, by rw [p1]; rfl, p3⟩
      show BX12_lock_87 g 73 v a1 w (nI kk) (nI q) (nI (Nn m (130 + 645 * q + 4))) = _
      unfold BX12_lock_87
      simp only [ZL]
      rw [gg_t (RS.f Rg).1, r_part0, ob_some]
      simp only [RS.f Rg]
      rw [gg_T, nAdd, gg_in (by omega) (by omega), nCl (by omega), eg, e4, if_pos (nI_le (Nat.le_refl _) (by omega)), nAdd]
    · show bI d0 = bI (d0 && dB (∀ j, j < 0 → rtB m q j = true))
      rw [dB_t (fun j hj => by omega), Bool.and_true]
  obtain ⟨z, y1, h1, y2, y3⟩ := lp
  refine ⟨h1, ?_, y3⟩
  unfold MX12_lock_87
  rw [y1, y2]
theorem r_l58 (R : RS h) (em : gI h 74 = m) (I : MI m) (K : RFt h m p a) (hN : fN m a ≤ 4) (A : alS m a) (b0 : (fitB m p a).1 ≠ 0) {j : Nat} (hj : j < fN m a) (d0 : Bool) (v : Int32) : ∃ h1, MX12_lock_58 h 73 v (bI d0) (nI j) (nI 0) = some (.inl (bI (d0 && rtS m a (fitB m p a) j), nI (j + 1), h1)) ∧ Rw h h1 := by
  obtain ⟨q3, q4, q5⟩ := (fit_q m p a b0).1 j hj
  obtain ⟨hs, hb⟩ := fS_in hj
  have f1 := I.1.f.2.1.2
  have s5 := ((I.1.2.2.2.2.2.2.2.2.2 _ hs).2.2.1.eq (by omega)).2
  have q5' : (fitB m p a).2.2 j ≤ Nn m (110 + fS m a j) := q5
  have lp : ∃ z, it (fun y : Int32 × Int32 × Hp => BX12_lock_58 y.2.2 73 v y.1 (nI j) y.2.1) (bI d0, nI 0, h) = some z ∧ ∃ h1, z = .inl (bI (d0 && rtS m a (fitB m p a) j), nI (j + 1), h1) ∧ Rw h h1 := by
    refine it_cnt (fun l y => y.1 = bI (d0 && dB (∀ k, k < l → rtQ m (5 * fS m a j + k) = true)) ∧ y.2.1 = nI l ∧ Rw h y.2.2) ((fitB m p a).2.2 j) (fun l y hl pp => ?_) (fun y pp => ?_) ⟨?_, rfl, Rw.rfl⟩
    · obtain ⟨a1, a2, g⟩ := y
      obtain ⟨p1, p2, p3⟩ := pp
      replace p1 : a1 = bI (d0 && dB (∀ k, k < l → rtQ m (5 * fS m a j + k) = true)) := p1
      replace p2 : a2 = nI l := p2
      replace p3 : Rw h g := p3
      subst p2
      have Rg := R.fr p3.1
      have eg := p3.em em
      have Kg := rf_w K p3
      obtain ⟨v1, v2⟩ := Kg.1.2.2 b0 j hj
      obtain ⟨vq, -⟩ := ln_p I hs (n := l) (by omega)
      obtain ⟨g1, y1, y2⟩ := r_l87 Rg eg I vq (A _ hs hb l (by omega)) (d0 && dB (∀ k, k < l → rtQ m (5 * fS m a j + k) = true)) v (nI j) 0 0 (kk := l)
      refine ⟨(bI (d0 && dB (∀ k, k < l → rtQ m (5 * fS m a j + k) = true) && rtQ m (5 * fS m a j + l)), nI (l + 1), g1), ?_, ?_, rfl, p3.trans y2⟩
      · show BX12_lock_58 g 73 v a1 (nI j) (nI l) = _
        unfold BX12_lock_58
        simp only [ZL]
        rw [gg_t (RS.f Rg).1]
        simp only [RS.f Rg]
        rw [gg_T, gg_in (by omega) (by omega), nCl (by omega), v2, if_neg (nI_ge hl (by omega)), gg_T, gg_in (by omega) (by omega), Kg.2.2 j hj, nMul, nAdd, p1, y1]
      · show bI (d0 && dB (∀ k, k < l → rtQ m (5 * fS m a j + k) = true) && rtQ m (5 * fS m a j + l)) = bI (d0 && dB (∀ k, k < l + 1 → rtQ m (5 * fS m a j + k) = true))
        rw [Bool.and_assoc]
        have e : (dB (∀ k, k < l → rtQ m (5 * fS m a j + k) = true) && rtQ m (5 * fS m a j + l)) = dB (∀ k, k < l + 1 → rtQ m (5 * fS m a j + k) = true) := by
          by_cases z : ∀ k, k < l → rtQ m (5 * fS m a j + k) = true
          · rw [dB_t z, Bool.true_and]
            cases y : rtQ m (5 * fS m a j + l) with
            | true => exact (dB_t (fun k hk => by
                by_cases e : k = l
                · rw [e]; exact y
                · exact z k (by omega))).symm
            | false => exact (dB_f (fun H => by have := H l (by omega); rw [y] at this; exact absurd this (by decide))).symm
          · rw [dB_f z, Bool.false_and, dB_f (fun H => z (fun k hk => H k (by omega)))]
        rw [e]
    · obtain ⟨a1, a2, g⟩ := y
      obtain ⟨p1, p2, p3⟩ := pp
      replace p1 : a1 = bI (d0 && rtS m a (fitB m p a) j) := p1
      replace p2 : a2 = nI ((fitB m p a).2.2 j) := p2
      replace p3 : Rw h g := p3
      subst p2
      have Rg := R.fr p3.1
      have Kg := rf_w K p3
      obtain ⟨v1, v2⟩ := Kg.1.2.2 b0 j hj
      refine ⟨.inl (a1, nI (j + 1), g), ?_, g, by rw [p1], p3⟩
      show BX12_lock_58 g 73 v a1 (nI j) (nI ((fitB m p a).2.2 j)) = _
      unfold BX12_lock_58
      simp only [ZL]
      rw [gg_t (RS.f Rg).1]
      simp only [RS.f Rg]
      rw [gg_T, gg_in (by omega) (by omega), nCl (by omega), v2, if_pos (nI_le (Nat.le_refl _) (by omega)), nAdd]
    · show bI d0 = bI (d0 && dB (∀ k, k < 0 → rtQ m (5 * fS m a j + k) = true))
      rw [dB_t (fun j hj => by omega), Bool.and_true]
  obtain ⟨z, y1, h1, y2, y3⟩ := lp
  refine ⟨h1, ?_, y3⟩
  unfold MX12_lock_58
  rw [y1, y2]
theorem r_l42 (I : MI m) (hN : fN m a ≤ 4) (A : alS m a) (b0 : (fitB m p a).1 ≠ 0) (v : Int32) : ∀ d j h, j + d = fN m a → RS h → gI h 74 = m → RFt h m p a → ∀ d0 : Bool, ∃ h1, it (fun y : Int32 × Int32 × Hp => BX12_lock_42 y.2.2 73 v y.1 y.2.1) (bI d0, nI j, h) = MX12_lock_143 h1 73 v (bI (d0 && dB (∀ l, j ≤ l → l < fN m a → rtS m a (fitB m p a) l = true))) ∧ Rw h h1 := by
  intro d
  induction d with
  | zero =>
    intro j h e R em K d0
    have e : j = fN m a := e
    refine ⟨h, ?_, Rw.rfl⟩
    rw [dB_t (fun l h1 h2 => by omega), Bool.and_true]
    refine it_u1 ?_
    show BX12_lock_42 h 73 v (bI d0) (nI j) = _
    unfold BX12_lock_42
    rw [gg_t (RS.f R).1, K.2.1, if_pos (nI_le (by omega) (by omega))]
  | succ d ih =>
    intro j h e R em K d0
    cases d0 with
    | false =>
      refine ⟨h, ?_, Rw.rfl⟩
      rw [Bool.false_and]
      refine it_u1 ?_
      show BX12_lock_42 h 73 v (bI false) (nI j) = _
      unfold BX12_lock_42
      rw [gg_t (RS.f R).1, K.2.1, if_neg (nI_ge (by omega) (by omega)), if_pos (by decide)]
    | true =>
      obtain ⟨g, y1, y2⟩ := r_l58 R em I K hN A b0 (j := j) (by omega) true v
      obtain ⟨h1, z1, z2⟩ := ih (j + 1) g (by omega) (R.fr y2.1) (y2.em em) (rf_w K y2) (true && rtS m a (fitB m p a) j)
      refine ⟨h1, ?_, y2.trans z2⟩
      rw [it_next (s' := (bI (true && rtS m a (fitB m p a) j), nI (j + 1), g)) (by
        show BX12_lock_42 h 73 v (bI true) (nI j) = _
        unfold BX12_lock_42
        simp only [ZL]
        rw [gg_t (RS.f R).1, K.2.1, if_neg (nI_ge (by omega) (by omega)), if_neg (by decide), y1]), z1]
      have e2 : (true && rtS m a (fitB m p a) j && dB (∀ l, j + 1 ≤ l → l < fN m a → rtS m a (fitB m p a) l = true)) = (true && dB (∀ l, j ≤ l → l < fN m a → rtS m a (fitB m p a) l = true)) := by
        rw [Bool.true_and, Bool.true_and]
        cases y : rtS m a (fitB m p a) j with
        | true =>
          rw [Bool.true_and]
          refine dB_c ⟨fun H l h1 h2 => ?_, fun H l h1 h2 => H l (by omega) h2⟩
          by_cases e : l = j
          · rw [e]; exact y
          · exact H l (by omega) h2
        | false => exact (dB_f (fun H => by have := H j (Nat.le_refl _) (by omega); rw [y] at this; exact absurd this (by decide))).symm
      rw [e2]
end
