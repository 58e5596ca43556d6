/-! copy is read: the class -/
theorem bS_l : ∀ c, c < 256 → (if bS c < (97 : Int32) then (nI 0 : Int32) else if (122 : Int32) < bS c then nI 0 else nI 1) = bI (lB c) := by decide +kernel
theorem bS_c : ∀ c, c < 256 → (bS c = nI 45 ↔ c = 45) ∧ (bS c = nI 47 ↔ c = 47) ∧ (bS c = nI 32 ↔ c = 32) := by decide +kernel
theorem nB_l : ∀ c, c < 256 → (if nI c < (97 : Int32) then (nI 0 : Int32) else if (122 : Int32) < nI c then nI 0 else nI 1) = bI (lB c) := by decide +kernel
section
variable {h : Hp} {c : Nat} {mp mw ba e n i X : Nat} {b : Nat → Nat} {s0 s : TX}
theorem c_isL (hc : c ≤ 255) : MX1_isLetter h (bS c) = some (bI (lB c)) := by
  have K := bS_l c (by omega)
  unfold MX1_isLetter
  by_cases z : bS c < (97 : Int32)
  · rw [if_pos z] at K ⊢
    rw [← K]; rfl
  · rw [if_neg z] at K ⊢
    by_cases y : (122 : Int32) < bS c
    · rw [if_pos y] at K ⊢
      rw [← K]; rfl
    · rw [if_neg y] at K ⊢
      rw [← K]; rfl
theorem r_isL (hc : c ≤ 255) : MX12_isLetter h (nI c) = some (bI (lB c)) := by
  have K := nB_l c (by omega)
  unfold MX12_isLetter
  by_cases z : nI c < (97 : Int32)
  · rw [if_pos z] at K ⊢
    rw [← K]; rfl
  · rw [if_neg z] at K ⊢
    by_cases y : (122 : Int32) < nI c
    · rw [if_pos y] at K ⊢
      rw [← K]; rfl
    · rw [if_neg y] at K ⊢
      rw [← K]; rfl
/-- the class's numbers in a state -/
def cN6 (ba : Nat) (s : TX) (i : Nat) : Int32 × Int32 × Int32 × Int32 × Int32 × Int32 := (nI (s.1 + 1), nI (tw s), nI (tp s + ba), nI s.2.1, bI s.2.2.1, nI i)
theorem ti_wb (T : TI mp mw ba s) (hm : mw ≤ 40) : tw s ≤ 40 ∧ tp s ≤ 40 := by
  have := T.2.2.1 s.1 (Nat.le_refl _)
  have a1 := (this.1.eq (by omega)).2
  have a2 := (this.2.eq (by omega)).2
  exact ⟨by unfold tw; omega, a2⟩
theorem c_stp (kX : kd h X = 21) (lX : e ≤ ln h X) (lb : ln h X < 100000) (hi : i < e) (hc : gI h X i = bS (b i)) (hb : b i ≤ 255) (hm : mw ≤ 40) (hm0 : mp ≤ 40) (hba : ba ≤ 40) (mb : mp = 1 ∨ ba = 0) (T : TI mp mw ba s) : BX1_firstWrong_19 h X (nI e) (nI mp) (nI mw) (nI (s.1 + 1)) (nI (tw s)) (nI (tp s + ba)) (nI s.2.1) (bI s.2.2.1) (nI i) = (match stT mp mw ba s (b i) i with | .inl _ => some (.inr (nI i)) | .inr s' => some (.inl (cN6 ba s' (i + 1)))) := by
  obtain ⟨wb, pb⟩ := ti_wb T hm
  have k1 := T.1
  have r12 := T.2.1
  obtain ⟨t1, t2, t3⟩ := bS_c (b i) (by omega)
  have bz : ∀ x : Bool, (bI x = nI 0) = (x = false) := fun x => by cases x <;> simp [bI] <;> decide
  have head : BX1_firstWrong_19 h X (nI e) (nI mp) (nI mw) (nI (s.1 + 1)) (nI (tw s)) (nI (tp s + ba)) (nI s.2.1) (bI s.2.2.1) (nI i) = if bI (lB (b i)) = nI 0 then (if bI s.2.2.1 = nI 0 then (if bS (b i) = nI 45 then (if nI s.2.1 ≤ nI 0 then MX1_firstWrong_124 h X (nI e) (nI mp) (nI mw) (nI (s.1 + 1)) (nI (tw s)) (nI (tp s + ba)) (bI s.2.2.1) (nI i) (bS (b i)) else MX1_firstWrong_164 h X (nI e) (nI mp) (nI mw) (nI (s.1 + 1)) (nI (tw s)) (nI (tp s + ba)) (nI 1) (nI i)) else MX1_firstWrong_124 h X (nI e) (nI mp) (nI mw) (nI (s.1 + 1)) (nI (tw s)) (nI (tp s + ba)) (bI s.2.2.1) (nI i) (bS (b i))) else some (.inr (nI i))) else (if nI s.2.1 = nI 0 then (if bI s.2.2.1 = nI 0 then MX1_firstWrong_63 h X (nI e) (nI mp) (nI mw) (nI (s.1 + 1)) (nI (tp s + ba)) (nI s.2.1) (nI i) (nI (tw s)) (nI 1) else MX1_firstWrong_63 h X (nI e) (nI mp) (nI mw) (nI (s.1 + 1)) (nI (tp s + ba)) (nI s.2.1) (nI i) (nI (tw s)) (nI 0)) else MX1_firstWrong_69 h X (nI e) (nI mp) (nI mw) (nI (s.1 + 1)) (nI (tw s)) (nI (tp s + ba)) (nI s.2.1) (nI i)) := by
    unfold BX1_firstWrong_19
    simp only [ZL]
    rw [if_neg (nI_ge hi (by omega)), gg_t kX, if_neg (nI_ge (by omega) (by omega)), gg_in (by omega) (by omega), nCl (by omega), hc, c_isL hb, ob_some]
  rw [head]
  have e69 : ∀ (w p r : Nat), w ≤ 41 → p ≤ 81 → r ≤ 12 → MX1_firstWrong_69 h X (nI e) (nI mp) (nI mw) (nI (s.1 + 1)) (nI w) (nI p) (nI r) (nI i) = if mw < w ∨ 40 < p ∨ 12 < r + 1 then some (.inr (nI i)) else some (.inl (nI (s.1 + 1), nI w, nI p, nI (r + 1), nI 0, nI (i + 1))) := fun w p r hw hp hr => by
    unfold MX1_firstWrong_69
    simp only [ZL]
    rw [nAdd, nAdd]
    by_cases z1 : mw < w
    · rw [if_pos (nI_lt z1 (by omega)), if_pos (Or.inl z1)]
    · rw [if_neg (nI_nlt (by omega) (by omega))]
      by_cases z2 : 40 < p
      · rw [if_pos (nI_lt z2 (by omega)), if_pos (Or.inr (Or.inl z2))]
      · rw [if_neg (nI_nlt (by omega) (by omega))]
        by_cases z3 : 12 < r + 1
        · rw [if_neg (nI_ge z3 (by omega)), if_pos (Or.inr (Or.inr z3))]
        · rw [if_pos (nI_le (by omega) (by omega)), if_neg (by omega)]
  have ti := T.2.2.2.1
  unfold stT
  cases lc : lB (b i) with
  | true =>
    rw [if_neg (show ¬ bI true = nI 0 by decide), if_pos rfl]
    by_cases r0 : s.2.1 = 0
    · have e63 : (if bI s.2.2.1 = nI 0 then MX1_firstWrong_63 h X (nI e) (nI mp) (nI mw) (nI (s.1 + 1)) (nI (tp s + ba)) (nI s.2.1) (nI i) (nI (tw s)) (nI 1) else MX1_firstWrong_63 h X (nI e) (nI mp) (nI mw) (nI (s.1 + 1)) (nI (tp s + ba)) (nI s.2.1) (nI i) (nI (tw s)) (nI 0)) = MX1_firstWrong_69 h X (nI e) (nI mp) (nI mw) (nI (s.1 + 1)) (nI (tw1 s)) (nI (tp s + 1 + ba)) (nI 0) (nI i) := by
        unfold MX1_firstWrong_63 tw1
        simp only [ZL]
        rw [r0, nAdd, nAdd, nAdd, show tp s + ba + 1 = tp s + 1 + ba by omega]
        cases s.2.2.1 with
        | true => rw [if_neg (show ¬ bI true = nI 0 by decide), if_pos rfl]
        | false => rw [if_pos (show bI false = nI 0 from rfl), if_neg (by decide)]
      rw [if_pos (show nI s.2.1 = nI 0 by rw [r0]), e63, if_pos r0]
      have w41 : tw1 s ≤ 41 := by unfold tw1; split <;> omega
      rw [e69 _ _ _ w41 (by omega) (by omega)]
      by_cases z : mw < tw1 s ∨ 40 < tp s + 1 + ba
      · rw [if_pos (by omega), if_pos z]
      · rw [if_neg (by omega), if_neg z]
        have e1 : tw (tNew s (b i)) = tw1 s := by
          show Nn (va_up s.2.2.2.1 s.1 (nI (tw1 s))) s.1 = _
          rw [nnU (by omega), if_pos rfl]
        have e2 : tp (tNew s (b i)) = tp s + 1 := by
          show Nn (va_up s.2.2.2.2.1 s.1 (nI (tp s + 1))) s.1 = _
          rw [nnU (by omega), if_pos rfl]
        show some (Sum.inl (nI (s.1 + 1), nI (tw1 s), nI (tp s + 1 + ba), nI (0 + 1), nI 0, nI (i + 1))) = some (Sum.inl (nI (s.1 + 1), nI (tw (tNew s (b i))), nI (tp (tNew s (b i)) + ba), nI 1, bI false, nI (i + 1)))
        rw [e1, e2]
        rfl
    · rw [if_neg (by rw [nEq (by omega) (by omega)]; exact r0), if_neg r0, e69 _ _ _ (by omega) (by omega) r12]
      have nb : s.2.2.1 = false := (T.2.2.2.2.1 (by omega)).1
      have wm : tw s ≤ mw := ((T.2.2.1 s.1 (Nat.le_refl _)).1.eq (by omega)).2
      by_cases z : 12 < s.2.1 + 1
      · rw [if_pos (by omega), if_pos z]
      · rw [if_neg (by omega), if_neg z]
        rfl
  | false =>
    rw [if_pos (show bI false = nI 0 from rfl), if_neg (show ¬ (false = true) by decide)]
    cases bb : s.2.2.1 with
    | true =>
      rw [if_neg (show ¬ bI true = nI 0 by decide), if_pos (show true = true from rfl)]
    | false =>
      rw [if_pos (show bI false = nI 0 from rfl), if_neg (show ¬ (false = true) by decide)]
      have e164 : ∀ (k w p : Nat) (v9 : Bool), MX1_firstWrong_164 h X (nI e) (nI mp) (nI mw) (nI k) (nI w) (nI p) (bI v9) (nI i) = some (.inl (nI k, nI w, nI p, nI 0, bI v9, nI (i + 1))) := fun k w p v9 => by
        unfold MX1_firstWrong_164
        simp only [ZL]
        rw [nAdd]
      have e154 : MX1_firstWrong_154 h X (nI e) (nI mp) (nI mw) (nI (s.1 + 1)) (nI (tw s)) (nI (tp s + ba)) (bI false) (nI i) (bS (b i)) = if b i = 32 then some (.inl (nI (s.1 + 1), nI (tw s), nI (tp s + ba), nI 0, bI false, nI (i + 1))) else some (.inr (nI i)) := by
        unfold MX1_firstWrong_154
        simp only [ZL]
        rw [e164]
        by_cases z : b i = 32
        · rw [if_pos (t3.mpr z), if_pos z]
        · rw [if_neg (fun x => z (t3.mp x)), if_neg z]
      have e124 : MX1_firstWrong_124 h X (nI e) (nI mp) (nI mw) (nI (s.1 + 1)) (nI (tw s)) (nI (tp s + ba)) (bI false) (nI i) (bS (b i)) = if b i = 47 ∧ 0 < tw s ∧ s.1 + 1 < mp then some (.inl (nI (s.1 + 1 + 1), nI 0, nI 0, nI 0, bI false, nI (i + 1))) else if b i = 32 then some (.inl (nI (s.1 + 1), nI (tw s), nI (tp s + ba), nI 0, bI false, nI (i + 1))) else some (.inr (nI i)) := by
        unfold MX1_firstWrong_124
        simp only [ZL]
        rw [e154, nAdd, e164]
        by_cases z : b i = 47
        · rw [if_pos (t2.mpr z)]
          by_cases z2 : tw s ≤ 0
          · rw [if_pos (nI_le z2 (by omega)), if_neg (show ¬ (b i = 47 ∧ 0 < tw s ∧ s.1 + 1 < mp) by omega)]
          · rw [if_neg (nI_ge (by omega) (by omega))]
            by_cases z3 : mp ≤ s.1 + 1
            · rw [if_pos (nI_le z3 (by omega)), if_neg (show ¬ (b i = 47 ∧ 0 < tw s ∧ s.1 + 1 < mp) by omega)]
            · rw [if_neg (nI_ge (by omega) (by omega)), if_pos (show b i = 47 ∧ 0 < tw s ∧ s.1 + 1 < mp from ⟨z, by omega, by omega⟩)]
        · rw [if_neg (fun x => z (t2.mp x)), if_neg (show ¬ (b i = 47 ∧ 0 < tw s ∧ s.1 + 1 < mp) from fun x => z x.1)]
      have tail : MX1_firstWrong_124 h X (nI e) (nI mp) (nI mw) (nI (s.1 + 1)) (nI (tw s)) (nI (tp s + ba)) (bI false) (nI i) (bS (b i)) = (match (if b i = 47 ∧ 0 < tw s ∧ s.1 + 1 < mp then (Sum.inr (tPt s) : Nat ⊕ TX) else if b i = 32 then Sum.inr (tBl s) else Sum.inl i) with | .inl _ => some (.inr (nI i)) | .inr s' => some (.inl (cN6 ba s' (i + 1)))) := by
        rw [e124]
        by_cases z : b i = 47 ∧ 0 < tw s ∧ s.1 + 1 < mp
        · rw [if_pos z, if_pos z]
          have ba0 : ba = 0 := by
            rcases mb with x | x
            · omega
            · exact x
          have e1 : tw (tPt s) = 0 := by
            show Nn (va_up s.2.2.2.1 (s.1 + 1) (nI 0)) (s.1 + 1) = 0
            rw [nnU (by omega), if_pos rfl]
          have e2 : tp (tPt s) = 0 := by
            show Nn (va_up s.2.2.2.2.1 (s.1 + 1) (nI 0)) (s.1 + 1) = 0
            rw [nnU (by omega), if_pos rfl]
          show some (Sum.inl (nI (s.1 + 1 + 1), nI 0, nI 0, nI 0, bI false, nI (i + 1))) = some (Sum.inl (nI (s.1 + 1 + 1), nI (tw (tPt s)), nI (tp (tPt s) + ba), nI 0, bI false, nI (i + 1)))
          rw [e1, e2, ba0]
        · rw [if_neg z, if_neg z]
          by_cases y : b i = 32
          · rw [if_pos y, if_pos y]
            rfl
          · rw [if_neg y, if_neg y]
      by_cases z1 : b i = 45
      · rw [if_pos (t1.mpr z1)]
        by_cases r0 : s.2.1 ≤ 0
        · rw [if_pos (nI_le r0 (by omega)), if_neg (show ¬ (b i = 45 ∧ 0 < s.2.1) by omega)]
          exact tail
        · rw [if_neg (nI_ge (by omega) (by omega)), if_pos (show b i = 45 ∧ 0 < s.2.1 from ⟨z1, by omega⟩)]
          exact e164 _ _ _ true
      · rw [if_neg (fun x => z1 (t1.mp x)), if_neg (show ¬ (b i = 45 ∧ 0 < s.2.1) from fun x => z1 x.1)]
        exact tail
theorem c_first (kX : kd h X = 21) (lX : e ≤ ln h X) (lb : ln h X < 100000) (hc : ∀ i, i < e → gI h X i = bS (b i) ∧ b i ≤ 255) (hm : mw ≤ 40) (hm0 : mp ≤ 40) (hba : ba ≤ 40) (mb : mp = 1 ∨ ba = 0) (mp0 : 0 < mp) {wd pc W Ln Lt : Nat → Int32} : MX1_firstWrong h X (nI e) (nI mp) (nI mw) (nI ba) = some (lV (enT e (ruT mp mw ba b (tB0 wd pc W Ln Lt) e))) := by
  have T0 : TI mp mw ba (tB0 wd pc W Ln Lt) := ti_0 mp0 hba
  have K : ∀ d i s, i + d = e → ruT mp mw ba b (tB0 wd pc W Ln Lt) i = .inr s → it (fun q : Int32 × Int32 × Int32 × Int32 × Int32 × Int32 => BX1_firstWrong_19 h X (nI e) (nI mp) (nI mw) q.1 q.2.1 q.2.2.1 q.2.2.2.1 q.2.2.2.2.1 q.2.2.2.2.2) (cN6 ba s i) = some (lV (enT e (ruT mp mw ba b (tB0 wd pc W Ln Lt) e))) := fun d => by
    induction d with
    | zero =>
      intro i s he hr
      have he : i = e := he
      subst he
      have T := ti_ru T0 hm hba i s hr
      obtain ⟨wb, pb⟩ := ti_wb T hm
      refine it_done ?_
      show BX1_firstWrong_19 h X (nI i) (nI mp) (nI mw) (nI (s.1 + 1)) (nI (tw s)) (nI (tp s + ba)) (nI s.2.1) (bI s.2.2.1) (nI i) = _
      unfold BX1_firstWrong_19 MX1_firstWrong_173
      simp only [ZL]
      rw [if_pos (nI_le (Nat.le_refl _) (by omega)), hr]
      show _ = some (Sum.inr (lV (if s.2.2.1 = true ∨ tw s = 0 then i + 1 else 0)))
      cases bb : s.2.2.1 with
      | true =>
        rw [if_neg (show ¬ bI true = nI 0 by decide), if_pos (Or.inl rfl), up1_some]
        rfl
      | false =>
        rw [if_pos (show bI false = nI 0 from rfl)]
        by_cases z : tw s = 0
        · rw [if_pos (by rw [z]), if_pos (Or.inr z), up1_some]
          rfl
        · rw [if_neg (by rw [nEq (by omega) (by omega)]; exact z), if_neg (fun x => x.elim (fun y => Bool.noConfusion y) z), up1_some]
          rfl
    | succ d ih =>
      intro i s he hr
      have T := ti_ru T0 hm hba i s hr
      have st := c_stp (b := b) (i := i) kX lX lb (by omega) (hc i (by omega)).1 (hc i (by omega)).2 hm hm0 hba mb T
      have rs := ruT_s hr
      cases e1 : stT mp mw ba s (b i) i with
      | inl p =>
        have pi : p = i := by
          unfold stT at e1
          repeat' split at e1
          all_goals first | (cases e1; rfl) | (cases e1)
        rw [e1] at st rs
        have fin := ruT_e rs d
        rw [show i + 1 + d = e by omega] at fin
        rw [fin, pi]
        exact it_done st
      | inr s' =>
        rw [e1] at st rs
        rw [it_next (s' := cN6 ba s' (i + 1)) st]
        exact ih (i + 1) s' (by omega) rs
  unfold MX1_firstWrong MX1_firstWrong_19
  simp only [ZL]
  have := K e 0 (tB0 wd pc W Ln Lt) (Nat.zero_add e) rfl
  have e1 : tw (tB0 wd pc W Ln Lt) = 0 := by
    show Nn (va_up wd 0 (nI 0)) 0 = 0
    rw [nnU (by omega), if_pos rfl]
  have e2 : tp (tB0 wd pc W Ln Lt) = 0 := by
    show Nn (va_up pc 0 (nI 0)) 0 = 0
    rw [nnU (by omega), if_pos rfl]
  have e3 : cN6 ba (tB0 wd pc W Ln Lt) 0 = (nI 1, nI 0, nI ba, nI 0, nI 0, nI 0) := by
    unfold cN6
    rw [e1, e2, Nat.zero_add]
    rfl
  rw [e3] at this
  exact this
end
