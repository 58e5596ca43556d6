/-! the search: columns -/
def CW (c : Nat → Nat) (x : Nat) : Prop := x = 59 ∨ x = c 3 ∨ x = c 4 ∨ x = c 5 ∨ x = c 6 ∨ x = c 9
section
variable {h h' : Hp} {c : Nat → Nat} {N Cc Lg n i d u sum : Nat} {P col kp fl : Nat → Nat} {L : Nat → Nat → Nat} {b : Bst} {D : Nat → Prop}
theorem cw_n (A : AX c) (k : Nat) (h : k = 2 ∨ k = 7 ∨ k = 8) : ¬ CW c (c k) := by
  rintro (e | e | e | e | e | e)
  · exact ax_5 A k (by omega) e
  · exact ax_n A k 3 (by omega) e
  · exact ax_n A k 4 (by omega) e
  · exact ax_n A k 5 (by omega) e
  · exact ax_n A k 6 (by omega) e
  · exact ax_n A k 9 (by omega) e
theorem kw_cw {x : Nat} (h : KW c x) : CW c x := by
  rcases h with e | e | e | e | e
  · exact Or.inl e
  · exact Or.inr (Or.inl e)
  · exact Or.inr (Or.inr (Or.inl e))
  · exact Or.inr (Or.inr (Or.inr (Or.inr (Or.inl e))))
  · exact Or.inr (Or.inr (Or.inr (Or.inr (Or.inr e))))
theorem c_col (A : AX c) (Z : FS N Cc Lg P L) : ∀ d u i h col b, d < u → i + d = N → FX h c → FK h c N Cc P L → FB h c N b → (∀ j, j < i → gI h (c 5) j = nI (col j) ∧ col j < Cc) → (∀ k, k < Cc → gI h (c 9) k = nI Lg) → ∃ h', RX3_chooseColumn u 0 h 59 (nI i) = some h' ∧ Fr (CW c) h h' ∧ FB h' c N (colS N Cc Lg P L d col b) ∧ (∀ j, j ≠ 1 → gI h' 59 j = gI h 59 j) ∧ (∀ j, j < i → gI h' (c 5) j = gI h (c 5) j) ∧ ∀ k, k < Cc → gI h' (c 9) k = nI Lg := by
  obtain ⟨hN, hC, hL, hP⟩ := id Z
  intro d
  induction d with
  | zero =>
    intro u i h col b hu hi X K B C Fl
    obtain ⟨u, rfl⟩ : ∃ v, u = v + 1 := ⟨u - 1, by omega⟩
    have hi : i = N := by omega
    subst hi
    obtain ⟨h1, y1, y2, y3, y4, y5, y6⟩ := c_kp (col := col) A Z (fun j hj => (C j hj).2) i 30 0 h (fun _ => 0) (fun _ => 0) 0 b (by omega) (by omega) X K B (fun j hj => (C j hj).1) (fun j hj => by omega) Fl (fun _ => Nat.zero_le _) (by omega)
    refine ⟨h1, ?_, y2.mono (fun x hx => kw_cw hx), by unfold colS; exact y3, y4, fun j hj => by rw [y2.2.2.2.2.2.2 _ (kw_n A 5 (by omega))], y6⟩
    show BX3_chooseColumn (RX3_chooseColumn u) h 59 (nI i) = _
    unfold BX3_chooseColumn MX3_chooseKeep
    simp only [ZL]
    rw [gg_t X.1, K.1, if_neg (nI_nlt (Nat.le_refl _) (by omega)), y1, ob_some]
  | succ d ih =>
    intro u i h col b hu hi X K B C Fl
    obtain ⟨u, rfl⟩ : ∃ v, u = v + 1 := ⟨u - 1, by omega⟩
    have iN : i < N := by omega
    have ei : N - (d + 1) = i := by omega
    have lp : ∃ z, it (fun q : Int32 × Hp => BX3_chooseColumn_17 (RX3_chooseColumn u) q.2 59 (nI i) q.1) (nI 0, h) = some z ∧ (Fr (CW c) h z ∧ FB z c N (colS N Cc Lg P L (d + 1) col b) ∧ (∀ j, j ≠ 1 → gI z 59 j = gI h 59 j) ∧ (∀ j, j < i → gI z (c 5) j = gI h (c 5) j) ∧ ∀ k, k < Cc → gI z (c 9) k = nI Lg) := by
      refine it_cnt (fun j s => s.1 = nI j ∧ Fr (CW c) h s.2 ∧ FB s.2 c N (foldU (fun k b => colS N Cc Lg P L d (upN col i k) b) j b) ∧ (∀ j, j ≠ 1 → gI s.2 59 j = gI h 59 j) ∧ (∀ j, j < i → gI s.2 (c 5) j = gI h (c 5) j) ∧ ∀ k, k < Cc → gI s.2 (c 9) k = nI Lg) Cc (fun j s hj pp => ?_) (fun s pp => ?_) ⟨rfl, Fr.rfl, B, fun _ _ => rfl, fun _ _ => rfl, Fl⟩
      · obtain ⟨w, g⟩ := s
        obtain ⟨q1, q2, q3, q5, q6, q7⟩ := pp
        replace q1 : w = nI j := q1
        replace q2 : Fr (CW c) h g := q2
        replace q3 : FB g c N (foldU (fun k b => colS N Cc Lg P L d (upN col i k) b) j b) := q3
        replace q5 : ∀ j, j ≠ 1 → gI g 59 j = gI h 59 j := q5
        replace q6 : ∀ j, j < i → gI g (c 5) j = gI h (c 5) j := q6
        replace q7 : ∀ k, k < Cc → gI g (c 9) k = nI Lg := q7
        subst q1
        have Xg := X.fr q2
        have Kg : FK g c N Cc P L := K.fr q5 (q2.2.2.2.2.2.2 _ (cw_n A 7 (by omega))) (q2.2.2.2.2.2.2 _ (cw_n A 8 (by omega)))
        obtain ⟨g1, hg1⟩ : ∃ g1, g1 = sI g (c 5) i (nI j) := ⟨_, rfl⟩
        have F1 : Fr (CW c) g g1 := by rw [hg1]; exact Fr.sI (Or.inr (Or.inr (Or.inr (Or.inl rfl))))
        have o : ∀ x, ¬ x = c 5 → gI g1 x = gI g x := fun x h5 => by rw [hg1, gI_sI, if_neg h5]
        have o59 := o 59 (ax_5' A 5 (by omega))
        have X1 := Xg.fr F1
        have k5 : ∀ l, gI g1 (c 5) l = if l = i then nI j else gI g (c 5) l := fun l => by rw [hg1, gI_sI, if_pos rfl, up_at]
        obtain ⟨g3, a1, a2, a3, a4, a5, a6⟩ := ih u (i + 1) g1 (upN col i j) (foldU (fun k b => colS N Cc Lg P L d (upN col i k) b) j b) (by omega) (by omega) X1 (Kg.fr (fun j _ => by rw [o59]) (o _ (ax_n A 7 5 (by omega))) (o _ (ax_n A 8 5 (by omega)))) (q3.fr (by rw [o59]) (o _ (ax_n A 3 5 (by omega))) (o _ (ax_n A 4 5 (by omega)))) (fun l hl => by
            rw [k5]
            unfold upN
            by_cases y : l = i
            · rw [if_pos y, if_pos y]; exact ⟨rfl, hj⟩
            · rw [if_neg y, if_neg y, q6 l (by omega)]
              exact C l (by omega)) (fun k hk => by rw [o _ (ax_n A 9 5 (by omega))]; exact q7 k hk)
        refine ⟨(nI (j + 1), g3), ?_, rfl, (q2.trans F1).trans a2, a3, fun l hl => by show gI g3 59 l = gI h 59 l; rw [a4 l hl, o59]; exact q5 l hl, fun l hl => ?_, a6⟩
        · show BX3_chooseColumn_17 (RX3_chooseColumn u) g 59 (nI i) (nI j) = _
          unfold BX3_chooseColumn_17
          simp only [ZL]
          rw [gg_t Xg.1, Kg.2.1, if_neg (nI_ge hj (by omega)), Xg.p, gg_t (Xg.k 5 (by omega) (by omega)), Xg.l 5 (by omega) (by omega) (by omega), gg_in (by omega) (by omega), nCl (by omega), lt_eq, ← hg1, nAdd, a1, ob_some, nAdd]
        · show gI g3 (c 5) l = gI h (c 5) l
          rw [a5 l (by omega), k5, if_neg (by omega)]
          exact q6 l hl
      · obtain ⟨w, g⟩ := s
        obtain ⟨q1, q2, q3, q5, q6, q7⟩ := pp
        replace q1 : w = nI Cc := q1
        replace q5 : ∀ j, j ≠ 1 → gI g 59 j = gI h 59 j := q5
        subst q1
        have Xg := X.fr q2
        refine ⟨g, ?_, q2, ?_, q5, q6, q7⟩
        · show BX3_chooseColumn_17 (RX3_chooseColumn u) g 59 (nI i) (nI Cc) = _
          unfold BX3_chooseColumn_17
          rw [gg_t Xg.1, q5 10 (by omega), K.2.1, if_pos (nI_le (Nat.le_refl _) (by omega))]
        · unfold colS
          rw [ei]
          exact q3
    obtain ⟨z, y1, y2⟩ := lp
    refine ⟨z, ?_, y2⟩
    show BX3_chooseColumn (RX3_chooseColumn u) h 59 (nI i) = _
    unfold BX3_chooseColumn MX3_chooseColumn_17
    simp only [ZL]
    rw [gg_t X.1, K.1, if_pos (nI_lt iN (by omega))]
    exact y1
end
/-! the reference's search -/
def RBk (h : Hp) (N : Nat) (b : Bst) : Prop := gI h 73 52 = bV b ∧ b.1 ≤ 100000 ∧ (b.1 ≠ 0 → ∀ j, j < N → gI h 103 j = nI (b.2.1 j) ∧ gI h 104 j = nI (b.2.2 j))
/-- lines of the first n parts of story s -/
def lnS (m : Nat → Int32) (s : Nat) : Nat → Nat
  | 0 => 0
  | n + 1 => lnS m s n + Nn m (130 + 645 * (5 * s + n) + 4)
section
variable {h h' : Hp} {m : Nat → Int32} {N Cc Lg n i d u sum p s : Nat} {P col kp fl st : Nat → Nat} {L : Nat → Nat → Nat} {b : Bst} {D : Nat → Prop}
theorem ln_p (I : MI m) (hs : s < Nn m 1) (hn : n < Nn m (110 + s)) : vP m (5 * s + n) ∧ oN m (130 + 645 * (5 * s + n) + 4) 40 := by
  have f1 := I.1.f.2.1.2
  have h5 := (((I.1.2.2.2.2.2.2.2.2.2 s hs).2.2.1).eq (by omega)).2
  have v : vP m (5 * s + n) := by
    refine ⟨by omega, ?_, ?_⟩
    · rw [show (5 * s + n) / 5 = s by omega]; exact hs
    · rw [show (5 * s + n) / 5 = s by omega, show (5 * s + n) % 5 = n by omega]; exact hn
  exact ⟨v, (I.2.1 _ v).2.2.2.2.2.1⟩
theorem ln_le (I : MI m) (hs : s < Nn m 1) : ∀ n, n ≤ Nn m (110 + s) → lnS m s n ≤ 40 * n
  | 0, _ => Nat.le_refl _
  | n + 1, hn => by
    have h1 := ln_le I hs n (by omega)
    have h2 := ((ln_p I hs (n := n) (by omega)).2.eq (by omega)).2
    unfold lnS
    omega
theorem r_linesOf (R : RS h) (em : gI h 74 = m) (I : MI m) (hs : s < Nn m 1) (hn : n ≤ Nn m (110 + s)) : MX12_linesOf h 73 (nI s) (nI n) = some (nI (lnS m s n)) := by
  have f1 := I.1.f.2.1.2
  have h5 := (((I.1.2.2.2.2.2.2.2.2.2 s hs).2.2.1).eq (by omega)).2
  have lp : it (fun q : Int32 × Int32 => BX12_linesOf_5 h 73 (nI s) (nI n) q.1 q.2) (nI 0, nI 0) = some (nI (lnS m s n)) := by
    refine it_seq2 (fun j => (nI (lnS m s j), nI j)) n rfl (fun j hj => ?_) ?_
    · show BX12_linesOf_5 h 73 (nI s) (nI n) (nI (lnS m s j)) (nI j) = some (.inl (nI (lnS m s (j + 1)), nI (j + 1)))
      obtain ⟨o, -⟩ := (ln_p I hs (n := j) (by omega)).2.eq (by omega)
      unfold BX12_linesOf_5
      simp only [ZL]
      rw [if_neg (nI_ge hj (by omega)), gg_t (RS.f R).1, nMul, nAdd, r_part0, ob_some, (RS.f R).2.1, gg_t (RS.f R).2.2.1, (RS.f R).2.2.2.1, nAdd, gg_in (by omega) (by omega), nCl (by omega), em, o, nAdd, nAdd]
      rfl
    · show BX12_linesOf_5 h 73 (nI s) (nI n) (nI (lnS m s n)) (nI n) = some (.inr (nI (lnS m s n)))
      unfold BX12_linesOf_5
      rw [if_pos (nI_le (Nat.le_refl _) (by omega))]
  unfold MX12_linesOf MX12_linesOf_5
  simp only [ZL]
  exact lp
/-- what the reference's search stands on -/
def RK (h : Hp) (m : Nat → Int32) (N p Cc Lg : Nat) (P : Nat → Nat) (L : Nat → Nat → Nat) (st : Nat → Nat) : Prop := RS h ∧ gI h 74 = m ∧ gI h 73 51 = nI N ∧ (∀ j, j < N → gI h 100 j = nI (st j) ∧ st j < Nn m 1 ∧ P j = Nn m (110 + st j) ∧ ∀ n, L j n = lnS m (st j) n) ∧ p < 6 ∧ m (327382 + 185 * p) = nI Cc ∧ m (327382 + 185 * p + 1) = nI Lg
def RW (x : Nat) : Prop := x = 73 ∨ x = 102 ∨ x = 103 ∨ x = 104 ∨ x = 105
def RV (x : Nat) : Prop := x = 73 ∨ x = 101 ∨ x = 102 ∨ x = 103 ∨ x = 104 ∨ x = 105
theorem RK.fr (K : RK h m N p Cc Lg P L st) (F : Fr D h h') (n74 : ¬ D 74) (n100 : ¬ D 100) (e51 : gI h' 73 51 = gI h 73 51) : RK h' m N p Cc Lg P L st := by
  obtain ⟨R, e, a, b, c1, c2, c3⟩ := K
  exact ⟨R.fr F, by rw [F.2.2.2.2.2.2 _ n74]; exact e, by rw [e51]; exact a, fun j hj => by rw [F.2.2.2.2.2.2 _ n100]; exact b j hj, c1, c2, c3⟩
theorem r_k25 {rc : Nat → Hp → Nat → Int32 → Int32 → Int32 → Option Hp} (K : RK h m N p Cc Lg P L st) (hN : N ≤ 4) (hb : gI h 73 52 = nI sum) (C : ∀ j, j < N → gI h 101 j = nI (col j)) (E : ∀ j, j < N → gI h 102 j = nI (kp j)) (hs : sum ≤ 1000) : ∃ h', MX12_keeps_25 rc h 73 (nI 0) = some h' ∧ Fr (fun x => x = 103 ∨ x = 104) h h' ∧ ∀ j, j < N → gI h' 103 j = nI (col j) ∧ gI h' 104 j = nI (kp j) := by
  have lp : ∃ z, it (fun q : Int32 × Hp => BX12_keeps_25 rc q.2 73 q.1) (nI 0, h) = some z ∧ (Fr (fun x => x = 103 ∨ x = 104) h z ∧ ∀ j, j < N → gI z 103 j = nI (col j) ∧ gI z 104 j = nI (kp j)) := by
    refine it_cnt (fun j s => s.1 = nI j ∧ Fr (fun x => x = 103 ∨ x = 104) h s.2 ∧ ∀ l, l < j → gI s.2 103 l = nI (col l) ∧ gI s.2 104 l = nI (kp l)) N (fun j s hj pp => ?_) (fun s pp => ?_) ⟨rfl, Fr.rfl, fun l hl => by omega⟩
    · obtain ⟨w, g⟩ := s
      obtain ⟨q1, q2, q3⟩ := pp
      replace q1 : w = nI j := q1
      replace q2 : Fr (fun x => x = 103 ∨ x = 104) h g := q2
      replace q3 : ∀ l, l < j → gI g 103 l = nI (col l) ∧ gI g 104 l = nI (kp l) := q3
      subst q1
      have R := K.1.fr q2
      have g51 : gI g 73 51 = nI N := by rw [q2.2.2.2.2.2.2 _ (by omega)]; exact K.2.2.1
      have g101 : gI g 101 j = nI (col j) := by rw [q2.2.2.2.2.2.2 _ (by omega)]; exact C j hj
      have g102 : ∀ v, gI (sI g 103 j v) 102 j = nI (kp j) := fun v => by rw [gI_sI, if_neg (by omega), q2.2.2.2.2.2.2 _ (by omega)]; exact E j hj
      refine ⟨(nI (j + 1), sI (sI g 103 j (nI (col j))) 104 j (nI (kp j))), ?_, rfl, (q2.trans (Fr.sI (Or.inl rfl))).trans (Fr.sI (Or.inr rfl)), fun l hl => ?_⟩
      · show BX12_keeps_25 rc g 73 (nI j) = _
        unfold BX12_keeps_25
        simp only [ZL]
        rw [gg_t (RS.f R).1, g51, if_neg (nI_ge hj (by omega))]
        simp only [RS.f R]
        rw [gg_T, gg_in (by omega) (by omega), gg_T, gg_in (by omega) (by omega), nCl (by omega), g101, lt_eq, g102, gg_T, gg_in (by omega) (by omega), gg_T, gg_in (by omega) (by omega), lt_eq, nAdd]
      · show gI (sI (sI g 103 j (nI (col j))) 104 j (nI (kp j))) 103 l = _ ∧ gI (sI (sI g 103 j (nI (col j))) 104 j (nI (kp j))) 104 l = _
        rw [gI2, if_neg (by omega), gI2, gI2, gI2]
        by_cases y : l = j
        · subst y
          rw [if_pos ⟨rfl, rfl⟩, if_pos ⟨rfl, rfl⟩]
          exact ⟨rfl, rfl⟩
        · rw [if_neg (fun e => y e.2), if_neg (fun e => y e.2), if_neg (by omega)]
          exact q3 l (by omega)
    · obtain ⟨w, g⟩ := s
      obtain ⟨q1, q2, q3⟩ := pp
      replace q1 : w = nI N := q1
      subst q1
      have R := K.1.fr q2
      have g51 : gI g 73 51 = nI N := by rw [q2.2.2.2.2.2.2 _ (by omega)]; exact K.2.2.1
      refine ⟨g, ?_, q2, q3⟩
      show BX12_keeps_25 rc g 73 (nI N) = _
      unfold BX12_keeps_25
      rw [gg_t (RS.f R).1, g51, if_pos (nI_le (Nat.le_refl _) (by omega))]
  obtain ⟨z, y1, y2, y3⟩ := lp
  exact ⟨z, y1, y2, y3⟩
theorem r_kp (Z : FS N Cc Lg P L) (I : MI m) (hcol : ∀ j, j < N → col j < Cc) : ∀ d u i h kp fl sum b, d < u → i + d = N → RK h m N p Cc Lg P L st → RBk h N b → (∀ j, j < N → gI h 101 j = nI (col j)) → (∀ j, j < i → gI h 102 j = nI (kp j)) → (∀ k, k < 3 → gI h 105 k = nI (fl k)) → (∀ k, fl k ≤ Lg) → sum ≤ 200 * i → ∃ h', RX12_keeps u 0 h 73 (nI p) (nI i) (nI sum) = some h' ∧ Fr RW h h' ∧ RBk h' N (kpS N Lg P L col d kp fl sum b) ∧ (∀ j, j ≠ 52 → gI h' 73 j = gI h 73 j) ∧ (∀ j, j < i → gI h' 102 j = gI h 102 j) ∧ ∀ k, k < 3 → gI h' 105 k = nI (fl k) := by
  obtain ⟨hN, hC, hL, hP⟩ := Z
  intro d
  induction d with
  | zero =>
    intro u i h kp fl sum b hu hi K B C E Fl fl1 hs
    obtain ⟨u, rfl⟩ : ∃ v, u = v + 1 := ⟨u - 1, by omega⟩
    have hi : i = N := by omega
    subst hi
    obtain ⟨B1, B2, B3⟩ := B
    have R := K.1
    by_cases z : b.1 ≤ sum
    · obtain ⟨g, hg⟩ : ∃ g, g = sI h 73 52 (nI sum) := ⟨_, rfl⟩
      have Fg : Fr (fun x => x = 73) h g := by rw [hg]; exact Fr.sI rfl
      have o : ∀ j, j ≠ 52 → gI g 73 j = gI h 73 j := fun j hj => by rw [hg, gI_sI, if_pos rfl, up_at, if_neg hj]
      obtain ⟨z1, y1, y2, y3⟩ := r_k25 (rc := RX12_keeps u) (K.fr Fg (by omega) (by omega) (o 51 (by omega))) hN (by rw [hg, gI_sI, if_pos rfl, up_at, if_pos rfl]) (fun j hj => by rw [Fg.2.2.2.2.2.2 _ (by omega)]; exact C j hj) (fun j hj => by rw [Fg.2.2.2.2.2.2 _ (by omega)]; exact E j hj) (by omega)
      have g73 : gI z1 73 = gI g 73 := y2.2.2.2.2.2.2 _ (by omega)
      refine ⟨z1, ?_, (Fg.mono (fun x hx => Or.inl hx)).trans (y2.mono (fun x hx => Or.elim hx (fun e => Or.inr (Or.inr (Or.inl e))) (fun e => Or.inr (Or.inr (Or.inr (Or.inl e)))))), ?_, fun j hj => by rw [g73]; exact o j hj, fun j hj => by rw [y2.2.2.2.2.2.2 _ (by omega), Fg.2.2.2.2.2.2 _ (by omega)], fun k hk => by rw [y2.2.2.2.2.2.2 _ (by omega), Fg.2.2.2.2.2.2 _ (by omega)]; exact Fl k hk⟩
      · show BX12_keeps (RX12_keeps u) h 73 (nI p) (nI i) (nI sum) = _
        unfold BX12_keeps
        simp only [ZL]
        rw [gg_t (RS.f R).1, K.2.2.1, if_pos rfl, B1, if_pos (by rw [bV_lt B2 (by omega)]; exact z), lt_eq, ← hg, y1]
      · unfold kpS
        rw [if_pos z]
        exact ⟨by rw [g73, hg, gI_sI, if_pos rfl, up_at, if_pos rfl]; rfl, by show sum + 1 ≤ 100000; omega, fun _ => y3⟩
    · refine ⟨h, ?_, Fr.rfl, by unfold kpS; rw [if_neg z]; exact ⟨B1, B2, B3⟩, fun _ _ => rfl, fun _ _ => rfl, Fl⟩
      show BX12_keeps (RX12_keeps u) h 73 (nI p) (nI i) (nI sum) = _
      unfold BX12_keeps
      rw [gg_t (RS.f R).1, K.2.2.1, if_pos rfl, B1, if_neg (by rw [bV_lt B2 (by omega)]; exact z)]
  | succ d ih =>
    intro u i h kp fl sum b hu hi K B C E Fl fl1 hs
    obtain ⟨u, rfl⟩ : ∃ v, u = v + 1 := ⟨u - 1, by omega⟩
    have iN : i < N := by omega
    have ei : N - (d + 1) = i := by omega
    have ci := hcol i iN
    obtain ⟨p5, pL⟩ := hP i iN
    obtain ⟨s1, s2, s3, s4⟩ := K.2.2.2.1 i iN
    have f1 := I.1.f.2.1.2
    obtain ⟨k5, k6, k7⟩ := K.2.2.2.2
    have lp : ∃ z, it (fun q : Int32 × Hp => BX12_keeps_93 (RX12_keeps u) q.2 73 (nI p) (nI i) (nI sum) (nI (col i)) q.1) (nI (P i), h) = some z ∧ (Fr RW h z ∧ RBk z N (kpS N Lg P L col (d + 1) kp fl sum b) ∧ (∀ j, j ≠ 52 → gI z 73 j = gI h 73 j) ∧ (∀ j, j < i → gI z 102 j = gI h 102 j) ∧ ∀ k, k < 3 → gI z 105 k = nI (fl k)) := by
      refine it_cnt (fun j s => s.1 = nI (P i - j) ∧ Fr RW h s.2 ∧ (∃ b', RBk s.2 N b' ∧ foldD (fun n b => if fl (col i) + L i n ≤ Lg then kpS N Lg P L col d (upN kp i n) (upN fl (col i) (fl (col i) + L i n)) (sum + L i n) b else b) (P i - j) b' = kpS N Lg P L col (d + 1) kp fl sum b) ∧ (∀ j, j ≠ 52 → gI s.2 73 j = gI h 73 j) ∧ (∀ j, j < i → gI s.2 102 j = gI h 102 j) ∧ ∀ k, k < 3 → gI s.2 105 k = nI (fl k)) (P i) (fun j s hj pp => ?_) (fun s pp => ?_) ⟨rfl, Fr.rfl, ⟨b, B, by rw [← ei]; rfl⟩, fun _ _ => rfl, fun _ _ => rfl, Fl⟩
      · obtain ⟨w, g⟩ := s
        obtain ⟨q1, q2, ⟨b', q3, q4⟩, q5, q6, q7⟩ := pp
        replace q1 : w = nI (P i - j) := q1
        replace q2 : Fr RW h g := q2
        replace q3 : RBk g N b' := q3
        replace q5 : ∀ j, j ≠ 52 → gI g 73 j = gI h 73 j := q5
        replace q6 : ∀ j, j < i → gI g 102 j = gI h 102 j := q6
        replace q7 : ∀ k, k < 3 → gI g 105 k = nI (fl k) := q7
        subst q1
        obtain ⟨n, hn⟩ : ∃ n, P i - j = n + 1 := ⟨P i - j - 1, by omega⟩
        rw [hn] at q4 ⊢
        have n1 : P i - (j + 1) = n := by omega
        have Kg : RK g m N p Cc Lg P L st := K.fr q2 (by unfold RW; omega) (by unfold RW; omega) (q5 51 (by omega))
        have R := Kg.1
        have Cg : ∀ j, j < N → gI g 101 j = nI (col j) := fun j hj => by rw [q2.2.2.2.2.2.2 _ (by unfold RW; omega)]; exact C j hj
        have g100 : gI g 100 i = nI (st i) := (Kg.2.2.2.1 i iN).1
        have lb := pL (n + 1) (by omega)
        have f0 := fl1 (col i)
        have dec : nI (n + 1) + -nI 1 = nI n := pk_m1 n
        have lo := r_linesOf (n := n + 1) R Kg.2.1 I s2 (by omega)
        rw [← s4] at lo
        have head : BX12_keeps_93 (RX12_keeps u) g 73 (nI p) (nI i) (nI sum) (nI (col i)) (nI (n + 1)) = if nI (fl (col i) + L i (n + 1)) ≤ nI Lg then lt (sI g 105 (col i) (nI (fl (col i) + L i (n + 1)))) fun (h22 : Hp) => lt (sI h22 102 i (nI (n + 1))) fun (h29 : Hp) => Option.bind (RX12_keeps u 0 h29 73 (nI p) (nI (i + 1)) (nI (sum + L i (n + 1)))) fun (h35 : Hp) => gg (kd h35 73 = 11) <| gg (kd h35 (gP h35 73 50) = 20) <| gg (inB (nI (col i)) (ln h35 (gP h35 73 50)) = true) <| lt (sI h35 (gP h35 73 50) (col i) ((gI h35 (gP h35 73 50) (col i)) - nI (L i (n + 1)))) fun (h39 : Hp) => some (.inl (nI n, h39)) else some (.inl (nI n, g)) := by
          unfold BX12_keeps_93
          simp only [ZL]
          rw [if_neg (nI_ge (by omega) (by omega)), gg_t (RS.f R).1]
          simp only [RS.f R]
          rw [gg_T, gg_in (by omega) (by omega), nCl (show i < 2147483648 by omega), g100, lo, ob_some, gg_T, gg_in (by omega) (by omega), gg_T, nMul, nAdd, nAdd, gg_in (by omega) (by omega), nCl (show col i < 2147483648 by omega), q7 _ (by omega), nCl (by omega), Kg.2.1, k7, nAdd, dec, nAdd, nAdd]
          simp (disch := omega) only [lt_eq, gg_T, gg_in]
        by_cases z : fl (col i) + L i (n + 1) ≤ Lg
        · obtain ⟨g1, hg1⟩ : ∃ g1, g1 = sI g 105 (col i) (nI (fl (col i) + L i (n + 1))) := ⟨_, rfl⟩
          obtain ⟨g2, hg2⟩ : ∃ g2, g2 = sI g1 102 i (nI (n + 1)) := ⟨_, rfl⟩
          have F1 : Fr RW g g1 := by rw [hg1]; exact Fr.sI (Or.inr (Or.inr (Or.inr (Or.inr rfl))))
          have F2 : Fr RW g1 g2 := by rw [hg2]; exact Fr.sI (Or.inr (Or.inl rfl))
          have F12 := F1.trans F2
          have o : ∀ x, ¬ x = 102 → ¬ x = 105 → gI g2 x = gI g x := fun x h6 h9 => by rw [hg2, gI_sI, if_neg h6, hg1, gI_sI, if_neg h9]
          have o73 := o 73 (by omega) (by omega)
          have K2 := Kg.fr F12 (by unfold RW; omega) (by unfold RW; omega) (by rw [o73])
          have B2 : RBk g2 N b' := by
            unfold RBk
            rw [o73, o 103 (by omega) (by omega), o 104 (by omega) (by omega)]
            exact q3
          have k6 : ∀ j, gI g2 102 j = if j = i then nI (n + 1) else gI g 102 j := fun j => by rw [hg2, gI_sI, if_pos rfl, up_at, show gI g1 102 = gI g 102 by rw [hg1, gI_sI, if_neg (by omega)]]
          have k9 : ∀ k, gI g2 105 k = if k = col i then nI (fl (col i) + L i (n + 1)) else gI g 105 k := fun k => by rw [hg2, gI_sI, if_neg (by omega), hg1, gI_sI, if_pos rfl, up_at]
          obtain ⟨g3, a1, a2, a3, a4, a5, a6⟩ := ih u (i + 1) g2 (upN kp i (n + 1)) (upN fl (col i) (fl (col i) + L i (n + 1))) (sum + L i (n + 1)) b' (by omega) (by omega) K2 B2 (fun j hj => by rw [o _ (by omega) (by omega)]; exact Cg j hj) (fun j hj => by
              rw [k6]
              unfold upN
              by_cases y : j = i
              · rw [if_pos y, if_pos y]
              · rw [if_neg y, if_neg y, q6 j (by omega)]
                exact E j (by omega)) (fun k hk => by
              rw [k9]
              unfold upN
              by_cases y : k = col i
              · rw [if_pos y, if_pos y]
              · rw [if_neg y, if_neg y]
                exact q7 k hk) (fun k => by
              unfold upN
              by_cases y : k = col i
              · rw [if_pos y]; exact z
              · rw [if_neg y]; exact fl1 k) (by omega)
          have R3 := K2.1.fr a2
          have v9' : gI g3 105 (col i) = nI (fl (col i) + L i (n + 1)) := by rw [a6 (col i) (by omega)]; unfold upN; rw [if_pos rfl]
          obtain ⟨g4, hg4⟩ : ∃ g4, g4 = sI g3 105 (col i) (nI (fl (col i))) := ⟨_, rfl⟩
          have F4 : Fr RW g3 g4 := by rw [hg4]; exact Fr.sI (Or.inr (Or.inr (Or.inr (Or.inr rfl))))
          have o4 : ∀ x, ¬ x = 105 → gI g4 x = gI g3 x := fun x h9 => by rw [hg4, gI_sI, if_neg h9]
          refine ⟨(nI n, g4), ?_, by rw [n1], ((q2.trans F12).trans a2).trans F4, ⟨kpS N Lg P L col d (upN kp i (n + 1)) (upN fl (col i) (fl (col i) + L i (n + 1))) (sum + L i (n + 1)) b', ?_, ?_⟩, fun j hj => ?_, fun j hj => ?_, fun k hk => ?_⟩
          · show BX12_keeps_93 (RX12_keeps u) g 73 (nI p) (nI i) (nI sum) (nI (col i)) (nI (n + 1)) = _
            rw [head, if_pos (nI_le z (by omega)), lt_eq, ← hg1, lt_eq, ← hg2, a1, ob_some, gg_t (RS.f R3).1]
            simp only [RS.f R3]
            rw [gg_T, gg_in (by omega) (by omega), v9', nSub (by omega), Nat.add_sub_cancel, lt_eq, ← hg4]
          · show RBk g4 N _
            unfold RBk
            rw [o4 73 (by omega), o4 103 (by omega), o4 104 (by omega)]
            exact a3
          · rw [n1, ← q4]
            exact congrArg (foldD _ n) (if_pos z).symm
          · show gI g4 73 j = gI h 73 j
            rw [o4 _ (by omega), a4 j hj, o73]
            exact q5 j hj
          · show gI g4 102 j = gI h 102 j
            rw [o4 _ (by omega), a5 j (by omega), k6, if_neg (by omega)]
            exact q6 j hj
          · show gI g4 105 k = _
            rw [hg4, gI_sI, if_pos rfl, up_at]
            by_cases y : k = col i
            · rw [if_pos y, y]
            · rw [if_neg y, a6 k hk]
              unfold upN
              rw [if_neg y]
        · refine ⟨(nI n, g), ?_, by rw [n1], q2, ⟨b', q3, ?_⟩, q5, q6, q7⟩
          · show BX12_keeps_93 (RX12_keeps u) g 73 (nI p) (nI i) (nI sum) (nI (col i)) (nI (n + 1)) = _
            rw [head, if_neg (nI_ge (by omega) (by omega))]
          · rw [n1, ← q4]
            exact congrArg (foldD _ n) (if_neg z).symm
      · obtain ⟨w, g⟩ := s
        obtain ⟨q1, q2, ⟨b', q3, q4⟩, q5, q6, q7⟩ := pp
        replace q1 : w = nI (P i - P i) := q1
        subst q1
        rw [Nat.sub_self] at q4 ⊢
        refine ⟨g, ?_, q2, by rw [← q4]; exact q3, q5, q6, q7⟩
        show BX12_keeps_93 (RX12_keeps u) g 73 (nI p) (nI i) (nI sum) (nI (col i)) (nI 0) = _
        unfold BX12_keeps_93
        simp only [ZL]
        rw [if_pos (nI_le (by omega) (by omega))]
    obtain ⟨z, y1, y2⟩ := lp
    refine ⟨z, ?_, y2⟩
    have R := K.1
    have m110 : m (110 + st i) = nI (P i) := by rw [s3]; exact ((I.1.2.2.2.2.2.2.2.2.2 _ s2).2.2.1.eq (by omega)).1
    show BX12_keeps (RX12_keeps u) h 73 (nI p) (nI i) (nI sum) = _
    unfold BX12_keeps MX12_keeps_93
    simp only [ZL]
    rw [gg_t (RS.f R).1, K.2.2.1, if_neg (by rw [nEq (by omega) (by omega)]; omega)]
    simp only [RS.f R]
    rw [gg_T, gg_in (by omega) (by omega), gg_T, gg_in (by omega) (by omega), nCl (show i < 2147483648 by omega), s1, nAdd, gg_T, gg_in (by omega) (by omega), nCl (by omega), K.2.1, m110, C i iN, lt_eq]
    exact y1
end
