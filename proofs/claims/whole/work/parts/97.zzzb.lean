/-! the search of the fitter -/
def FX (h : Hp) (c : Nat → Nat) : Prop := kd h 59 = 2 ∧ gP h 59 = c ∧ ∀ k, 2 ≤ k → k ≤ 9 → kd h (c k) = 20 ∧ ln h (c k) = (if k = 8 then 24 else 4)
/-- its cells are apart -/
def AX (c : Nat → Nat) : Prop := ∀ k, 2 ≤ k → k ≤ 9 → Nq (c k) 59 ∧ ∀ l, 2 ≤ l → l ≤ 9 → k ≠ l → Nq (c k) (c l)
def bV (b : Bst) : Int32 := if b.1 = 0 then -nI 1 else nI (b.1 - 1)
def FK (h : Hp) (c : Nat → Nat) (N Cc : Nat) (P : Nat → Nat) (L : Nat → Nat → Nat) : Prop := gI h 59 0 = nI N ∧ gI h 59 10 = nI Cc ∧ ∀ j, j < N → gI h (c 7) j = nI (P j) ∧ ∀ n, n ≤ P j → gI h (c 8) (6 * j + n) = nI (L j n)
def FB (h : Hp) (c : Nat → Nat) (N : Nat) (b : Bst) : Prop := gI h 59 1 = bV b ∧ b.1 ≤ 100000 ∧ (b.1 ≠ 0 → ∀ j, j < N → gI h (c 3) j = nI (b.2.1 j) ∧ gI h (c 4) j = nI (b.2.2 j))
/-- what is small -/
def FS (N Cc Lg : Nat) (P : Nat → Nat) (L : Nat → Nat → Nat) : Prop := N ≤ 4 ∧ Cc ≤ 3 ∧ Lg ≤ 60 ∧ ∀ j, j < N → P j ≤ 5 ∧ ∀ n, n ≤ P j → L j n ≤ 200
section
variable {h h' : Hp} {c : Nat → Nat} {N Cc Lg n i d u sum : Nat} {P col kp fl : Nat → Nat} {L : Nat → Nat → Nat} {b : Bst} {D : Nat → Prop}
theorem or3 {p q r s : Prop} (h : p ∨ q ∨ r) (f : p → s) (g : q → s) (k : r → s) : s := h.elim f (fun h => h.elim g k)
theorem FX.fr (X : FX h c) (F : Fr D h h') : FX h' c := by
  obtain ⟨a, b, e⟩ := X
  exact ⟨by rw [F.1]; exact a, by rw [F.2.2.1]; exact b, fun k h1 h2 => by rw [F.1, F.2.1]; exact e k h1 h2⟩
theorem FX.k (X : FX h c) (k : Nat) (h1 : 2 ≤ k) (h2 : k ≤ 9) : kd h (c k) = 20 := (X.2.2 k h1 h2).1
theorem FX.l (X : FX h c) (k : Nat) (h1 : 2 ≤ k) (h2 : k ≤ 9) (h3 : k ≠ 8) : ln h (c k) = 4 := by rw [(X.2.2 k h1 h2).2, if_neg h3]
theorem FX.l8 (X : FX h c) : ln h (c 8) = 24 := by rw [(X.2.2 8 (by omega) (by omega)).2, if_pos rfl]
theorem FX.p (X : FX h c) (k : Nat) : gP h 59 k = c k := by rw [X.2.1]
theorem ax_n (A : AX c) (k l : Nat) (h : 2 ≤ k ∧ k ≤ 9 ∧ 2 ≤ l ∧ l ≤ 9 ∧ k ≠ l) : ¬ c k = c l := ((A k h.1 h.2.1).2 l h.2.2.1 h.2.2.2.1 h.2.2.2.2).n
theorem ax_5 (A : AX c) (k : Nat) (h : 2 ≤ k ∧ k ≤ 9) : ¬ c k = 59 := (A k h.1 h.2).1.n
theorem ax_5' (A : AX c) (k : Nat) (h : 2 ≤ k ∧ k ≤ 9) : ¬ 59 = c k := fun e => ax_5 A k h e.symm
theorem bV_lt (hb : b.1 ≤ 100000) (hs : sum ≤ 1000000) : (bV b < nI sum) = (b.1 ≤ sum) := by
  unfold bV
  by_cases z : b.1 = 0
  · rw [if_pos z, nM1 (by omega), z]
    exact (eq_true (Nat.zero_le _)).symm
  · rw [if_neg z, nLt (by omega) (by omega)]
    refine propext ⟨fun h => by omega, fun h => by omega⟩
theorem n_pred (h : 1 ≤ n) : nI n + -nI 1 = nI (n - 1) := by
  obtain ⟨k, rfl⟩ : ∃ k, n = k + 1 := ⟨n - 1, by omega⟩
  exact pk_m1 k
/-- the better one is taken -/
theorem c_tib (X : FX h c) (A : AX c) (hN : N ≤ 4) (K : gI h 59 0 = nI N) (B : FB h c N b) (C : ∀ j, j < N → gI h (c 5) j = nI (col j)) (E : ∀ j, j < N → gI h (c 6) j = nI (kp j)) (hs : sum ≤ 1000) : ∃ h', MX3_takeIfBetter h 59 (nI sum) = some h' ∧ Fr (fun x => x = 59 ∨ x = c 3 ∨ x = c 4) h h' ∧ FB h' c N (if b.1 ≤ sum then (sum + 1, col, kp) else b) ∧ ∀ j, j ≠ 1 → gI h' 59 j = gI h 59 j := by
  obtain ⟨B1, B2, B3⟩ := B
  by_cases z : b.1 ≤ sum
  · obtain ⟨h3, e3⟩ : ∃ h3, h3 = sI h 59 1 (nI sum) := ⟨_, rfl⟩
    have F3 : Fr (fun x => x = 59 ∨ x = c 3 ∨ x = c 4) h h3 := by rw [e3]; exact Fr.sI (Or.inl rfl)
    have a0 : gI h3 59 0 = nI N := by rw [e3, gI_sI, if_pos rfl, up_at, if_neg (by omega)]; exact K
    have a5 : gI h3 (c 5) = gI h (c 5) := by rw [e3, gI_sI, if_neg (ax_5 A 5 (by omega))]
    have a6 : gI h3 (c 6) = gI h (c 6) := by rw [e3, gI_sI, if_neg (ax_5 A 6 (by omega))]
    obtain ⟨h4, e4⟩ : ∃ h4, h4 = rI h3 (c 3) (va_cpy (gI h3 (c 5)) (gI h3 (c 3)) 0 0 N) := ⟨_, rfl⟩
    have F4 : Fr (fun x => x = 59 ∨ x = c 3 ∨ x = c 4) h3 h4 := by rw [e4]; exact Fr.rI (Or.inr (Or.inl rfl))
    have b0 : gI h4 59 0 = nI N := by rw [e4, gI_rI, if_neg (ax_5' A 3 (by omega))]; exact a0
    have b6 : gI h4 (c 6) = gI h (c 6) := by rw [e4, gI_rI, if_neg (ax_n A 6 3 (by omega))]; exact a6
    obtain ⟨h5, e5⟩ : ∃ h5, h5 = rI h4 (c 4) (va_cpy (gI h4 (c 6)) (gI h4 (c 4)) 0 0 N) := ⟨_, rfl⟩
    have F5 : Fr (fun x => x = 59 ∨ x = c 3 ∨ x = c 4) h4 h5 := by rw [e5]; exact Fr.rI (Or.inr (Or.inr rfl))
    have g59 : gI h5 59 = gI h3 59 := by rw [e5, gI_rI, if_neg (ax_5' A 4 (by omega)), e4, gI_rI, if_neg (ax_5' A 3 (by omega))]
    have X3 := X.fr F3
    have X4 := X3.fr F4
    refine ⟨h5, ?_, (F3.trans F4).trans F5, ?_, fun j hj => by rw [g59, e3, gI_sI, if_pos rfl, up_at, if_neg hj]⟩
    · unfold MX3_takeIfBetter
      simp only [ZL]
      rw [gg_t X.1, B1, if_pos (by rw [bV_lt B2 (by omega)]; exact z), lt_eq, ← e3, X.p, X.p, X.p, X.p, gg_t (X.k 5 (by omega) (by omega)), gg_t (X.k 3 (by omega) (by omega)), a0, X3.l 5 (by omega) (by omega) (by omega), X3.l 3 (by omega) (by omega) (by omega), gg_t (cpB_t hN hN (by omega)), lt_eq, nCl (by omega), nCl (by omega), ← e4, gg_t (X.k 6 (by omega) (by omega)), gg_t (X.k 4 (by omega) (by omega)), b0, X4.l 6 (by omega) (by omega) (by omega), X4.l 4 (by omega) (by omega) (by omega), gg_t (cpB_t hN hN (by omega)), lt_eq, nCl (by omega), ← e5]
    · rw [if_pos z]
      refine ⟨?_, show sum + 1 ≤ 100000 by omega, fun _ j hj => ⟨?_, ?_⟩⟩
      · rw [g59, e3, gI_sI, if_pos rfl, up_at, if_pos rfl]
        rfl
      · rw [e5, gI_rI, if_neg (ax_n A 3 4 (by omega)), e4, gI_rI, if_pos rfl, cpy_at, if_pos hj, a5]
        exact C j hj
      · rw [e5, gI_rI, if_pos rfl, cpy_at, if_pos hj, b6]
        exact E j hj
  · refine ⟨h, ?_, Fr.rfl, by rw [if_neg z]; exact ⟨B1, B2, B3⟩, fun _ _ => rfl⟩
    unfold MX3_takeIfBetter
    rw [gg_t X.1, B1, if_neg (by rw [bV_lt B2 (by omega)]; exact z)]
/-- cells that the keeping writes -/
def KW (c : Nat → Nat) (x : Nat) : Prop := x = 59 ∨ x = c 3 ∨ x = c 4 ∨ x = c 6 ∨ x = c 9
theorem kw_n (A : AX c) (k : Nat) (h : k = 2 ∨ k = 5 ∨ k = 7 ∨ k = 8) : ¬ KW c (c k) := by
  rintro (e | e | e | e | e)
  · exact ax_5 A k (by omega) e
  · exact ax_n A k 3 (by omega) e
  · exact ax_n A k 4 (by omega) e
  · exact ax_n A k 6 (by omega) e
  · exact ax_n A k 9 (by omega) e
theorem FK.fr (K : FK h c N Cc P L) (h59 : ∀ j, j ≠ 1 → gI h' 59 j = gI h 59 j) (h7 : gI h' (c 7) = gI h (c 7)) (h8 : gI h' (c 8) = gI h (c 8)) : FK h' c N Cc P L := by
  obtain ⟨a, b, e⟩ := K
  exact ⟨by rw [h59 0 (by omega)]; exact a, by rw [h59 10 (by omega)]; exact b, fun j hj => by rw [h7, h8]; exact e j hj⟩
theorem FB.fr (B : FB h c N b) (h1 : gI h' 59 1 = gI h 59 1) (h3 : gI h' (c 3) = gI h (c 3)) (h4 : gI h' (c 4) = gI h (c 4)) : FB h' c N b := by
  unfold FB
  rw [h1, h3, h4]
  exact B
/-- what the stories keep is gone through -/
theorem c_kp (A : AX c) (Z : FS N Cc Lg P L) (hcol : ∀ j, j < N → col j < Cc) : ∀ d u i h kp fl sum b, d < u → i + d = N → FX h c → FK h c N Cc P L → FB h c N b → (∀ j, j < N → gI h (c 5) j = nI (col j)) → (∀ j, j < i → gI h (c 6) j = nI (kp j)) → (∀ k, k < Cc → gI h (c 9) k = nI (Lg - fl k)) → (∀ k, fl k ≤ Lg) → sum ≤ 200 * i → ∃ h', RX3_chooseKeep u 0 h 59 (nI i) (nI sum) = some h' ∧ Fr (KW c) h h' ∧ FB h' c N (kpS N Lg P L col d kp fl sum b) ∧ (∀ j, j ≠ 1 → gI h' 59 j = gI h 59 j) ∧ (∀ j, j < i → gI h' (c 6) j = gI h (c 6) j) ∧ ∀ k, k < Cc → gI h' (c 9) k = nI (Lg - fl k) := by
  obtain ⟨hN, hC, hL, hP⟩ := Z
  intro d
  induction d with
  | zero =>
    intro u i h kp fl sum b hu hi X K B C E Fl fl1 hs
    obtain ⟨u, rfl⟩ : ∃ v, u = v + 1 := ⟨u - 1, by omega⟩
    have hi : i = N := by omega
    subst hi
    obtain ⟨h1, y1, y2, y3, y4⟩ := c_tib (col := col) (kp := kp) X A hN K.1 B C E (sum := sum) (by omega)
    refine ⟨h1, ?_, y2.mono (fun x hx => or3 hx (fun e => Or.inl e) (fun e => Or.inr (Or.inl e)) (fun e => Or.inr (Or.inr (Or.inl e)))), by unfold kpS; exact y3, y4, fun j hj => ?_, fun k hk => ?_⟩
    · show BX3_chooseKeep (RX3_chooseKeep u) h 59 (nI i) (nI sum) = _
      unfold BX3_chooseKeep
      rw [gg_t X.1, K.1, if_neg (nI_nlt (Nat.le_refl _) (by omega)), y1, ob_some]
    · rw [y2.2.2.2.2.2.2 (c 6) (fun e => or3 e (ax_5 A 6 (by omega)) (ax_n A 6 3 (by omega)) (ax_n A 6 4 (by omega)))]
    · rw [y2.2.2.2.2.2.2 (c 9) (fun e => or3 e (ax_5 A 9 (by omega)) (ax_n A 9 3 (by omega)) (ax_n A 9 4 (by omega)))]
      exact Fl k hk
  | succ d ih =>
    intro u i h kp fl sum b hu hi X K B C E Fl fl1 hs
    obtain ⟨u, rfl⟩ : ∃ v, u = v + 1 := ⟨u - 1, by omega⟩
    have iN : i < N := by omega
    have ei : N - (d + 1) = i := by omega
    have ci := hcol i iN
    obtain ⟨p5, pL⟩ := hP i iN
    have pi := (K.2.2 i iN).1
    have lp : ∃ z, it (fun q : Int32 × Hp => BX3_chooseKeep_21 (RX3_chooseKeep u) q.2 59 (nI i) (nI sum) q.1) (nI (P i), h) = some z ∧ (Fr (KW c) h z ∧ FB z c N (kpS N Lg P L col (d + 1) kp fl sum b) ∧ (∀ j, j ≠ 1 → gI z 59 j = gI h 59 j) ∧ (∀ j, j < i → gI z (c 6) j = gI h (c 6) j) ∧ ∀ k, k < Cc → gI z (c 9) k = nI (Lg - fl k)) := by
      refine it_cnt (fun j s => s.1 = nI (P i - j) ∧ Fr (KW c) h s.2 ∧ (∃ b', FB s.2 c N b' ∧ foldD (fun n b => if fl (col i) + L i n ≤ Lg then kpS N Lg P L col d (upN kp i n) (upN fl (col i) (fl (col i) + L i n)) (sum + L i n) b else b) (P i - j) b' = kpS N Lg P L col (d + 1) kp fl sum b) ∧ (∀ j, j ≠ 1 → gI s.2 59 j = gI h 59 j) ∧ (∀ j, j < i → gI s.2 (c 6) j = gI h (c 6) j) ∧ ∀ k, k < Cc → gI s.2 (c 9) k = nI (Lg - fl k)) (P i) (fun j s hj pp => ?_) (fun s pp => ?_) ⟨rfl, Fr.rfl, ⟨b, B, by rw [← ei]; rfl⟩, fun _ _ => rfl, fun _ _ => rfl, Fl⟩
      · obtain ⟨w, g⟩ := s
        obtain ⟨q1, q2, ⟨b', q3, q4⟩, q5, q6, q7⟩ := pp
        replace q1 : w = nI (P i - j) := q1
        replace q2 : Fr (KW c) h g := q2
        replace q3 : FB g c N b' := q3
        replace q5 : ∀ j, j ≠ 1 → gI g 59 j = gI h 59 j := q5
        replace q6 : ∀ j, j < i → gI g (c 6) j = gI h (c 6) j := q6
        replace q7 : ∀ k, k < Cc → gI g (c 9) k = nI (Lg - fl k) := q7
        subst q1
        obtain ⟨n, hn⟩ : ∃ n, P i - j = n + 1 := ⟨P i - j - 1, by omega⟩
        rw [hn] at q4 ⊢
        have n1 : P i - (j + 1) = n := by omega
        have Xg := X.fr q2
        have Kg : FK g c N Cc P L := K.fr q5 (q2.2.2.2.2.2.2 _ (kw_n A 7 (by omega))) (q2.2.2.2.2.2.2 _ (kw_n A 8 (by omega)))
        have Cg : ∀ j, j < N → gI g (c 5) j = nI (col j) := fun j hj => by rw [q2.2.2.2.2.2.2 _ (kw_n A 5 (by omega))]; exact C j hj
        have l1 := (Kg.2.2 i iN).2 (n + 1) (by omega)
        have lb := pL (n + 1) (by omega)
        have f0 := fl1 (col i)
        have dec : nI (n + 1) + -nI 1 = nI n := pk_m1 n
        have head : BX3_chooseKeep_21 (RX3_chooseKeep u) g 59 (nI i) (nI sum) (nI (n + 1)) = if nI (Lg - fl (col i)) < nI (L i (n + 1)) then some (.inl (nI n, g)) else lt (sI g (c 6) i (nI (n + 1))) fun (h16 : Hp) => lt (sI h16 (c 9) (col i) (nI (Lg - fl (col i)) - nI (L i (n + 1)))) fun (h22 : Hp) => Option.bind (RX3_chooseKeep u 0 h22 59 (nI i + nI 1) (nI sum + nI (L i (n + 1)))) fun (h28 : Hp) => gg (kd h28 59 = 2) <| gg (kd h28 (gP h28 59 5) = 20) <| gg (inB (nI i) (ln h28 (gP h28 59 5)) = true) <| gg (kd h28 (gP h28 59 9) = 20) <| gg (inB (gI h28 (gP h28 59 5) i) (ln h28 (gP h28 59 9)) = true) <| lt (sI h28 (gP h28 59 9) (gI h28 (gP h28 59 5) i).toNatClampNeg ((gI h28 (gP h28 59 9) (gI h28 (gP h28 59 5) i).toNatClampNeg) + nI (L i (n + 1)))) fun (h34 : Hp) => some (.inl (nI n, h34)) := by
          unfold BX3_chooseKeep_21
          simp only [ZL]
          rw [if_neg (nI_nlt (by omega) (by omega)), gg_t Xg.1, Xg.p, Xg.p, Xg.p, Xg.p, gg_t (Xg.k 8 (by omega) (by omega)), nMul, nAdd, Xg.l8, gg_in (by omega) (by omega), gg_t (Xg.k 5 (by omega) (by omega)), Xg.l 5 (by omega) (by omega) (by omega), gg_in (by omega) (by omega), gg_t (Xg.k 9 (by omega) (by omega)), nCl (show i < 2147483648 by omega), Cg i iN, Xg.l 9 (by omega) (by omega) (by omega), gg_in (by omega) (by omega), nCl (by omega), nCl (by omega), q7 _ ci, show i * 6 + (n + 1) = 6 * i + (n + 1) by omega, l1, dec, gg_t (Xg.k 6 (by omega) (by omega)), Xg.l 6 (by omega) (by omega) (by omega), gg_in (by omega) (by omega)]
          have e16 : ∀ v, gI (sI g (c 6) i v) (c 5) i = nI (col i) := fun v => by rw [gI_sI, if_neg (ax_n A 5 6 (by omega))]; exact Cg i iN
          have e19 : ∀ v, gI (sI g (c 6) i v) (c 9) (col i) = nI (Lg - fl (col i)) := fun v => by rw [gI_sI, if_neg (ax_n A 9 6 (by omega))]; exact q7 _ ci
          rw [lt_eq, e16, gg_in (by omega) (by omega), nCl (by omega), e19]
          rfl
        by_cases z : fl (col i) + L i (n + 1) ≤ Lg
        · obtain ⟨g1, hg1⟩ : ∃ g1, g1 = sI g (c 6) i (nI (n + 1)) := ⟨_, rfl⟩
          obtain ⟨g2, hg2⟩ : ∃ g2, g2 = sI g1 (c 9) (col i) (nI (Lg - (fl (col i) + L i (n + 1)))) := ⟨_, rfl⟩
          have F1 : Fr (KW c) g g1 := by rw [hg1]; exact Fr.sI (Or.inr (Or.inr (Or.inr (Or.inl rfl))))
          have F2 : Fr (KW c) g1 g2 := by rw [hg2]; exact Fr.sI (Or.inr (Or.inr (Or.inr (Or.inr rfl))))
          have F12 := F1.trans F2
          have o : ∀ x, ¬ x = c 6 → ¬ x = c 9 → gI g2 x = gI g x := fun x h6 h9 => by rw [hg2, gI_sI, if_neg h9, hg1, gI_sI, if_neg h6]
          have o59 := o 59 (ax_5' A 6 (by omega)) (ax_5' A 9 (by omega))
          have X2 := Xg.fr F12
          have K2 : FK g2 c N Cc P L := Kg.fr (fun j _ => by rw [o59]) (o _ (ax_n A 7 6 (by omega)) (ax_n A 7 9 (by omega))) (o _ (ax_n A 8 6 (by omega)) (ax_n A 8 9 (by omega)))
          have B2 : FB g2 c N b' := q3.fr (by rw [o59]) (o _ (ax_n A 3 6 (by omega)) (ax_n A 3 9 (by omega))) (o _ (ax_n A 4 6 (by omega)) (ax_n A 4 9 (by omega)))
          have C2 : ∀ j, j < N → gI g2 (c 5) j = nI (col j) := fun j hj => by rw [o _ (ax_n A 5 6 (by omega)) (ax_n A 5 9 (by omega))]; exact Cg j hj
          have k6 : ∀ j, gI g2 (c 6) j = if j = i then nI (n + 1) else gI g (c 6) j := fun j => by rw [hg2, gI_sI, if_neg (ax_n A 6 9 (by omega)), hg1, gI_sI, if_pos rfl, up_at]
          have k9 : ∀ k, gI g2 (c 9) k = if k = col i then nI (Lg - (fl (col i) + L i (n + 1))) else gI g (c 9) k := fun k => by rw [hg2, gI_sI, if_pos rfl, up_at, hg1, gI_sI, if_neg (ax_n A 9 6 (by omega))]
          obtain ⟨g3, a1, a2, a3, a4, a5, a6⟩ := ih u (i + 1) g2 (upN kp i (n + 1)) (upN fl (col i) (fl (col i) + L i (n + 1))) (sum + L i (n + 1)) b' (by omega) (by omega) X2 K2 B2 C2 (fun j hj => by
              rw [k6]
              unfold upN
              by_cases y : j = i
              · rw [if_pos y, if_pos y]
              · rw [if_neg y, if_neg y, q6 j (by omega)]
                exact E j (by omega)) (fun k hk => by
              rw [k9]
              unfold upN
              by_cases y : k = col i
              · rw [if_pos y, if_pos y]
              · rw [if_neg y, if_neg y]
                exact q7 k hk) (fun k => by
              unfold upN
              by_cases y : k = col i
              · rw [if_pos y]; exact z
              · rw [if_neg y]; exact fl1 k) (by omega)
          have X3 := X2.fr a2
          have c3 : gI g3 (c 5) i = nI (col i) := by rw [a2.2.2.2.2.2.2 _ (kw_n A 5 (by omega))]; exact C2 i iN
          have v9 := a6 (col i) ci
          have v9' : gI g3 (c 9) (col i) = nI (Lg - (fl (col i) + L i (n + 1))) := by rw [v9]; unfold upN; rw [if_pos rfl]
          obtain ⟨g4, hg4⟩ : ∃ g4, g4 = sI g3 (c 9) (col i) (nI (Lg - fl (col i))) := ⟨_, rfl⟩
          have F4 : Fr (KW c) g3 g4 := by rw [hg4]; exact Fr.sI (Or.inr (Or.inr (Or.inr (Or.inr rfl))))
          have o4 : ∀ x, ¬ x = c 9 → gI g4 x = gI g3 x := fun x h9 => by rw [hg4, gI_sI, if_neg h9]
          refine ⟨(nI n, g4), ?_, by rw [n1], ((q2.trans F12).trans a2).trans F4, ⟨kpS N Lg P L col d (upN kp i (n + 1)) (upN fl (col i) (fl (col i) + L i (n + 1))) (sum + L i (n + 1)) b', ?_, ?_⟩, fun j hj => ?_, fun j hj => ?_, fun k hk => ?_⟩
          · show BX3_chooseKeep_21 (RX3_chooseKeep u) g 59 (nI i) (nI sum) (nI (n + 1)) = _
            rw [head, if_neg (nI_nlt (by omega) (by omega)), lt_eq, ← hg1, nSub (by omega), show Lg - fl (col i) - L i (n + 1) = Lg - (fl (col i) + L i (n + 1)) by omega, lt_eq, ← hg2, nAdd, nAdd, a1, ob_some, gg_t X3.1, X3.p, X3.p, gg_t (X3.k 5 (by omega) (by omega)), X3.l 5 (by omega) (by omega) (by omega), gg_in (by omega) (by omega), gg_t (X3.k 9 (by omega) (by omega)), c3, X3.l 9 (by omega) (by omega) (by omega), gg_in (by omega) (by omega), nCl (by omega), v9', nAdd, show Lg - (fl (col i) + L i (n + 1)) + L i (n + 1) = Lg - fl (col i) by omega, lt_eq, ← hg4]
          · exact a3.fr (by rw [o4 _ (ax_5' A 9 (by omega))]) (o4 _ (ax_n A 3 9 (by omega))) (o4 _ (ax_n A 4 9 (by omega)))
          · rw [n1, ← q4]
            exact congrArg (foldD _ n) (if_pos z).symm
          · show gI g4 59 j = gI h 59 j
            rw [o4 _ (ax_5' A 9 (by omega)), a4 j hj, o59]
            exact q5 j hj
          · show gI g4 (c 6) j = gI h (c 6) j
            rw [o4 _ (ax_n A 6 9 (by omega)), a5 j (by omega), k6, if_neg (by omega)]
            exact q6 j hj
          · show gI g4 (c 9) k = _
            rw [hg4, gI_sI, if_pos rfl, up_at]
            by_cases y : k = col i
            · rw [if_pos y, y]
            · rw [if_neg y, a6 k hk]
              unfold upN
              rw [if_neg y]
        · refine ⟨(nI n, g), ?_, by rw [n1], q2, ⟨b', q3, ?_⟩, q5, q6, q7⟩
          · show BX3_chooseKeep_21 (RX3_chooseKeep u) g 59 (nI i) (nI sum) (nI (n + 1)) = _
            rw [head, if_pos (nI_lt (by omega) (by omega))]
          · rw [n1, ← q4]
            exact congrArg (foldD _ n) (if_neg z).symm
      · obtain ⟨w, g⟩ := s
        obtain ⟨q1, q2, ⟨b', q3, q4⟩, q5, q6, q7⟩ := pp
        replace q1 : w = nI (P i - P i) := q1
        subst q1
        rw [Nat.sub_self] at q4 ⊢
        refine ⟨g, ?_, q2, by rw [← q4]; exact q3, q5, q6, q7⟩
        show BX3_chooseKeep_21 (RX3_chooseKeep u) g 59 (nI i) (nI sum) (nI 0) = _
        unfold BX3_chooseKeep_21
        simp only [ZL]
        rw [if_pos (nI_lt (by omega) (by omega))]
    obtain ⟨z, y1, y2⟩ := lp
    refine ⟨z, ?_, y2⟩
    show BX3_chooseKeep (RX3_chooseKeep u) h 59 (nI i) (nI sum) = _
    unfold BX3_chooseKeep MX3_chooseKeep_21
    rw [gg_t X.1, K.1, if_pos (nI_lt iN (by omega)), X.p, gg_t (X.k 7 (by omega) (by omega)), X.l 7 (by omega) (by omega) (by omega), gg_in (by omega) (by omega), nCl (by omega), pi]
    exact y1
end
