/-! the stories of a set; the whole search on both sides -/
/-- the stories of a set below n, in their order -/
def inS (a : Nat) : Nat → (Nat → Nat)
  | 0 => fun _ => 0
  | n + 1 => if btN a n = 0 then inS a n else upN (inS a n) (pcN a n) n
theorem inS_in {a : Nat} : ∀ n j, j < pcN a n → inS a n j < n ∧ btN a (inS a n j) = 1
  | 0, j, h => by unfold pcN at h; omega
  | n + 1, j, h => by
    have b2 := bt_lt a n
    unfold inS
    by_cases z : btN a n = 0
    · rw [if_pos z]
      have := inS_in (a := a) n j (by have h2 : j < pcN a n + btN a n := h; omega)
      exact ⟨by omega, this.2⟩
    · rw [if_neg z]
      unfold upN
      by_cases y : j = pcN a n
      · rw [if_pos y]; exact ⟨by omega, by omega⟩
      · rw [if_neg y]
        have := inS_in (a := a) n j (by have h2 : j < pcN a n + btN a n := h; omega)
        exact ⟨by omega, this.2⟩
theorem inS_up {a n j : Nat} (h : j < pcN a n) : ∀ d, inS a (n + d) j = inS a n j
  | 0 => rfl
  | d + 1 => by
    have mm := pc_mono (a := a) d n
    have e : inS a (n + (d + 1)) = if btN a (n + d) = 0 then inS a (n + d) else upN (inS a (n + d)) (pcN a (n + d)) (n + d) := rfl
    rw [e]
    by_cases z : btN a (n + d) = 0
    · rw [if_pos z]; exact inS_up h d
    · rw [if_neg z]
      have e2 : upN (inS a (n + d)) (pcN a (n + d)) (n + d) j = inS a (n + d) j := if_neg (by omega)
      rw [e2]
      exact inS_up h d
def fN (m : Nat → Int32) (a : Nat) : Nat := pcN a (Nn m 1)
def fS (m : Nat → Int32) (a : Nat) : Nat → Nat := inS a (Nn m 1)
def fP (m : Nat → Int32) (a j : Nat) : Nat := Nn m (110 + fS m a j)
def fL (m : Nat → Int32) (a j n : Nat) : Nat := lnS m (fS m a j) n
def fitB (m : Nat → Int32) (p a : Nat) : Bst := colS (fN m a) (Nn m (327382 + 185 * p)) (Nn m (327382 + 185 * p + 1)) (fP m a) (fL m a) (fN m a) (fun _ => 0) (0, fun _ => 0, fun _ => 0)
theorem fit_q (m : Nat → Int32) (p a : Nat) : BtQ (fN m a) (Nn m (327382 + 185 * p)) (Nn m (327382 + 185 * p + 1)) (fP m a) (fL m a) (fitB m p a) := colS_q _ _ _ (Nat.le_refl _) (fun j hj => by omega) (fun h => absurd rfl h)
section
variable {h h' : Hp} {m : Nat → Int32} {a p N Cc Lg n i d u sum s r : Nat} {P col kp fl st c : Nat → Nat} {L : Nat → Nat → Nat} {b : Bst} {D : Nat → Prop}
theorem pg_b (I : MI m) (hp : p < 6) : m (327382 + 185 * p) = nI (Nn m (327382 + 185 * p)) ∧ Nn m (327382 + 185 * p) ≤ 3 ∧ m (327382 + 185 * p + 1) = nI (Nn m (327382 + 185 * p + 1)) ∧ Nn m (327382 + 185 * p + 1) ≤ 60 := by
  obtain ⟨a1, -, a2, -⟩ := I.2.2.2.2.1.1 p hp
  exact ⟨(a1.eq (by omega)).1, (a1.eq (by omega)).2, (a2.eq (by omega)).1, (a2.eq (by omega)).2⟩
theorem fS_in {j : Nat} (hj : j < fN m a) : fS m a j < Nn m 1 ∧ btN a (fS m a j) = 1 := inS_in _ _ hj
theorem fit_s (I : MI m) (hp : p < 6) (hN : fN m a ≤ 4) : FS (fN m a) (Nn m (327382 + 185 * p)) (Nn m (327382 + 185 * p + 1)) (fP m a) (fL m a) := by
  obtain ⟨-, b1, -, b2⟩ := pg_b I hp
  refine ⟨hN, b1, b2, fun j hj => ?_⟩
  have hs := (fS_in hj).1
  have h5 : fP m a j ≤ 5 := (((I.1.2.2.2.2.2.2.2.2.2 _ hs).2.2.1).eq (by omega)).2
  refine ⟨h5, fun n hn => ?_⟩
  have := ln_le I hs n hn
  unfold fL
  omega
theorem r_col (Z : FS N Cc Lg P L) (I : MI m) : ∀ d u i h col b, d < u → i + d = N → RK h m N p Cc Lg P L st → RBk h N b → (∀ j, j < i → gI h 101 j = nI (col j) ∧ col j < Cc) → ∃ h', RX12_columns u 0 h 73 (nI p) (nI i) = some h' ∧ Fr RV h h' ∧ RBk h' N (colS N Cc Lg P L d col b) ∧ (∀ j, j ≠ 52 → gI h' 73 j = gI h 73 j) ∧ ∀ j, j < i → gI h' 101 j = gI h 101 j := by
  obtain ⟨hN, hC, hL, hP⟩ := id Z
  intro d
  induction d with
  | zero =>
    intro u i h col b hu hi K B C
    obtain ⟨u, rfl⟩ : ∃ v, u = v + 1 := ⟨u - 1, by omega⟩
    have hi : i = N := by omega
    subst hi
    have lp : ∃ z, it (fun q : Int32 × Hp => BX12_columns_10 (RX12_columns u) q.2 73 (nI p) q.1) (nI 0, h) = some z ∧ (Fr RV h z ∧ RBk z i (colS i Cc Lg P L 0 col b) ∧ (∀ j, j ≠ 52 → gI z 73 j = gI h 73 j) ∧ ∀ j, j < i → gI z 101 j = gI h 101 j) := by
      refine it_cnt (fun j s => s.1 = nI j ∧ Fr (fun x => x = 105) h s.2 ∧ ∀ k, k < j → gI s.2 105 k = nI 0) 3 (fun j s hj pp => ?_) (fun s pp => ?_) ⟨rfl, Fr.rfl, fun k hk => by omega⟩
      · obtain ⟨w, g⟩ := s
        obtain ⟨q1, q2, q3⟩ := pp
        replace q1 : w = nI j := q1
        replace q2 : Fr (fun x => x = 105) h g := q2
        replace q3 : ∀ k, k < j → gI g 105 k = nI 0 := q3
        subst q1
        have R := K.1.fr q2
        refine ⟨(nI (j + 1), sI g 105 j (nI 0)), ?_, rfl, q2.trans (Fr.sI rfl), fun k hk => ?_⟩
        · show BX12_columns_10 (RX12_columns u) g 73 (nI p) (nI j) = _
          unfold BX12_columns_10
          simp only [ZL]
          rw [if_neg (nI_ge hj (by omega)), gg_t (RS.f R).1]
          simp only [RS.f R]
          rw [gg_T, gg_in (by omega) (by omega), nCl (by omega), lt_eq, nAdd]
        · show gI (sI g 105 j (nI 0)) 105 k = nI 0
          rw [gI_sI, if_pos rfl, up_at]
          by_cases y : k = j
          · rw [if_pos y]
          · rw [if_neg y]; exact q3 k (by omega)
      · obtain ⟨w, g⟩ := s
        obtain ⟨q1, q2, q3⟩ := pp
        replace q1 : w = nI 3 := q1
        replace q2 : Fr (fun x => x = 105) h g := q2
        replace q3 : ∀ k, k < 3 → gI g 105 k = nI 0 := q3
        subst q1
        have K' := K.fr q2 (by omega) (by omega) (by rw [q2.2.2.2.2.2.2 73 (by omega)])
        have B' : RBk g i b := by
          unfold RBk
          rw [q2.2.2.2.2.2.2 73 (by omega), q2.2.2.2.2.2.2 103 (by omega), q2.2.2.2.2.2.2 104 (by omega)]
          exact B
        obtain ⟨z, y1, y2, y3, y4, y5, y6⟩ := r_kp (col := col) (st := st) Z I (fun j hj => (C j hj).2) i 30 0 g (fun _ => 0) (fun _ => 0) 0 b (by omega) (by omega) K' B' (fun j hj => by rw [q2.2.2.2.2.2.2 101 (by omega)]; exact (C j hj).1) (fun j hj => by omega) q3 (fun _ => Nat.zero_le _) (by omega)
        have R := K'.1
        refine ⟨z, ?_, (q2.mono (fun x hx => by unfold RV; omega)).trans (y2.mono (fun x hx => by unfold RV; unfold RW at hx; omega)), by unfold colS; exact y3, fun j hj => by rw [y4 j hj, q2.2.2.2.2.2.2 73 (by omega)], fun j hj => by rw [y2.2.2.2.2.2.2 101 (by unfold RW; omega), q2.2.2.2.2.2.2 101 (by omega)]⟩
        show BX12_columns_10 (RX12_columns u) g 73 (nI p) (nI 3) = _
        unfold BX12_columns_10 MX12_columns_28 MX12_keeps
        simp only [ZL]
        rw [if_pos (nI_le (Nat.le_refl _) (by omega)), gg_t (RS.f R).1, y1, ob_some, up1_some]
    obtain ⟨z, y1, y2⟩ := lp
    refine ⟨z, ?_, y2⟩
    show BX12_columns (RX12_columns u) h 73 (nI p) (nI i) = _
    unfold BX12_columns MX12_columns_10
    simp only [ZL]
    rw [gg_t (RS.f K.1).1, K.2.2.1, if_pos rfl]
    exact y1
  | succ d ih =>
    intro u i h col b hu hi K B C
    obtain ⟨u, rfl⟩ : ∃ v, u = v + 1 := ⟨u - 1, by omega⟩
    have iN : i < N := by omega
    have ei : N - (d + 1) = i := by omega
    obtain ⟨k5, k6, k7⟩ := K.2.2.2.2
    have lp : ∃ z, it (fun q : Int32 × Hp => BX12_columns_38 (RX12_columns u) q.2 73 (nI p) (nI i) q.1) (nI 0, h) = some z ∧ (Fr RV h z ∧ RBk z N (colS N Cc Lg P L (d + 1) col b) ∧ (∀ j, j ≠ 52 → gI z 73 j = gI h 73 j) ∧ ∀ j, j < i → gI z 101 j = gI h 101 j) := by
      refine it_cnt (fun j s => s.1 = nI j ∧ Fr RV h s.2 ∧ RBk s.2 N (foldU (fun k b => colS N Cc Lg P L d (upN col i k) b) j b) ∧ (∀ j, j ≠ 52 → gI s.2 73 j = gI h 73 j) ∧ ∀ j, j < i → gI s.2 101 j = gI h 101 j) Cc (fun j s hj pp => ?_) (fun s pp => ?_) ⟨rfl, Fr.rfl, B, fun _ _ => rfl, fun _ _ => rfl⟩
      · obtain ⟨w, g⟩ := s
        obtain ⟨q1, q2, q3, q5, q6⟩ := pp
        replace q1 : w = nI j := q1
        replace q2 : Fr RV h g := q2
        replace q3 : RBk g N (foldU (fun k b => colS N Cc Lg P L d (upN col i k) b) j b) := q3
        replace q5 : ∀ j, j ≠ 52 → gI g 73 j = gI h 73 j := q5
        replace q6 : ∀ j, j < i → gI g 101 j = gI h 101 j := q6
        subst q1
        have Kg := K.fr q2 (by unfold RV; omega) (by unfold RV; omega) (q5 51 (by omega))
        have R := Kg.1
        obtain ⟨g1, hg1⟩ : ∃ g1, g1 = sI g 101 i (nI j) := ⟨_, rfl⟩
        have F1 : Fr RV g g1 := by rw [hg1]; exact Fr.sI (by unfold RV; omega)
        have o : ∀ x, ¬ x = 101 → gI g1 x = gI g x := fun x h5 => by rw [hg1, gI_sI, if_neg h5]
        have k5 : ∀ l, gI g1 101 l = if l = i then nI j else gI g 101 l := fun l => by rw [hg1, gI_sI, if_pos rfl, up_at]
        obtain ⟨g3, a1, a2, a3, a4, a5⟩ := ih u (i + 1) g1 (upN col i j) (foldU (fun k b => colS N Cc Lg P L d (upN col i k) b) j b) (by omega) (by omega) (Kg.fr F1 (by unfold RV; omega) (by unfold RV; omega) (by rw [o 73 (by omega)])) (by
            unfold RBk
            rw [o 73 (by omega), o 103 (by omega), o 104 (by omega)]
            exact q3) (fun l hl => by
            rw [k5]
            unfold upN
            by_cases y : l = i
            · rw [if_pos y, if_pos y]; exact ⟨rfl, hj⟩
            · rw [if_neg y, if_neg y, q6 l (by omega)]
              exact C l (by omega))
        refine ⟨(nI (j + 1), g3), ?_, rfl, (q2.trans F1).trans a2, a3, fun l hl => by show gI g3 73 l = gI h 73 l; rw [a4 l hl, o 73 (by omega)]; exact q5 l hl, fun l hl => ?_⟩
        · show BX12_columns_38 (RX12_columns u) g 73 (nI p) (nI i) (nI j) = _
          unfold BX12_columns_38
          simp only [ZL]
          rw [gg_t (RS.f R).1]
          simp only [RS.f R]
          rw [gg_T, nMul, nAdd, gg_in (by omega) (by omega), nCl (by omega), Kg.2.1, k6, if_neg (nI_ge hj (by omega)), gg_T, gg_in (by omega) (by omega), nCl (by omega), lt_eq, ← hg1, nAdd, a1, ob_some, nAdd]
        · show gI g3 101 l = gI h 101 l
          rw [a5 l (by omega), k5, if_neg (by omega)]
          exact q6 l hl
      · obtain ⟨w, g⟩ := s
        obtain ⟨q1, q2, q3, q5, q6⟩ := pp
        replace q1 : w = nI Cc := q1
        replace q2 : Fr RV h g := q2
        replace q5 : ∀ j, j ≠ 52 → gI g 73 j = gI h 73 j := q5
        subst q1
        have Kg := K.fr q2 (by unfold RV; omega) (by unfold RV; omega) (q5 51 (by omega))
        have R := Kg.1
        refine ⟨g, ?_, q2, ?_, q5, q6⟩
        · show BX12_columns_38 (RX12_columns u) g 73 (nI p) (nI i) (nI Cc) = _
          unfold BX12_columns_38
          simp only [ZL]
          rw [gg_t (RS.f R).1]
          simp only [RS.f R]
          rw [gg_T, nMul, nAdd, gg_in (by omega) (by omega), nCl (by omega), Kg.2.1, k6, if_pos (nI_le (Nat.le_refl _) (by omega))]
        · unfold colS
          rw [ei]
          exact q3
    obtain ⟨z, y1, y2⟩ := lp
    refine ⟨z, ?_, y2⟩
    show BX12_columns (RX12_columns u) h 73 (nI p) (nI i) = _
    unfold BX12_columns MX12_columns_38
    simp only [ZL]
    rw [gg_t (RS.f K.1).1, K.2.2.1, if_neg (by rw [nEq (by omega) (by omega)]; omega)]
    exact y1
/-- what the reference has found -/
def RFt (h : Hp) (m : Nat → Int32) (p a : Nat) : Prop := RBk h (fN m a) (fitB m p a) ∧ gI h 73 51 = nI (fN m a) ∧ ∀ j, j < fN m a → gI h 100 j = nI (fS m a j)
theorem r_fitting (R : RS h) (em : gI h 74 = m) (I : MI m) (hp : p < 6) (ha : a < 2147483648) (hN : fN m a ≤ 4) : ∃ h', MX12_fitting h 73 (nI p) (nI a) = some h' ∧ Fr (fun x => RV x ∨ x = 100) h h' ∧ RFt h' m p a ∧ ∀ j, j ≠ 51 → j ≠ 52 → gI h' 73 j = gI h 73 j := by
  have f1 := I.1.f.2.1
  obtain ⟨b1, b2, b3, b4⟩ := pg_b I hp
  obtain ⟨h2, hh2⟩ : ∃ h2, h2 = sI h 73 51 (nI 0) := ⟨_, rfl⟩
  have F2 : Fr (fun x => RV x ∨ x = 100) h h2 := by rw [hh2]; exact Fr.sI (Or.inl (Or.inl rfl))
  have lp : ∃ z, it (fun q : Int32 × Hp => BX12_fitting_7 q.2 73 (nI p) (nI a) q.1) (nI 0, h2) = some z ∧ (Fr (fun x => RV x ∨ x = 100) h z ∧ RFt z m p a ∧ ∀ j, j ≠ 51 → j ≠ 52 → gI z 73 j = gI h 73 j) := by
    refine it_cnt (fun j s => s.1 = nI j ∧ Fr (fun x => RV x ∨ x = 100) h s.2 ∧ gI s.2 73 51 = nI (pcN a j) ∧ (∀ l, l < pcN a j → gI s.2 100 l = nI (inS a j l)) ∧ ∀ j, j ≠ 51 → j ≠ 52 → gI s.2 73 j = gI h 73 j) (Nn m 1) (fun j s hj pp => ?_) (fun s pp => ?_) ⟨rfl, F2, by show gI h2 73 51 = _; rw [hh2, gI2, if_pos ⟨rfl, rfl⟩]; rfl, fun l hl => by unfold pcN at hl; omega, fun j h1 _ => by show gI h2 73 j = _; rw [hh2, gI2, if_neg (fun e => h1 e.2)]⟩
    · obtain ⟨w, g⟩ := s
      obtain ⟨q1, q2, q3, q4, q5⟩ := pp
      replace q1 : w = nI j := q1
      replace q2 : Fr (fun x => RV x ∨ x = 100) h g := q2
      replace q3 : gI g 73 51 = nI (pcN a j) := q3
      replace q4 : ∀ l, l < pcN a j → gI g 100 l = nI (inS a j l) := q4
      replace q5 : ∀ j, j ≠ 51 → j ≠ 52 → gI g 73 j = gI h 73 j := q5
      subst q1
      have Rg := R.fr q2
      have eg : gI g 74 = m := by rw [q2.2.2.2.2.2.2 74 (by unfold RV; omega)]; exact em
      have bl := bt_lt a j
      have mono : pcN a (j + 1) ≤ fN m a := by
        have := pc_mono (a := a) (Nn m 1 - (j + 1)) (j + 1)
        rw [show j + 1 + (Nn m 1 - (j + 1)) = Nn m 1 by omega] at this
        exact this
      have head : BX12_fitting_7 g 73 (nI p) (nI a) (nI j) = if btN a j = 0 then some (.inl (nI (j + 1), g)) else gg (inB (nI (pcN a j)) 4 = true) <| lt (sI g 100 (nI (pcN a j)).toNatClampNeg (nI j)) fun (h22 : Hp) => lt (sI h22 73 51 ((gI h22 73 51) + nI 1)) fun (h27 : Hp) => some (.inl (nI (j + 1), h27)) := by
        unfold BX12_fitting_7
        simp only [ZL]
        rw [gg_t (RS.f Rg).1]
        simp only [RS.f Rg]
        rw [gg_T, gg_in (by omega) (by omega), nCl (by omega), eg, f1.1, if_neg (nI_ge hj (by omega)), q3, gg_T, nAdd]
        by_cases z : btN a j = 0
        · rw [if_pos (by rw [bt_0 ha (by omega)]; exact z), if_pos z]
        · rw [if_neg (by rw [bt_0 ha (by omega)]; exact z), if_neg z]
      by_cases z : btN a j = 0
      · have e1 : pcN a (j + 1) = pcN a j := by show pcN a j + btN a j = _; omega
        have e2 : inS a (j + 1) = inS a j := by show (if btN a j = 0 then _ else _) = _; rw [if_pos z]
        refine ⟨(nI (j + 1), g), by show BX12_fitting_7 g 73 (nI p) (nI a) (nI j) = _; rw [head, if_pos z], rfl, q2, by rw [e1]; exact q3, by rw [e1, e2]; exact q4, q5⟩
      · have e1 : pcN a (j + 1) = pcN a j + 1 := by show pcN a j + btN a j = _; omega
        have e2 : inS a (j + 1) = upN (inS a j) (pcN a j) j := by show (if btN a j = 0 then _ else _) = _; rw [if_neg z]
        have g51 : gI (sI g 100 (pcN a j) (nI j)) 73 51 = nI (pcN a j) := by rw [gI2, if_neg (by omega)]; exact q3
        refine ⟨(nI (j + 1), sI (sI g 100 (pcN a j) (nI j)) 73 51 (nI (pcN a j + 1))), ?_, rfl, (q2.trans (Fr.sI (Or.inr rfl))).trans (Fr.sI (Or.inl (Or.inl rfl))), ?_, fun l hl => ?_, fun l h1 h2 => ?_⟩
        · show BX12_fitting_7 g 73 (nI p) (nI a) (nI j) = _
          rw [head, if_neg z, gg_in (by omega) (by omega), nCl (by omega), lt_eq, g51, nAdd, lt_eq]
        · show gI (sI (sI g 100 (pcN a j) (nI j)) 73 51 (nI (pcN a j + 1))) 73 51 = _
          rw [gI2, if_pos ⟨rfl, rfl⟩, e1]
        · show gI (sI (sI g 100 (pcN a j) (nI j)) 73 51 (nI (pcN a j + 1))) 100 l = _
          rw [gI2, if_neg (by omega), gI2, e2]
          unfold upN
          by_cases y : l = pcN a j
          · rw [if_pos ⟨rfl, y⟩, if_pos y]
          · rw [if_neg (fun e => y e.2), if_neg y]
            exact q4 l (by omega)
        · show gI (sI (sI g 100 (pcN a j) (nI j)) 73 51 (nI (pcN a j + 1))) 73 l = _
          rw [gI2, if_neg (fun e => h1 e.2), gI2, if_neg (by omega)]
          exact q5 l h1 h2
    · obtain ⟨w, g⟩ := s
      obtain ⟨q1, q2, q3, q4, q5⟩ := pp
      replace q1 : w = nI (Nn m 1) := q1
      replace q2 : Fr (fun x => RV x ∨ x = 100) h g := q2
      replace q3 : gI g 73 51 = nI (fN m a) := q3
      replace q4 : ∀ l, l < fN m a → gI g 100 l = nI (fS m a l) := q4
      replace q5 : ∀ j, j ≠ 51 → j ≠ 52 → gI g 73 j = gI h 73 j := q5
      subst q1
      have Rg := R.fr q2
      have eg : gI g 74 = m := by rw [q2.2.2.2.2.2.2 74 (by unfold RV; omega)]; exact em
      obtain ⟨g1, hg1⟩ : ∃ g1, g1 = sI g 73 52 (-nI 1) := ⟨_, rfl⟩
      have F1 : Fr RV g g1 := by rw [hg1]; exact Fr.sI (Or.inl rfl)
      have o : ∀ x, ¬ x = 73 → gI g1 x = gI g x := fun x hx => by rw [hg1, gI_sI, if_neg hx]
      have o73 : ∀ j, j ≠ 52 → gI g1 73 j = gI g 73 j := fun j hj => by rw [hg1, gI_sI, if_pos rfl, up_at, if_neg hj]
      have K1 : RK g1 m (fN m a) p (Nn m (327382 + 185 * p)) (Nn m (327382 + 185 * p + 1)) (fP m a) (fL m a) (fS m a) := ⟨Rg.fr F1, by rw [o _ (by omega)]; exact eg, by rw [o73 _ (by omega)]; exact q3, fun j hj => by
        rw [o _ (by omega)]
        exact ⟨q4 j hj, (fS_in hj).1, rfl, fun _ => rfl⟩, hp, b1, b3⟩
      obtain ⟨z, y1, y2, y3, y4, y5⟩ := r_col (fit_s I hp hN) I (fN m a) 30 0 g1 (fun _ => 0) (0, fun _ => 0, fun _ => 0) (by omega) (by omega) K1 ⟨by rw [hg1, gI_sI, if_pos rfl, up_at, if_pos rfl]; rfl, by show 0 ≤ 100000; omega, fun e => absurd rfl e⟩ (fun j hj => by omega)
      refine ⟨z, ?_, (q2.trans (F1.mono (fun x hx => Or.inl hx))).trans (y2.mono (fun x hx => Or.inl hx)), ⟨y3, by rw [y4 _ (by omega), o73 _ (by omega)]; exact q3, fun j hj => by rw [y2.2.2.2.2.2.2 100 (by unfold RV; omega), o _ (by omega)]; exact q4 j hj⟩, fun j h1 h2 => by rw [y4 j h2, o73 j h2]; exact q5 j h1 h2⟩
      show BX12_fitting_7 g 73 (nI p) (nI a) (nI (Nn m 1)) = _
      unfold BX12_fitting_7 MX12_fitting_54 MX12_columns
      simp only [ZL]
      rw [gg_t (RS.f Rg).1]
      simp only [RS.f Rg]
      rw [gg_T, gg_in (by omega) (by omega), nCl (by omega), eg, f1.1, if_pos (nI_le (Nat.le_refl _) (by omega)), gg_T, lt_eq, ← hg1, y1, ob_some, up1_some]
  obtain ⟨z, y1, y2⟩ := lp
  refine ⟨z, ?_, y2⟩
  unfold MX12_fitting MX12_fitting_7
  simp only [ZL]
  rw [gg_t (RS.f R).1, lt_eq, ← hh2]
  exact y1
end
