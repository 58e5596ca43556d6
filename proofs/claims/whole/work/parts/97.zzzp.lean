/-! plans: shares, the class -/
/-- what is there of all machines' table -/
def AT (h : Hp) (c : Nat → Nat) (L D : Nat → Nat) (bk : Nat → Bool) (xs : Nat → Nat) (k N : Nat) : Prop := ∀ r, r < N → ∃ v, gI h (c 4) r = nI v ∧ AlP L D bk xs k r v
section
variable {L D : Nat → Nat} {bk : Nat → Bool} {xs c : Nat → Nat} {h h' g : Hp} {x q k v w n i S : Nat} {W : Nat → Prop}
theorem sub_lt {n r S : Nat} (hS : S < 2 ^ n) (h : r &&& S = r) : r < 2 ^ n := by
  have : r &&& S ≤ S := Nat.and_le_right
  omega
/-- one set takes its best share -/
theorem c_sh10 {A O : Nat → Nat} (X : PX h c) (P : PA c) (hn : n ≤ 5) (hS : S < 2 ^ n) (S0 : 0 < S) (EA : ∀ r, r ≤ S → gI h (c 4) r = nI (A r) ∧ A r ≤ 1000000000) (EO : ∀ r, r < 2 ^ n → gI h (c 3) r = nI (O r) ∧ O r ≤ 10000) : ∃ h' w, MX6_shareWithOwn_10 h 68 (nI S) (nI S) = some (.inl (nI (S - 1), h')) ∧ Fr (fun y => y = c 4) h h' ∧ (∀ l, l ≠ S → gI h' (c 4) l = gI h (c 4) l) ∧ gI h' (c 4) S = nI w ∧ w ≤ A S ∧ (∀ r, r < 32 → r &&& S = r → 0 < r → w ≤ A (S - r) + O r) ∧ (w = A S ∨ ∃ r, r < 32 ∧ r &&& S = r ∧ w = A (S - r) + O r) := by
  have h5 : 2 ^ n ≤ 2 ^ 5 := Nat.pow_le_pow_right (by omega) hn
  have S32 : S < 32 := by omega
  have lp : ∃ z, it (fun y : Int32 × Hp => BX6_shareWithOwn_10 y.2 68 (nI S) y.1) (nI S, h) = some z ∧ ∃ h' w, z = .inl (nI (S - 1), h') ∧ Fr (fun y => y = c 4) h h' ∧ (∀ l, l ≠ S → gI h' (c 4) l = gI h (c 4) l) ∧ gI h' (c 4) S = nI w ∧ w ≤ A S ∧ (∀ r, r < 32 → r &&& S = r → 0 < r → w ≤ A (S - r) + O r) ∧ (w = A S ∨ ∃ r, r < 32 ∧ r &&& S = r ∧ w = A (S - r) + O r) := by
    refine it_up (P := fun p y => y.1 = nI p ∧ p ≤ S ∧ p &&& S = p ∧ Fr (fun y => y = c 4) h y.2 ∧ (∀ l, l ≠ S → gI y.2 (c 4) l = gI h (c 4) l) ∧ ∃ w, gI y.2 (c 4) S = nI w ∧ w ≤ A S ∧ (∀ r, p < r → r < 32 → r &&& S = r → w ≤ A (S - r) + O r) ∧ (w = A S ∨ ∃ r, r < 32 ∧ r &&& S = r ∧ w = A (S - r) + O r)) (Q := fun (z : (Int32 × Hp) ⊕ Hp) => ∃ h' w, z = .inl (nI (S - 1), h') ∧ Fr (fun y => y = c 4) h h' ∧ (∀ l, l ≠ S → gI h' (c 4) l = gI h (c 4) l) ∧ gI h' (c 4) S = nI w ∧ w ≤ A S ∧ (∀ r, r < 32 → r &&& S = r → 0 < r → w ≤ A (S - r) + O r) ∧ (w = A S ∨ ∃ r, r < 32 ∧ r &&& S = r ∧ w = A (S - r) + O r)) S (fun p y pp => ?_) (nI S, h) ⟨rfl, Nat.le_refl _, Nat.and_self S, Fr.rfl, fun _ _ => rfl, A S, (EA S (Nat.le_refl _)).1, Nat.le_refl _, fun r h1 h2 h3 => by
        have := (T2a S S32 r h2 h3).1
        omega, Or.inl rfl⟩
    obtain ⟨a1, g⟩ := y
    obtain ⟨p1, p2, p3, p4, p5, w, p6, p7, p8, p9⟩ := pp
    replace p1 : a1 = nI p := p1
    replace p4 : Fr (fun y => y = c 4) h g := p4
    replace p5 : ∀ l, l ≠ S → gI g (c 4) l = gI h (c 4) l := p5
    replace p6 : gI g (c 4) S = nI w := p6
    subst p1
    have Xg := X.fr p4
    by_cases z : p = 0
    · subst z
      refine Or.inl ⟨.inl (nI (S - 1), g), ?_, g, w, rfl, p4, p5, p6, p7, fun r h1 h2 h3 => p8 r h3 h1 h2, p9⟩
      show BX6_shareWithOwn_10 g 68 (nI S) (nI 0) = _
      unfold BX6_shareWithOwn_10
      simp only [ZL]
      rw [if_pos (nI_le (Nat.le_refl _) (by omega)), n_pred S0]
    · have p32 : p < 32 := by omega
      obtain ⟨t1, t2⟩ := T7a S S32 p p32 (by omega) p3
      have sp : S - p < S := by omega
      have eA : gI g (c 4) (S - p) = nI (A (S - p)) := by rw [p5 _ (by omega)]; exact (EA (S - p) (by omega)).1
      have bA := (EA (S - p) (by omega)).2
      have bS := (EA S (Nat.le_refl _)).2
      have eO : gI g (c 3) p = nI (O p) := by rw [p4.2.2.2.2.2.2 _ (pa_n P 3 4 (by omega))]; exact (EO p (by omega)).1
      have bO := (EO p (by omega)).2
      obtain ⟨g1, hg1⟩ : ∃ g1, g1 = sI g (c 4) S (nI (min w (A (S - p) + O p))) := ⟨_, rfl⟩
      have Fg : Fr (fun y => y = c 4) g g1 := by rw [hg1]; exact Fr.sI rfl
      refine Or.inr ⟨(nI ((p - 1) &&& S), g1), (p - 1) &&& S, t2, ⟨rfl, by omega, t1, p4.trans Fg, fun l hl => by show gI g1 (c 4) l = _; rw [hg1, gI_sI, if_pos rfl, up_at, if_neg hl]; exact p5 l hl, min w (A (S - p) + O p), by show gI g1 (c 4) S = _; rw [hg1, gI_sI, if_pos rfl, up_at, if_pos rfl], by omega, fun r h1 h2 h3 => ?_, ?_⟩, ?_⟩
      · by_cases y1 : p < r
        · have := p8 r y1 h2 h3
          omega
        · by_cases y2 : r = p
          · rw [y2]; omega
          · have := T7b S S32 p p32 r h2 ⟨by omega, p3, by omega, h3⟩
            omega
      · by_cases y : w ≤ A (S - p) + O p
        · rw [Nat.min_eq_left y]; exact p9
        · rw [Nat.min_eq_right (by omega)]
          exact Or.inr ⟨p, p32, p3, rfl⟩
      · show BX6_shareWithOwn_10 g 68 (nI S) (nI p) = _
        unfold BX6_shareWithOwn_10
        simp only [ZL]
        rw [if_neg (nI_ge (by omega) (by omega)), gg_t Xg.1, Xg.p, Xg.p, gg_t Xg.2.2.2.2.2.1, Xg.2.2.2.2.2.2, gg_in (by omega) (by omega), T5a S S32 p p32 p3, gg_in (by omega) (by omega), gg_t Xg.2.2.2.2.1.1, Xg.2.2.2.2.1.2, gg_in (by omega) (by omega), nCl (by omega), nCl (by omega), nCl (by omega), p6, eA, eO, nAdd, lmin (by omega) (by omega), lt_eq, ← hg1, nSub (by omega), la_and (by omega) (by omega)]
  obtain ⟨z, y1, h', w, y2, y3⟩ := lp
  refine ⟨h', w, ?_, y3⟩
  unfold MX6_shareWithOwn_10
  rw [y1, y2]
theorem c_share (X : PX h c) (P : PA c) (hn : n ≤ 5) (hL : ∀ i, L i ≤ 40) (hx : xs k ≤ 1800) (hb : bk k = false) (T : OT h c L D (xs k) (2 ^ n)) (U : AT h c L D bk xs k (2 ^ n)) : ∃ h', MX6_shareWithOwn h 68 (nI (2 ^ n)) = some h' ∧ Fr (fun y => y = c 4) h h' ∧ AT h' c L D bk xs (k + 1) (2 ^ n) := by
  have h5 : 2 ^ n ≤ 2 ^ 5 := Nat.pow_le_pow_right (by omega) hn
  have h1 : 1 ≤ 2 ^ n := Nat.one_le_two_pow
  -- the tables as functions
  have aA : ∀ r, r < 2 ^ n → gI h (c 4) r = nI (gI h (c 4) r).toNatClampNeg ∧ AlP L D bk xs k r (gI h (c 4) r).toNatClampNeg := fun r hr => by
    obtain ⟨v, e1, e2⟩ := U r hr
    rw [e1, nCl (by have := e2.1; omega)]
    exact ⟨rfl, e2⟩
  have aO : ∀ r, r < 2 ^ n → gI h (c 3) r = nI (gI h (c 3) r).toNatClampNeg ∧ OwP L D (xs k) r (gI h (c 3) r).toNatClampNeg := fun r hr => by
    obtain ⟨v, e1, e2⟩ := T r hr
    rw [e1, nCl (by have := owP_b hL hx e2; omega)]
    exact ⟨rfl, e2⟩
  obtain ⟨A, hA⟩ : ∃ A : Nat → Nat, ∀ r, A r = (gI h (c 4) r).toNatClampNeg := ⟨_, fun _ => rfl⟩
  obtain ⟨O, hO⟩ : ∃ O : Nat → Nat, ∀ r, O r = (gI h (c 3) r).toNatClampNeg := ⟨_, fun _ => rfl⟩
  have A0 : AlP L D bk xs (k + 1) 0 (A 0) := by
    have a0 := (aA 0 (by omega)).2
    rw [← hA] at a0
    refine ⟨a0.1, fun c hc => ?_, fun hv => ?_⟩
    · obtain ⟨p, q1, q2, c1, c2, d, q3, q4, rfl⟩ := hc
      have pe : p = eS0 := by
        funext j
        cases y : p j with
        | false => rfl
        | true =>
          have := q1 j y
          rw [sB_0] at this
          exact Bool.noConfusion (show false = true from this)
      rw [pe, df_0] at q3
      have := a0.2.1 c1 q3
      omega
    · exact ⟨eS0, fun j hj => Bool.noConfusion (show false = true from hj), fun _ => rfl, A 0, 0, 0, by rw [df_0]; exact a0.2.2 hv, ⟨rfl, rfl⟩, rfl⟩
  have lp : ∃ z, it (fun y : Int32 × Hp => BX6_shareWithOwn_4 y.2 68 y.1) (nI (2 ^ n - 1), h) = some z ∧ Fr (fun y => y = c 4) h z ∧ AT z c L D bk xs (k + 1) (2 ^ n) := by
    refine it_up (P := fun S y => y.1 = nI S ∧ S < 2 ^ n ∧ Fr (fun y => y = c 4) h y.2 ∧ (∀ r, r ≤ S → gI y.2 (c 4) r = gI h (c 4) r) ∧ ∀ r, S < r → r < 2 ^ n → ∃ v, gI y.2 (c 4) r = nI v ∧ AlP L D bk xs (k + 1) r v) (Q := fun z => Fr (fun y => y = c 4) h z ∧ AT z c L D bk xs (k + 1) (2 ^ n)) (2 ^ n - 1) (fun S y pp => ?_) (nI (2 ^ n - 1), h) ⟨rfl, by omega, Fr.rfl, fun _ _ => rfl, fun r h1 h2 => by omega⟩
    obtain ⟨a1, g⟩ := y
    obtain ⟨p1, p2, p3, p4, p5⟩ := pp
    replace p1 : a1 = nI S := p1
    replace p3 : Fr (fun y => y = c 4) h g := p3
    replace p4 : ∀ r, r ≤ S → gI g (c 4) r = gI h (c 4) r := p4
    replace p5 : ∀ r, S < r → r < 2 ^ n → ∃ v, gI g (c 4) r = nI v ∧ AlP L D bk xs (k + 1) r v := p5
    subst p1
    have Xg := X.fr p3
    by_cases z : S = 0
    · subst z
      refine Or.inl ⟨g, ?_, p3, fun r hr => ?_⟩
      · show BX6_shareWithOwn_4 g 68 (nI 0) = _
        unfold BX6_shareWithOwn_4
        simp only [ZL]
        rw [if_pos (nI_le (Nat.le_refl _) (by omega))]
      · by_cases y : r = 0
        · subst y
          exact ⟨A 0, by rw [p4 0 (Nat.le_refl _), hA]; exact (aA 0 (by omega)).1, A0⟩
        · exact p5 r (by omega) hr
    · obtain ⟨g1, w, y1, y2, y3, y4, y5, y6, y7⟩ := c_sh10 (A := A) (O := O) Xg P hn p2 (by omega) (fun r hr => by
        rw [p4 r hr, hA]
        exact ⟨(aA r (by omega)).1, (aA r (by omega)).2.1⟩) (fun r hr => by
        rw [p3.2.2.2.2.2.2 _ (pa_n P 3 4 (by omega)), hO]
        exact ⟨(aO r hr).1, owP_b hL hx (aO r hr).2⟩)
      refine Or.inr ⟨(nI (S - 1), g1), S - 1, by omega, ⟨rfl, by omega, p3.trans y2, fun r hr => by show gI g1 (c 4) r = _; rw [y3 r (by omega)]; exact p4 r (by omega), fun r h1 h2 => ?_⟩, ?_⟩
      · show ∃ v, gI g1 (c 4) r = nI v ∧ AlP L D bk xs (k + 1) r v
        by_cases y : r = S
        · rw [y]
          refine ⟨w, y4, alP_s (A := A) (O := O) (by omega) hb (fun r hr hs => ?_) (fun r hr hs => ?_) y5 y6 y7⟩
          · rw [hA]; exact (aA (S - r) (by omega)).2
          · rw [hO]; exact (aO r (sub_lt p2 hs)).2
        · rw [y3 r y]
          exact p5 r (by omega) h2
      · show BX6_shareWithOwn_4 g 68 (nI S) = _
        unfold BX6_shareWithOwn_4
        simp only [ZL]
        rw [if_neg (nI_ge (by omega) (by omega)), y1]
  obtain ⟨z, y1, y2, y3⟩ := lp
  refine ⟨z, ?_, y2, y3⟩
  unfold MX6_shareWithOwn MX6_shareWithOwn_4
  simp only [ZL]
  rw [nSub h1]
  exact y1
theorem AT.b (hb : bk k = true) (U : AT h c L D bk xs k n) : AT h c L D bk xs (k + 1) n := fun r hr => by
  obtain ⟨v, e1, e2⟩ := U r hr
  exact ⟨v, e1, alP_b hb e2⟩
end
/-! the queue of a machine in lines -/
noncomputable def wyN (m : Nat → Int32) (q : Nat) : Nat := match wyT m q (m 0) 0 with
  | none => 0
  | some v => v.2.1
noncomputable def jlN (m : Nat → Int32) (k j : Nat) : Nat := if m (320230 + 183 * k + 33 + 5 * j + 4) = nI 1 then (if m (130 + 645 * Nn m (320230 + 183 * k + 33 + 5 * j) + 3) = nI 1 then Nn m (130 + 645 * Nn m (320230 + 183 * k + 33 + 5 * j) + 4) - Nn m (320230 + 183 * k + 33 + 5 * j + 1) else wyN m (Nn m (320230 + 183 * k + 33 + 5 * j))) else Nn m (320230 + 183 * k + 33 + 5 * j + 2) - Nn m (320230 + 183 * k + 33 + 5 * j + 1)
noncomputable def qlN (m : Nat → Int32) (k : Nat) : Nat → Nat
  | 0 => 0
  | n + 1 => qlN m k n + jlN m k n
section
variable {tg : Nat → List Nat} {h h' h1 : Hp} {m kk t : Nat → Int32} {ii nn f : Int32} {k j q r x n : Nat}
theorem wy_b (I : MI m) (hq : vP m q) : wyN m q ≤ 40 := by
  have J := I.2.1 q hq
  obtain ⟨-, j40, j1⟩ := J.n
  unfold wyN
  cases e : wyT m q (m 0) 0 with
  | none => exact Nat.zero_le _
  | some v =>
    have := (wyD_b (ps_q (q := q) I.w (m 0)) J (i := 0) (Nat.zero_le _) e).2.1
    show v.2.1 ≤ 40
    omega
theorem jl_b (I : MI m) (hk : k < Nn m 3) (hj : j < Nn m (320230 + 183 * k + 29)) : jlN m k j ≤ 40 := by
  obtain ⟨j1, j2, j3, j4, j5, j6, j7, j8⟩ := (I.2.2.2.1 k hk).2.2.2.2 j hj
  have l40 := ((I.2.1 _ j2).2.2.2.2.2.1.eq (by omega)).2
  have := (j4.eq (by omega)).2
  have := wy_b I j2
  unfold jlN
  split
  · split <;> omega
  · omega
theorem ql_b (I : MI m) (hk : k < Nn m 3) : ∀ n, n ≤ Nn m (320230 + 183 * k + 29) → qlN m k n ≤ 40 * n
  | 0, _ => Nat.le_refl _
  | n + 1, hn => by
    have := ql_b I hk n (by omega)
    have := jl_b I hk (j := n) (by omega)
    unfold qlN
    omega
end
