/-! a page is made up: its slugs in order; the class lays them -/
def plL (m : Nat → Int32) (q : Nat) : Nat → List Int32
  | 0 => []
  | n + 1 => plL m q n ++ [m (130 + 645 * q + 45 + n) - nI 1]
def stL (m : Nat → Int32) (s : Nat) : Nat → List Int32
  | 0 => []
  | n + 1 => stL m s n ++ plL m (5 * s + n) (Nn m (130 + 645 * (5 * s + n) + 4))
def coL (m : Nat → Int32) (a : Nat) (b : Bst) (c : Nat) : Nat → List Int32
  | 0 => []
  | n + 1 => coL m a b c n ++ (if b.2.1 n = c then stL m (fS m a n) (b.2.2 n) else [])
def pgL (m : Nat → Int32) (a : Nat) (b : Bst) : Nat → List Int32
  | 0 => []
  | n + 1 => pgL m a b n ++ coL m a b n (fN m a)
theorem plL_len {m : Nat → Int32} {q : Nat} : ∀ n, (plL m q n).length = n
  | 0 => rfl
  | n + 1 => by
    unfold plL
    rw [List.length_append, plL_len n]
    rfl
theorem stL_len {m : Nat → Int32} {s : Nat} : ∀ n, (stL m s n).length = lnS m s n
  | 0 => rfl
  | n + 1 => by
    unfold stL lnS
    rw [List.length_append, stL_len n, plL_len]
theorem coL_len {m : Nat → Int32} {a c : Nat} {b : Bst} : ∀ n, (coL m a b c n).length = clN (fL m a) b.2.1 b.2.2 c n
  | 0 => rfl
  | n + 1 => by
    unfold coL clN
    rw [List.length_append, coL_len n]
    by_cases z : b.2.1 n = c
    · rw [if_pos z, if_pos z, stL_len]
      rfl
    · rw [if_neg z, if_neg z]
      rfl
theorem pgL_len {m : Nat → Int32} {a X : Nat} {b : Bst} (h : ∀ c, clN (fL m a) b.2.1 b.2.2 c (fN m a) ≤ X) : ∀ n, (pgL m a b n).length ≤ X * n
  | 0 => Nat.zero_le _
  | n + 1 => by
    have h1 := pgL_len h n
    have h2 := h n
    unfold pgL
    rw [List.length_append, coL_len, Nat.mul_succ]
    omega
/-- columns that nobody is in -/
theorem coL_no {m : Nat → Int32} {a c : Nat} {b : Bst} : ∀ n, (∀ j, j < n → b.2.1 j ≠ c) → coL m a b c n = []
  | 0, _ => rfl
  | n + 1, H => by
    unfold coL
    rw [coL_no n (fun j hj => H j (by omega)), if_neg (H n (by omega))]
    rfl
theorem pgL_up {m : Nat → Int32} {a Cc : Nat} {b : Bst} (H : ∀ j, j < fN m a → b.2.1 j < Cc) : ∀ d, pgL m a b (Cc + d) = pgL m a b Cc
  | 0 => rfl
  | d + 1 => by
    have e : pgL m a b (Cc + (d + 1)) = pgL m a b (Cc + d) ++ coL m a b (Cc + d) (fN m a) := rfl
    rw [e, pgL_up H d, coL_no _ (fun j hj => by have := H j hj; omega), List.append_nil]
def gD (W : List Int32) (l : Nat) : Int32 := W.getD l 0
theorem gD_lt {W U : List Int32} {l : Nat} (h : l < W.length) : gD (W ++ U) l = gD W l := by
  unfold gD
  rw [List.getD_eq_getElem?_getD, List.getD_eq_getElem?_getD, List.getElem?_append_left h]
theorem gD_eq {W : List Int32} {v : Int32} : gD (W ++ [v]) W.length = v := by
  unfold gD
  rw [List.getD_eq_getElem?_getD, List.getElem?_append_right (Nat.le_refl _), Nat.sub_self]
  rfl
theorem gD_up {W : List Int32} {v : Int32} {l : Nat} (h : l < W.length + 1) : va_up (gD W) W.length v l = gD (W ++ [v]) l := by
  rw [up_at]
  by_cases z : l = W.length
  · rw [if_pos z, z, gD_eq]
  · rw [if_neg z, gD_lt (by omega)]
/-- where the laying begins -/
def LB (tg : Nat → List Nat) (h : Hp) (c : Nat → Nat) (m : Nat → Int32) (p a : Nat) : Prop := Own tg h ∧ XS h ∧ 109 ≤ sz h ∧ RmS h 19 ∧ RmV h 19 m ∧ DkS h 48 ∧ FX h c ∧ CF h c m p a
/-- W is laid on page p -/
def LK (tg0 : Nat → List Nat) (h0 : Hp) (tg : Nat → List Nat) (h : Hp) (p : Nat) (W : List Int32) : Prop := Dy tg0 h0 tg h 48 6 ∧ Dx tg0 h0 h 48 6 p ∧ RC h 48 p W.length (gD W)
section
variable {tg0 tg tg1 : Nat → List Nat} {h0 h h1 : Hp} {m : Nat → Int32} {a p q s n K : Nat} {c : Nat → Nat} {W : List Int32} {v : Int32} {b : Bst}
theorem lk_a (B : LB tg0 h0 c m p a) (L : LK tg0 h0 tg h p W) : RmS h 19 ∧ RmV h 19 m ∧ FX h c ∧ CF h c m p a ∧ kd h 1 = 10 ∧ gP h 1 = gP h0 1 ∧ Rt tg h 48 6 ∧ 109 ≤ sz h ∧ DkS h 48 ∧ gP h 48 = gP h0 48 := by
  obtain ⟨O, Y, h9, S, V, D, X, C⟩ := B
  obtain ⟨⟨r1, r2, r3, r4⟩, -, -⟩ := L
  obtain ⟨t1, t2, t3, t4, t5, t13, t19, t48, t59, t68⟩ := tgs O Y
  have s19 := rx_sm3 r1 (⟨O, t3, t19, by omega, by omega⟩ : Rt tg0 h0 19 5) (by omega) (by omega : ¬ 5 = 6)
  have s59 : sm h0 h 59 := rx_sm r1 (by omega) (Or.inr (by rw [t59]; exact nsx (W := fun z => z = 6) (y := 7) (by omega) (List.suffix_refl _)))
  have sk : ∀ k, sm h0 h (c k) := fun k => by
    have e : c k = gP h0 59 k := (X.p k).symm
    rw [e]
    refine rx_sm r1 (O.2.2.2.2.2 59 k) ?_
    by_cases z : gP h0 59 k = 0
    · exact Or.inl z
    · exact Or.inr (by rw [tgc O z (by omega), t59]; exact nsx (W := fun z => z = 6) (y := 7) (by omega) (List.suffix_append [k] [7]))
  have sz := r1.2.1
  refine ⟨S.congr s19, V.congr s19, ⟨by rw [s59.1]; exact X.1, by rw [s59.2.2.2]; exact X.2.1, fun k h1 h2 => by rw [(sk k).1, (sk k).2.1]; exact X.2.2 k h1 h2⟩, ?_, by rw [(r1.2.2.1 1 (by omega)).2.1]; exact Y.1, rx_g1 r1 O h9, r1.rt ⟨O, t3, t48, by omega, by omega⟩ (by omega) h9, by omega, r3, r4⟩
  unfold CF FB
  rw [s59.2.2.1, (sk 3).2.2.1, (sk 4).2.2.1, (sk 2).2.2.1]
  exact C
theorem lk_add (B : LB tg0 h0 c m p a) (hp : p < 6) (L : LK tg0 h0 tg h p W) (hW : W.length < 180) : ∃ tg1 h1, MX2_addSlug h 48 (nI p) v = some h1 ∧ LK tg0 h0 tg1 h1 p (W ++ [v]) := by
  obtain ⟨-, -, -, -, -, -, K48, h9, D, e48⟩ := lk_a B L
  obtain ⟨L1, L2, L3⟩ := L
  obtain ⟨tg1, h1, y1, y2, y3, y4⟩ := c_addSlug (v := v) K48 (by omega) h9 D (by omega) hW L3
  refine ⟨tg1, h1, y1, L1.trans y2, L2.trans y3 L1.1.2.1 (fun x hx => (L1.1.2.2.1 x hx).1) e48, ?_⟩
  rw [show (W ++ [v]).length = W.length + 1 by rw [List.length_append]; rfl]
  exact y4.cg (fun l hl => gD_up hl)
/-- the lines of a part -/
theorem c_layPart (B : LB tg0 h0 c m p a) (I : MI m) (hp : p < 6) (L : LK tg0 h0 tg h p W) (hq : vP m q) (es : m (130 + 645 * q + 3) = nI 1) (hW : W.length + Nn m (130 + 645 * q + 4) ≤ 180) : ∃ tg1 h1, MX2_layPart h 48 (nI p) (gP (h) (gP h 19 5) q) = some h1 ∧ LK tg0 h0 tg1 h1 p (W ++ plL m q (Nn m (130 + 645 * q + 4))) := by
  have l40 := ((I.2.1 q hq).2.2.2.2.2.1.eq (by omega))
  obtain ⟨X, hX⟩ : ∃ X, X = gP h (gP h 19 5) q := ⟨_, rfl⟩
  -- the part at a later state
  have at' : ∀ tg' g U, LK tg0 h0 tg' g p U → gP g (gP g 19 5) q = X ∧ PtS g X ∧ PtV g X m q := fun tg' g U Lg => by
    obtain ⟨S', V', -⟩ := lk_a B Lg
    obtain ⟨Cc, c0, c1, c2, c3, c4⟩ := c_findPart_t S' V' I.1 hq
    have e : gP g (gP g 19 5) q = X := by
      obtain ⟨O, Y, h9, S, V, -⟩ := B
      obtain ⟨t1, t2, t3, t4, t5, t13, t19, t48, t59, t68⟩ := tgs O Y
      have s1 := rx_sm3 Lg.1.1 (⟨O, t3, t19, by omega, by omega⟩ : Rt tg0 h0 19 5) (by omega) (by omega : ¬ 5 = 6)
      have s2 := rx_sm3 L.1.1 (⟨O, t3, t19, by omega, by omega⟩ : Rt tg0 h0 19 5) (by omega) (by omega : ¬ 5 = 6)
      rw [hX, s1.1.2.2.2, s2.1.2.2.2, (s1.2.1 5).2.2.2, (s2.2.1 5).2.2.2]
    rw [c0, e] at c3 c4
    exact ⟨e, c3, c4⟩
  have lp : ∃ z, it (fun x : Int32 × Hp => BX2_layPart_2 x.2 48 (nI p) X x.1) (nI 0, h) = some z ∧ ∃ tg1, LK tg0 h0 tg1 z p (W ++ plL m q (Nn m (130 + 645 * q + 4))) := by
    refine it_cnt (fun j x => x.1 = nI j ∧ ∃ tg1, LK tg0 h0 tg1 x.2 p (W ++ plL m q j)) (Nn m (130 + 645 * q + 4)) (fun j x hj pp => ?_) (fun x pp => ?_) ⟨rfl, tg, by unfold plL; rw [List.append_nil]; exact L⟩
    · obtain ⟨w, g⟩ := x
      obtain ⟨y1, tg1, y2⟩ := pp
      replace y1 : w = nI j := y1
      replace y2 : LK tg0 h0 tg1 g p (W ++ plL m q j) := y2
      subst y1
      obtain ⟨e, c3, c4⟩ := at' _ _ _ y2
      obtain ⟨-, -, -, -, -, -, K48, h9, D, e48⟩ := lk_a B y2
      have c9 : gI g X 9 = nI (Nn m (130 + 645 * q + 4)) := by rw [c4.2.2.2.2.2.2.2.1, if_pos es]; exact l40.1
      have cv := (c4.2.2.2.2.2.2.2.2 es j hj).2
      obtain ⟨tg2, g2, z1, z2⟩ := lk_add (v := m (130 + 645 * q + 45 + j) - nI 1) B hp y2 (by rw [List.length_append, plL_len]; omega)
      refine ⟨(nI (j + 1), g2), ?_, rfl, tg2, ?_⟩
      · show BX2_layPart_2 g 48 (nI p) X (nI j) = _
        unfold BX2_layPart_2
        simp only [ZL]
        rw [gg_t c3.1, c9, if_neg (nI_ge hj (by omega)), gg_t c3.2.2.2.2.2.1.2.1, c3.2.2.2.2.2.1.2.2, gg_in (by omega) (by omega), nCl (by omega), cv, gg_t D.1, z1, ob_some, nAdd]
      · show LK tg0 h0 tg2 g2 p (W ++ plL m q (j + 1))
        unfold plL
        rw [← List.append_assoc]
        exact z2
    · obtain ⟨w, g⟩ := x
      obtain ⟨y1, tg1, y2⟩ := pp
      replace y1 : w = nI (Nn m (130 + 645 * q + 4)) := y1
      subst y1
      obtain ⟨e, c3, c4⟩ := at' _ _ _ y2
      have c9 : gI g X 9 = nI (Nn m (130 + 645 * q + 4)) := by rw [c4.2.2.2.2.2.2.2.1, if_pos es]; exact l40.1
      refine ⟨g, ?_, tg1, y2⟩
      show BX2_layPart_2 g 48 (nI p) X (nI (Nn m (130 + 645 * q + 4))) = _
      unfold BX2_layPart_2
      rw [gg_t c3.1, c9, if_pos (nI_le (Nat.le_refl _) (by omega))]
  obtain ⟨z, y1, tg1, y2⟩ := lp
  refine ⟨tg1, z, ?_, y2⟩
  rw [← hX]
  unfold MX2_layPart MX2_layPart_2
  simp only [ZL]
  exact y1
theorem LB.p7 (B : LB tg0 h0 c m p a) : gP h0 1 5 = 19 ∧ gP h0 1 6 = 48 ∧ gP h0 1 7 = 59 := ⟨X5 B.2.1, X6 B.2.1, X7 B.2.1⟩
/-- the first K parts of a story -/
theorem c_laySt (B : LB tg0 h0 c m p a) (I : MI m) (hp : p < 6) (L : LK tg0 h0 tg h p W) (hs : s < Nn m 1) (hK : K ≤ Nn m (110 + s)) (es : ∀ k, k < K → m (130 + 645 * (5 * s + k) + 3) = nI 1) (hW : W.length + lnS m s K ≤ 180) : ∃ tg1 h1, MX11_layStory h 1 (nI p) (nI s) (nI K) = some h1 ∧ LK tg0 h0 tg1 h1 p (W ++ stL m s K) := by
  have f1 := I.1.f.2.1.2
  have s5 := (I.1.2.2.2.2.2.2.2.2.2 s hs).2.2.1.eq (by omega)
  obtain ⟨g5, g6, g7⟩ := B.p7
  have lm : ∀ d j, j + d = K → lnS m s j ≤ lnS m s K := fun d => by
    induction d with
    | zero => intro j e; rw [show j = K by omega]; exact Nat.le_refl _
    | succ d ih =>
      intro j e
      have := ih (j + 1) (by omega)
      have e2 : lnS m s (j + 1) = lnS m s j + Nn m (130 + 645 * (5 * s + j) + 4) := rfl
      omega
  have lp : ∃ z, it (fun x : Int32 × Hp => BX11_layStory_3 x.2 1 (nI p) (nI s) (nI K) x.1) (nI 0, h) = some z ∧ ∃ tg1, LK tg0 h0 tg1 z p (W ++ stL m s K) := by
    refine it_cnt (fun j x => x.1 = nI j ∧ ∃ tg1, LK tg0 h0 tg1 x.2 p (W ++ stL m s j)) K (fun j x hj pp => ?_) (fun x pp => ?_) ⟨rfl, tg, by unfold stL; rw [List.append_nil]; exact L⟩
    · obtain ⟨w, g⟩ := x
      obtain ⟨y1, tg1, y2⟩ := pp
      replace y1 : w = nI j := y1
      replace y2 : LK tg0 h0 tg1 g p (W ++ stL m s j) := y2
      subst y1
      obtain ⟨S', V', -, -, k1, e1, -, -, D', -⟩ := lk_a B y2
      obtain ⟨vq, -⟩ := ln_p I hs (n := j) (by omega)
      obtain ⟨Cc, c0, c1, c2, c3, c4⟩ := c_findPart_t S' V' I.1 vq
      have := lm (K - (j + 1)) (j + 1) (by omega)
      have e2 : lnS m s (j + 1) = lnS m s j + Nn m (130 + 645 * (5 * s + j) + 4) := rfl
      obtain ⟨tg2, g2, z1, z2⟩ := c_layPart B I hp y2 vq (es j hj) (by rw [List.length_append, stL_len]; omega)
      rw [← c0] at z1
      refine ⟨(nI (j + 1), g2), ?_, rfl, tg2, ?_⟩
      · show BX11_layStory_3 g 1 (nI p) (nI s) (nI K) (nI j) = _
        unfold BX11_layStory_3
        simp only [ZL]
        rw [if_neg (nI_ge hj (by omega)), gg_t k1, e1, g5, gg_t S'.1, nMul, nAdd, c1, ob_some, if_neg c2, g6, gg_t D'.1, z1, ob_some, nAdd]
      · show LK tg0 h0 tg2 g2 p (W ++ stL m s (j + 1))
        unfold stL
        rw [← List.append_assoc]
        exact z2
    · obtain ⟨w, g⟩ := x
      obtain ⟨y1, tg1, y2⟩ := pp
      replace y1 : w = nI K := y1
      subst y1
      refine ⟨g, ?_, tg1, y2⟩
      show BX11_layStory_3 g 1 (nI p) (nI s) (nI K) (nI K) = _
      unfold BX11_layStory_3
      rw [if_pos (nI_le (Nat.le_refl _) (by omega))]
  obtain ⟨z, y1, tg1, y2⟩ := lp
  refine ⟨tg1, z, ?_, y2⟩
  unfold MX11_layStory MX11_layStory_3
  simp only [ZL]
  exact y1
/-- all stories of the set are set -/
def alS (m : Nat → Int32) (a : Nat) : Prop := ∀ s, s < Nn m 1 → btN a s = 1 → ∀ k, k < Nn m (110 + s) → m (130 + 645 * (5 * s + k) + 3) = nI 1
theorem alS_of (I : MI m) (H : ∀ s, s < Nn m 1 → stB m a s = true) : alS m a := fun s hs hb k hk => by
  have h0 := stB_i (H s hs) hb k hk
  obtain ⟨vq, -⟩ := ln_p I hs hk
  obtain ⟨x, hx, e⟩ := (I.2.1 _ vq).2.2.2.2.1
  have : x = 0 ∨ x = 1 := by omega
  rcases this with y | y
  · exact absurd (by rw [e, y]) h0
  · rw [e, y]
theorem c_lock62 {x : Nat} (B : LB tg0 h0 c m p a) (I : MI m) (hp : p < 6) (hN : fN m a ≤ 4) (A : alS m a) (b0 : (fitB m p a).1 ≠ 0) (hx : x < 3) (L : LK tg0 h0 tg h p (pgL m a (fitB m p a) x)) : ∃ tg1 h1, MX11_lock_62 h 1 (nI p) (nI p) (nI x) (nI 0) = some (.inl (nI (x + 1), h1)) ∧ LK tg0 h0 tg1 h1 p (pgL m a (fitB m p a) (x + 1)) := by
  obtain ⟨q1, q2⟩ := fit_q m p a b0
  obtain ⟨-, b2, -, b4⟩ := pg_b I hp
  have f1 := I.1.f.2.1.2
  have pl := pgL_len (m := m) (a := a) (b := fitB m p a) q2 x
  have pl3 : (pgL m a (fitB m p a) x).length ≤ 120 := by
    have : Nn m (327382 + 185 * p + 1) * x ≤ 60 * 2 := Nat.mul_le_mul b4 (by omega)
    omega
  have cm : ∀ d j, j + d = fN m a → clN (fL m a) (fitB m p a).2.1 (fitB m p a).2.2 x j ≤ 60 := fun d => by
    induction d with
    | zero => intro j e; have := q2 x; rw [show j = fN m a by omega]; omega
    | succ d ih =>
      intro j e
      have := ih (j + 1) (by omega)
      have e2 : clN (fL m a) (fitB m p a).2.1 (fitB m p a).2.2 x (j + 1) = clN (fL m a) (fitB m p a).2.1 (fitB m p a).2.2 x j + (if (fitB m p a).2.1 j = x then fL m a j ((fitB m p a).2.2 j) else 0) := rfl
      omega
  obtain ⟨g5, g6, g7⟩ := B.p7
  have lp : ∃ z, it (fun y : Int32 × Hp => BX11_lock_62 y.2 1 (nI p) (nI p) (nI x) y.1) (nI 0, h) = some z ∧ ∃ tg1 h1, z = .inl (nI (x + 1), h1) ∧ LK tg0 h0 tg1 h1 p (pgL m a (fitB m p a) (x + 1)) := by
    refine it_cnt (fun j y => y.1 = nI j ∧ ∃ tg1, LK tg0 h0 tg1 y.2 p (pgL m a (fitB m p a) x ++ coL m a (fitB m p a) x j)) (fN m a) (fun j y hj pp => ?_) (fun y pp => ?_) ⟨rfl, tg, by unfold coL; rw [List.append_nil]; exact L⟩
    · obtain ⟨w, g⟩ := y
      obtain ⟨y1, tg1, y2⟩ := pp
      replace y1 : w = nI j := y1
      replace y2 : LK tg0 h0 tg1 g p (pgL m a (fitB m p a) x ++ coL m a (fitB m p a) x j) := y2
      subst y1
      obtain ⟨S', V', X', C', k1, e1, -, -, D', -⟩ := lk_a B y2
      obtain ⟨v1, v2⟩ := C'.1.2.2 b0 j hj
      obtain ⟨q3, q4, q5⟩ := q1 j hj
      obtain ⟨hs, hb⟩ := fS_in hj
      have s5 := ((I.1.2.2.2.2.2.2.2.2.2 _ hs).2.2.1.eq (by omega)).2
      have head : BX11_lock_62 g 1 (nI p) (nI p) (nI x) (nI j) = if (fitB m p a).2.1 j = x then Option.bind (MX11_layStory g 1 (nI p) (nI (fS m a j)) (nI ((fitB m p a).2.2 j))) fun (h57 : Hp) => some (.inl (nI (j + 1), h57)) else some (.inl (nI (j + 1), g)) := by
        unfold BX11_lock_62
        simp only [ZL]
        rw [gg_t k1, e1, g7, gg_t X'.1, C'.2.1, if_neg (nI_ge hj (by omega)), X'.p, X'.p, X'.p, gg_t (X'.k 3 (by omega) (by omega)), X'.l 3 (by omega) (by omega) (by omega), gg_in (by omega) (by omega), nCl (by omega), v1, gg_t (X'.k 2 (by omega) (by omega)), X'.l 2 (by omega) (by omega) (by omega), gg_in (by omega) (by omega), gg_t (X'.k 4 (by omega) (by omega)), X'.l 4 (by omega) (by omega) (by omega), gg_in (by omega) (by omega), C'.2.2 j hj, v2, nAdd]
        by_cases z : (fitB m p a).2.1 j = x
        · rw [if_pos (by rw [z]), if_pos z]
        · rw [if_neg (by rw [nEq (by omega) (by omega)]; exact z), if_neg z]
      have e2 : coL m a (fitB m p a) x (j + 1) = coL m a (fitB m p a) x j ++ (if (fitB m p a).2.1 j = x then stL m (fS m a j) ((fitB m p a).2.2 j) else []) := rfl
      by_cases z : (fitB m p a).2.1 j = x
      · have l1 := cm (fN m a - (j + 1)) (j + 1) (by omega)
        have e3 : clN (fL m a) (fitB m p a).2.1 (fitB m p a).2.2 x (j + 1) = clN (fL m a) (fitB m p a).2.1 (fitB m p a).2.2 x j + (if (fitB m p a).2.1 j = x then fL m a j ((fitB m p a).2.2 j) else 0) := rfl
        rw [if_pos z] at e3
        have e4 : fL m a j ((fitB m p a).2.2 j) = lnS m (fS m a j) ((fitB m p a).2.2 j) := rfl
        obtain ⟨tg2, g2, z1, z2⟩ := c_laySt B I hp y2 hs q5 (fun k hk => A _ hs hb k (by have : (fitB m p a).2.2 j ≤ Nn m (110 + fS m a j) := q5; omega)) (by rw [List.length_append, coL_len]; omega)
        refine ⟨(nI (j + 1), g2), ?_, rfl, tg2, ?_⟩
        · show BX11_lock_62 g 1 (nI p) (nI p) (nI x) (nI j) = _
          rw [head, if_pos z, z1, ob_some]
        · show LK tg0 h0 tg2 g2 p (pgL m a (fitB m p a) x ++ coL m a (fitB m p a) x (j + 1))
          rw [e2, if_pos z, ← List.append_assoc]
          exact z2
      · refine ⟨(nI (j + 1), g), ?_, rfl, tg1, ?_⟩
        · show BX11_lock_62 g 1 (nI p) (nI p) (nI x) (nI j) = _
          rw [head, if_neg z]
        · show LK tg0 h0 tg1 g p (pgL m a (fitB m p a) x ++ coL m a (fitB m p a) x (j + 1))
          rw [e2, if_neg z, List.append_nil]
          exact y2
    · obtain ⟨w, g⟩ := y
      obtain ⟨y1, tg1, y2⟩ := pp
      replace y1 : w = nI (fN m a) := y1
      replace y2 : LK tg0 h0 tg1 g p (pgL m a (fitB m p a) x ++ coL m a (fitB m p a) x (fN m a)) := y2
      subst y1
      obtain ⟨S', V', X', C', k1, e1, -, -, D', -⟩ := lk_a B y2
      refine ⟨.inl (nI (x + 1), g), ?_, tg1, g, rfl, y2⟩
      show BX11_lock_62 g 1 (nI p) (nI p) (nI x) (nI (fN m a)) = _
      unfold BX11_lock_62
      simp only [ZL]
      rw [gg_t k1, e1, g7, gg_t X'.1, C'.2.1, if_pos (nI_le (Nat.le_refl _) (by omega)), nAdd]
  obtain ⟨z, y1, tg1, h1, rfl, y2⟩ := lp
  exact ⟨tg1, h1, y1, y2⟩
end
