/-! lines and the best way: numbers alone -/
def wiN (m : Nat → Int32) (q a b : Nat) : Nat := wpN m q (b + 1) - wpN m q a + (if weN m q (b + 1) = weN m q b then hyN m q else 0)
def gaN (m : Nat → Int32) (q a b : Nat) : Nat := weN m q b - weN m q a
def tiN (m : Nat → Int32) (q le a b : Nat) : Nat := wiN m q a b + gaN m q a b * le
/-- a line of the pieces a to b stands -/
def sdB (m : Nat → Int32) (q me le mo a b : Nat) : Bool := decide (tiN m q le a b ≤ me) && (decide (b + 1 = nP m q) || decide (me ≤ wiN m q a b + gaN m q a b * mo))
def bdN (m : Nat → Int32) (q me le co a b : Nat) : Nat := if b + 1 = nP m q then 0 else (me - tiN m q le a b) * (me - tiN m q le a b) + (if weN m q (b + 1) = weN m q b then co else 0)
section
variable {m : Nat → Int32} {q : Nat}
theorem we_le (J : MIp m q) : ∀ k, k ≤ nP m q → weN m q k ≤ 24 ∧ weN m q 0 = 0
  | 0, _ => by
    obtain ⟨n1, n2, n3⟩ := J.n
    have : weN m q 0 = 0 := by
      unfold weN
      rw [if_neg (by omega)]
      exact J.2.2.2.2.2.2.2.1
    exact ⟨by omega, this⟩
  | k + 1, hk => by
    have ih := (we_le J k (by omega)).2
    obtain ⟨e1, e2, e3⟩ := we_s J (k := k) (by omega)
    have b := (J.bt (k := k) (by omega)).2.1
    refine ⟨?_, ih⟩
    by_cases z : ewN m q k
    · rw [e1 z, e3]; omega
    · rw [e2 z, e3]; omega
theorem we_mono (J : MIp m q) {a : Nat} : ∀ d, a + d ≤ nP m q → weN m q a ≤ weN m q (a + d)
  | 0, _ => Nat.le_refl _
  | d + 1, h => by
    have ih := we_mono J (a := a) d (by omega)
    obtain ⟨e1, e2, -⟩ := we_s J (k := a + d) (by omega)
    by_cases z : ewN m q (a + d)
    · have := e1 z
      show weN m q a ≤ weN m q (a + d + 1)
      omega
    · have := e2 z
      show weN m q a ≤ weN m q (a + d + 1)
      omega
theorem wp_mono {a : Nat} : ∀ d, wpN m q a ≤ wpN m q (a + d)
  | 0 => Nat.le_refl _
  | d + 1 => by
    have ih := wp_mono (a := a) d
    show wpN m q a ≤ wpN m q (a + d) + _
    omega
theorem pd_iff (J : MIp m q) {b : Nat} (hb : b < nP m q) : (weN m q (b + 1) = weN m q b) ↔ ¬ ewN m q b := by
  obtain ⟨e1, e2, -⟩ := we_s J hb
  exact ⟨fun z w => by have := e1 w; omega, fun z => e2 z⟩
theorem wi_le (B : MIb m) (hq : vP m q) (J : MIp m q) {a b : Nat} (hb : b < nP m q) : wiN m q a b ≤ 9620 := by
  obtain ⟨n1, n2, n3⟩ := J.n
  have f := (fc_v B hq).2
  have h1 := (wp_le B J f (b + 1) (by omega)).1
  have h2 := wd_v B (f := Nn m (70 + q / 5)) (c := 26) f (by omega)
  unfold wiN hyN
  split <;> omega
theorem ga_le (J : MIp m q) {a b : Nat} (hb : b < nP m q) : gaN m q a b ≤ 24 := by
  have := (we_le J b (by omega)).1
  unfold gaN
  omega
theorem ti_le (B : MIb m) (hq : vP m q) (J : MIp m q) {a b le : Nat} (hb : b < nP m q) (hl : le ≤ 40) : tiN m q le a b ≤ 10580 := by
  have h1 := wi_le B hq J (a := a) hb
  have h2 := ga_le J (a := a) hb
  have h3 : gaN m q a b * le ≤ 24 * 40 := Nat.mul_le_mul h2 hl
  unfold tiN
  omega
theorem bd_le {a b me le co : Nat} (hm : me ≤ 400) (hc : co ≤ 999) : bdN m q me le co a b ≤ 160999 := by
  unfold bdN
  have : (me - tiN m q le a b) * (me - tiN m q le a b) ≤ 400 * 400 := Nat.mul_le_mul (by omega) (by omega)
  split
  · omega
  · split <;> omega
end
/-! the best way from each piece on: of the least badness, then the fewest lines, then the longest first line -/
abbrev BT : Type := Option (Nat × Nat × Nat)
section
variable {S : Nat → Nat → Bool} {c : Nat → Nat → Nat} {T U : Nat → BT} {n i : Nat}
/-- v is the best of the ways from i on whose first line ends ahead of a piece with A -/
def IsB (S : Nat → Nat → Bool) (c : Nat → Nat → Nat) (T : Nat → BT) (i : Nat) (A : Nat → Prop) : BT → Prop
  | none => ∀ j, A j → S i j = true → T j = none
  | some v => A v.2.2 ∧ S i v.2.2 = true ∧ (∃ w, T v.2.2 = some w ∧ v.1 = w.1 + c i v.2.2 ∧ v.2.1 = w.2.1 + 1) ∧ ∀ j, A j → S i j = true → ∀ w, T j = some w → v.1 < w.1 + c i j ∨ (v.1 = w.1 + c i j ∧ (v.2.1 < w.2.1 + 1 ∨ (v.2.1 = w.2.1 + 1 ∧ j ≤ v.2.2)))
theorem IsB.uniq {A : Nat → Prop} : ∀ {v w : BT}, IsB S c T i A v → IsB S c T i A w → v = w
  | none, none, _, _ => rfl
  | none, some w, h1, h2 => by
    obtain ⟨a1, a2, ⟨x, a3, -⟩, -⟩ := h2
    have := h1 _ a1 a2
    rw [a3] at this
    exact absurd this (by simp)
  | some w, none, h2, h1 => by
    obtain ⟨a1, a2, ⟨x, a3, -⟩, -⟩ := h2
    have := h1 _ a1 a2
    rw [a3] at this
    exact absurd this (by simp)
  | some v, some w, h1, h2 => by
    obtain ⟨a1, a2, ⟨x, a3, a4, a5⟩, a6⟩ := h1
    obtain ⟨b1, b2, ⟨y, b3, b4, b5⟩, b6⟩ := h2
    have k1 := a6 _ b1 b2 y b3
    have k2 := b6 _ a1 a2 x a3
    rw [← b4, ← b5] at k1
    rw [← a4, ← a5] at k2
    obtain ⟨v1, v2, v3⟩ := v
    obtain ⟨w1, w2, w3⟩ := w
    have k1 : v1 < w1 ∨ (v1 = w1 ∧ (v2 < w2 ∨ (v2 = w2 ∧ w3 ≤ v3))) := k1
    have k2 : w1 < v1 ∨ (w1 = v1 ∧ (w2 < v2 ∨ (w2 = v2 ∧ v3 ≤ w3))) := k2
    have e1 : v1 = w1 := by omega
    have e2 : v2 = w2 := by omega
    have e3 : v3 = w3 := by omega
    rw [e1, e2, e3]
/-- as the reference does it: from the longest first line down -/
def dpU (S : Nat → Nat → Bool) (c : Nat → Nat → Nat) (T : Nat → BT) (i j : Nat) (cur : BT) : BT := match T j with
  | none => cur
  | some w => if S i j = true then (match cur with
    | none => some (w.1 + c i j, w.2.1 + 1, j)
    | some v => if v.1 < w.1 + c i j ∨ (v.1 = w.1 + c i j ∧ v.2.1 ≤ w.2.1 + 1) then some v else some (w.1 + c i j, w.2.1 + 1, j)) else cur
def dpJ (S : Nat → Nat → Bool) (c : Nat → Nat → Nat) (T : Nat → BT) (n i : Nat) : Nat → BT
  | 0 => none
  | d + 1 => dpU S c T i (n - d) (dpJ S c T n i d)
/-- as the class does it: from the shortest up -/
def dpW (S : Nat → Nat → Bool) (c : Nat → Nat → Nat) (T : Nat → BT) (i j : Nat) (cur : BT) : BT := match T j with
  | none => cur
  | some w => if S i j = true then (match cur with
    | none => some (w.1 + c i j, w.2.1 + 1, j)
    | some v => if w.1 + c i j < v.1 ∨ (w.1 + c i j = v.1 ∧ w.2.1 + 1 ≤ v.2.1) then some (w.1 + c i j, w.2.1 + 1, j) else some v) else cur
def dpA (S : Nat → Nat → Bool) (c : Nat → Nat → Nat) (T : Nat → BT) (i : Nat) : Nat → BT
  | 0 => none
  | d + 1 => dpW S c T i (i + 1 + d) (dpA S c T i d)
theorem dpJ_B : ∀ d, d ≤ n → IsB S c T i (fun j => n - d < j ∧ j ≤ n) (dpJ S c T n i d)
  | 0, _ => fun j hj => absurd hj (by omega)
  | d + 1, hd => by
    have ih := dpJ_B d (by omega)
    show IsB S c T i (fun j => n - (d + 1) < j ∧ j ≤ n) (dpU S c T i (n - d) (dpJ S c T n i d))
    generalize dpJ S c T n i d = cur at ih
    unfold dpU
    have old : ∀ j, (n - (d + 1) < j ∧ j ≤ n) → j = n - d ∨ (n - d < j ∧ j ≤ n) := fun j hj => by omega
    cases ht : T (n - d) with
    | none =>
      show IsB S c T i (fun j => n - (d + 1) < j ∧ j ≤ n) cur
      cases cur with
      | none =>
        intro j hj hs
        rcases old j hj with rfl | hj2
        · exact ht
        · exact ih j hj2 hs
      | some v =>
        obtain ⟨a1, a2, a3, a4⟩ := ih
        refine ⟨⟨by omega, a1.2⟩, a2, a3, fun j hj hs w hw => ?_⟩
        rcases old j hj with rfl | hj2
        · rw [ht] at hw; exact absurd hw (by simp)
        · exact a4 j hj2 hs w hw
    | some w =>
      show IsB S c T i (fun j => n - (d + 1) < j ∧ j ≤ n) (if S i (n - d) = true then _ else cur)
      by_cases hs0 : S i (n - d) = true
      · rw [if_pos hs0]
        cases cur with
        | none =>
          refine ⟨⟨by show n - (d + 1) < n - d; omega, by show n - d ≤ n; omega⟩, hs0, ⟨w, ht, rfl, rfl⟩, fun j hj hs w2 hw => ?_⟩
          rcases old j hj with rfl | hj2
          · rw [ht] at hw
            have hw := Option.some.inj hw
            subst hw
            exact Or.inr ⟨rfl, Or.inr ⟨rfl, Nat.le_refl _⟩⟩
          · have := ih j hj2 hs
            rw [this] at hw
            exact absurd hw (by simp)
        | some v =>
          obtain ⟨a1, a2, a3, a4⟩ := ih
          show IsB S c T i _ (if v.1 < w.1 + c i (n - d) ∨ (v.1 = w.1 + c i (n - d) ∧ v.2.1 ≤ w.2.1 + 1) then some v else some (w.1 + c i (n - d), w.2.1 + 1, n - d))
          by_cases hz : v.1 < w.1 + c i (n - d) ∨ (v.1 = w.1 + c i (n - d) ∧ v.2.1 ≤ w.2.1 + 1)
          · rw [if_pos hz]
            refine ⟨⟨by omega, a1.2⟩, a2, a3, fun j hj hs w2 hw => ?_⟩
            rcases old j hj with rfl | hj2
            · rw [ht] at hw
              have hw := Option.some.inj hw
              subst hw
              omega
            · exact a4 j hj2 hs w2 hw
          · rw [if_neg hz]
            refine ⟨⟨by show n - (d + 1) < n - d; omega, by show n - d ≤ n; omega⟩, hs0, ⟨w, ht, rfl, rfl⟩, fun j hj hs w2 hw => ?_⟩
            rcases old j hj with rfl | hj2
            · rw [ht] at hw
              have hw := Option.some.inj hw
              subst hw
              exact Or.inr ⟨rfl, Or.inr ⟨rfl, Nat.le_refl _⟩⟩
            · have k := a4 j hj2 hs w2 hw
              show w.1 + c i (n - d) < w2.1 + c i j ∨ (w.1 + c i (n - d) = w2.1 + c i j ∧ (w.2.1 + 1 < w2.2.1 + 1 ∨ (w.2.1 + 1 = w2.2.1 + 1 ∧ j ≤ n - d)))
              omega
      · rw [if_neg hs0]
        cases cur with
        | none =>
          intro j hj hs
          rcases old j hj with rfl | hj2
          · exact absurd hs hs0
          · exact ih j hj2 hs
        | some v =>
          obtain ⟨a1, a2, a3, a4⟩ := ih
          refine ⟨⟨by omega, a1.2⟩, a2, a3, fun j hj hs w2 hw => ?_⟩
          rcases old j hj with rfl | hj2
          · exact absurd hs hs0
          · exact a4 j hj2 hs w2 hw
theorem dpA_B : ∀ d, IsB S c T i (fun j => i < j ∧ j ≤ i + d) (dpA S c T i d)
  | 0 => fun j hj => absurd hj (by omega)
  | d + 1 => by
    have ih := dpA_B d
    show IsB S c T i (fun j => i < j ∧ j ≤ i + (d + 1)) (dpW S c T i (i + 1 + d) (dpA S c T i d))
    generalize dpA S c T i d = cur at ih
    unfold dpW
    have old : ∀ j, (i < j ∧ j ≤ i + (d + 1)) → j = i + 1 + d ∨ (i < j ∧ j ≤ i + d) := fun j hj => by omega
    cases ht : T (i + 1 + d) with
    | none =>
      show IsB S c T i (fun j => i < j ∧ j ≤ i + (d + 1)) cur
      cases cur with
      | none =>
        intro j hj hs
        rcases old j hj with rfl | hj2
        · exact ht
        · exact ih j hj2 hs
      | some v =>
        obtain ⟨a1, a2, a3, a4⟩ := ih
        refine ⟨⟨a1.1, by omega⟩, a2, a3, fun j hj hs w hw => ?_⟩
        rcases old j hj with rfl | hj2
        · rw [ht] at hw; exact absurd hw (by simp)
        · exact a4 j hj2 hs w hw
    | some w =>
      show IsB S c T i (fun j => i < j ∧ j ≤ i + (d + 1)) (if S i (i + 1 + d) = true then _ else cur)
      by_cases hs0 : S i (i + 1 + d) = true
      · rw [if_pos hs0]
        cases cur with
        | none =>
          refine ⟨⟨by show i < i + 1 + d; omega, by show i + 1 + d ≤ i + (d + 1); omega⟩, hs0, ⟨w, ht, rfl, rfl⟩, fun j hj hs w2 hw => ?_⟩
          rcases old j hj with rfl | hj2
          · rw [ht] at hw
            have hw := Option.some.inj hw
            subst hw
            exact Or.inr ⟨rfl, Or.inr ⟨rfl, Nat.le_refl _⟩⟩
          · have := ih j hj2 hs
            rw [this] at hw
            exact absurd hw (by simp)
        | some v =>
          obtain ⟨a1, a2, a3, a4⟩ := ih
          show IsB S c T i _ (if w.1 + c i (i + 1 + d) < v.1 ∨ (w.1 + c i (i + 1 + d) = v.1 ∧ w.2.1 + 1 ≤ v.2.1) then some (w.1 + c i (i + 1 + d), w.2.1 + 1, i + 1 + d) else some v)
          by_cases hz : w.1 + c i (i + 1 + d) < v.1 ∨ (w.1 + c i (i + 1 + d) = v.1 ∧ w.2.1 + 1 ≤ v.2.1)
          · rw [if_pos hz]
            refine ⟨⟨by show i < i + 1 + d; omega, by show i + 1 + d ≤ i + (d + 1); omega⟩, hs0, ⟨w, ht, rfl, rfl⟩, fun j hj hs w2 hw => ?_⟩
            rcases old j hj with rfl | hj2
            · rw [ht] at hw
              have hw := Option.some.inj hw
              subst hw
              exact Or.inr ⟨rfl, Or.inr ⟨rfl, Nat.le_refl _⟩⟩
            · have k := a4 j hj2 hs w2 hw
              show w.1 + c i (i + 1 + d) < w2.1 + c i j ∨ (w.1 + c i (i + 1 + d) = w2.1 + c i j ∧ (w.2.1 + 1 < w2.2.1 + 1 ∨ (w.2.1 + 1 = w2.2.1 + 1 ∧ j ≤ i + 1 + d)))
              omega
          · rw [if_neg hz]
            refine ⟨⟨a1.1, by omega⟩, a2, a3, fun j hj hs w2 hw => ?_⟩
            rcases old j hj with rfl | hj2
            · rw [ht] at hw
              have hw := Option.some.inj hw
              subst hw
              omega
            · exact a4 j hj2 hs w2 hw
      · rw [if_neg hs0]
        cases cur with
        | none =>
          intro j hj hs
          rcases old j hj with rfl | hj2
          · exact absurd hs hs0
          · exact ih j hj2 hs
        | some v =>
          obtain ⟨a1, a2, a3, a4⟩ := ih
          refine ⟨⟨a1.1, by omega⟩, a2, a3, fun j hj hs w2 hw => ?_⟩
          rcases old j hj with rfl | hj2
          · exact absurd hs hs0
          · exact a4 j hj2 hs w2 hw
theorem dpA_J (hi : i ≤ n) : dpA S c T i (n - i) = dpJ S c T n i (n - i) := by
  refine IsB.uniq (S := S) (c := c) (T := T) (i := i) (A := fun j => i < j ∧ j ≤ n) ?_ ?_
  · have := dpA_B (S := S) (c := c) (T := T) (i := i) (n - i)
    rw [show i + (n - i) = n by omega] at this
    exact this
  · have := dpJ_B (S := S) (c := c) (T := T) (n := n) (i := i) (n - i) (by omega)
    rw [show n - (n - i) = i by omega] at this
    exact this
theorem dpJ_c : ∀ d, (∀ e, e < d → T (n - e) = U (n - e)) → dpJ S c T n i d = dpJ S c U n i d
  | 0, _ => rfl
  | d + 1, H => by
    show dpU S c T i (n - d) (dpJ S c T n i d) = dpU S c U i (n - d) (dpJ S c U n i d)
    rw [dpJ_c d (fun e he => H e (by omega))]
    unfold dpU
    rw [H d (by omega)]
/-- the table of the last k pieces -/
def dpT (S : Nat → Nat → Bool) (c : Nat → Nat → Nat) (n : Nat) : Nat → Nat → BT
  | 0 => fun i => if i = n then some (0, 0, 0) else none
  | k + 1 => fun i => if i + (k + 1) = n then dpJ S c (dpT S c n k) n i (k + 1) else dpT S c n k i
theorem dpT_s : ∀ d k j, k + d ≤ n → n ≤ j + k → dpT S c n (k + d) j = dpT S c n k j
  | 0, _, _, _, _ => rfl
  | d + 1, k, j, h1, h2 => by
    show (if j + (k + d + 1) = n then _ else dpT S c n (k + d) j) = _
    rw [if_neg (by omega)]
    exact dpT_s d k j (by omega) h2
def dpv (S : Nat → Nat → Bool) (c : Nat → Nat → Nat) (n i : Nat) : BT := dpT S c n n i
theorem dpv_n : dpv S c n n = some (0, 0, 0) := by
  unfold dpv
  have := dpT_s (S := S) (c := c) (n := n) n 0 n (by omega) (by omega)
  rw [Nat.zero_add] at this
  rw [this]
  exact if_pos rfl
theorem dpv_i (hi : i < n) : dpv S c n i = dpJ S c (dpv S c n) n i (n - i) := by
  unfold dpv
  obtain ⟨k, hk⟩ : ∃ k, n = i + (k + 1) := ⟨n - i - 1, by omega⟩
  have e1 := dpT_s (S := S) (c := c) (n := n) i (k + 1) i (by omega) (by omega)
  rw [show k + 1 + i = n by omega] at e1
  rw [e1]
  show (if i + (k + 1) = n then dpJ S c (dpT S c n k) n i (k + 1) else _) = _
  rw [if_pos hk.symm, show n - i = k + 1 by omega]
  refine dpJ_c _ (fun e he => ?_)
  have := dpT_s (S := S) (c := c) (n := n) (i + 1) k (n - e) (by omega) (by omega)
  rw [show k + (i + 1) = n by omega] at this
  exact this.symm
theorem dpv_A (hi : i < n) : dpv S c n i = dpA S c (dpv S c n) i (n - i) := by rw [dpv_i hi, dpA_J (by omega)]
/-- what a best way is like -/
theorem dpv_b (hn : n ≤ 40) (hc : ∀ a b, c a b ≤ 160999) : ∀ d i, i + d = n → ∀ v, dpv S c n i = some v → v.1 ≤ 160999 * d ∧ v.2.1 ≤ d ∧ (i < n → i < v.2.2 ∧ v.2.2 ≤ n ∧ S i v.2.2 = true ∧ 1 ≤ v.2.1 ∧ ∃ w, dpv S c n v.2.2 = some w ∧ v.1 = w.1 + c i v.2.2 ∧ v.2.1 = w.2.1 + 1) := by
  intro d
  induction d using Nat.strongRecOn with
  | ind d ih =>
    intro i hi v hv
    by_cases z : i = n
    · subst z
      rw [dpv_n] at hv
      have hv := Option.some.inj hv
      subst hv
      exact ⟨Nat.zero_le _, Nat.zero_le _, fun h => absurd h (by omega)⟩
    · have hB := dpJ_B (S := S) (c := c) (T := dpv S c n) (n := n) (i := i) (n - i) (by omega)
      rw [← dpv_i (by omega), hv] at hB
      obtain ⟨⟨a1, a1'⟩, a2, ⟨w, a3, a4, a5⟩, -⟩ := hB
      have a1 : n - (n - i) < v.2.2 := a1
      have a1' : v.2.2 ≤ n := a1'
      obtain ⟨b1, b2, -⟩ := ih (n - v.2.2) (by omega) v.2.2 (by omega) w a3
      have := hc i v.2.2
      exact ⟨by omega, by omega, fun _ => ⟨by omega, a1', a2, by omega, w, a3, a4, a5⟩⟩
end
