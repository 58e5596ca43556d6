/-! plans: orders on one machine, shares of machines, orders of all -/
abbrev St : Type := Nat → Bool
def eS0 : St := fun _ => false
def upB (s : St) (i : Nat) (b : Bool) : St := fun j => if j = i then b else s j
def dfB (s p : St) : St := fun j => s j && !p j
theorem upB_s {s : St} {i : Nat} {b : Bool} (h : s i = b) : upB s i b = s := by
  funext j
  unfold upB
  by_cases z : j = i
  · rw [if_pos z, z, h]
  · rw [if_neg z]
theorem upB_u {s : St} {i : Nat} {b c : Bool} : upB (upB s i b) i c = upB s i c := by
  funext j
  unfold upB
  by_cases z : j = i
  · rw [if_pos z, if_pos z]
  · rw [if_neg z, if_neg z, if_neg z]
theorem upB_c {s : St} {i j : Nat} {b c : Bool} (h : i ≠ j) : upB (upB s i b) j c = upB (upB s j c) i b := by
  funext l
  unfold upB
  by_cases z : l = i
  · rw [if_pos z, if_neg (by omega), if_pos z]
  · rw [if_neg z, if_neg z]
theorem upB_i {s : St} {i : Nat} {b : Bool} : upB s i b i = b := if_pos rfl
theorem upB_n {s : St} {i j : Nat} {b : Bool} (h : j ≠ i) : upB s i b j = s j := if_neg h
section
variable (L D : Nat → Nat) (bk : Nat → Bool)
/-- lines of a set of at most five -/
def bsB (s : St) : Nat := (if s 0 = true then L 0 else 0) + (if s 1 = true then L 1 else 0) + (if s 2 = true then L 2 else 0) + (if s 3 = true then L 3 else 0) + (if s 4 = true then L 4 else 0)
/-- costs of orders on one machine that is free from x on: by the last, by the first -/
def OwB : Nat → Nat → St → Nat → Prop
  | 0, _, s, c => s = eS0 ∧ c = 0
  | d + 1, x, s, c => ∃ i, i < 5 ∧ s i = true ∧ ∃ c', OwB d x (upB s i false) c' ∧ c = c' + (x + bsB L s - D i)
def OwF : Nat → Nat → St → Nat → Prop
  | 0, _, s, c => s = eS0 ∧ c = 0
  | d + 1, x, s, c => ∃ i, i < 5 ∧ s i = true ∧ ∃ c', OwF d (x + L i) (upB s i false) c' ∧ c = (x + L i - D i) + c'
/-- costs of shares among the first k machines -/
def AlB (xs : Nat → Nat) : Nat → St → Nat → Prop
  | 0, s, c => s = eS0 ∧ c = 0
  | k + 1, s, c => ∃ p : St, (∀ j, p j = true → s j = true) ∧ (bk k = true → p = eS0) ∧ ∃ c1 c2 d, AlB xs k (dfB s p) c1 ∧ OwB L D d (xs k) p c2 ∧ c = c1 + c2
/-- costs of orders of all among the first k machines -/
def RfB (k : Nat) : Nat → (Nat → Nat) → St → Nat → Prop
  | 0, _, s, c => s = eS0 ∧ c = 0
  | d + 1, xs, s, c => ∃ i, i < 5 ∧ s i = true ∧ ∃ q, q < k ∧ bk q = false ∧ ∃ c', RfB k d (upN xs q (xs q + L i)) (upB s i false) c' ∧ c = (xs q + L i - D i) + c'
end
section
variable {L D : Nat → Nat} {bk : Nat → Bool} {xs ys : Nat → Nat} {s p : St} {x c d i j k q : Nat}
theorem bsB_u {b : Bool} (hi : i < 5) : bsB L (upB s i b) + (if s i = true then L i else 0) = bsB L s + (if b = true then L i else 0) := by
  have : i = 0 ∨ i = 1 ∨ i = 2 ∨ i = 3 ∨ i = 4 := by omega
  rcases this with rfl | rfl | rfl | rfl | rfl
  · unfold bsB; rw [upB_i, upB_n (j := 1) (by omega), upB_n (j := 2) (by omega), upB_n (j := 3) (by omega), upB_n (j := 4) (by omega)]; omega
  · unfold bsB; rw [upB_i, upB_n (j := 0) (by omega), upB_n (j := 2) (by omega), upB_n (j := 3) (by omega), upB_n (j := 4) (by omega)]; omega
  · unfold bsB; rw [upB_i, upB_n (j := 0) (by omega), upB_n (j := 1) (by omega), upB_n (j := 3) (by omega), upB_n (j := 4) (by omega)]; omega
  · unfold bsB; rw [upB_i, upB_n (j := 0) (by omega), upB_n (j := 1) (by omega), upB_n (j := 2) (by omega), upB_n (j := 4) (by omega)]; omega
  · unfold bsB; rw [upB_i, upB_n (j := 0) (by omega), upB_n (j := 1) (by omega), upB_n (j := 2) (by omega), upB_n (j := 3) (by omega)]; omega
theorem bsB_t (hi : i < 5) (h : s i = false) : bsB L (upB s i true) = bsB L s + L i := by
  have := bsB_u (L := L) (s := s) (b := true) hi
  rw [h, if_neg (by decide), if_pos rfl] at this
  omega
theorem bsB_f (hi : i < 5) (h : s i = true) : bsB L (upB s i false) + L i = bsB L s := by
  have := bsB_u (L := L) (s := s) (b := false) hi
  rw [h, if_pos rfl, if_neg (by decide)] at this
  omega
theorem owF_sn : ∀ d x s c, OwF L D d x s c → s j = false → j < 5 → OwF L D (d + 1) x (upB s j true) (c + (x + (bsB L s + L j) - D j))
  | 0, x, s, c, h, hj, j5 => by
    obtain ⟨rfl, rfl⟩ := h
    refine ⟨j, j5, upB_i, 0, ⟨?_, rfl⟩, ?_⟩
    · rw [upB_u]; exact upB_s rfl
    · have : bsB L eS0 = 0 := rfl
      rw [this]
      omega
  | d + 1, x, s, c, h, hj, j5 => by
    obtain ⟨i, i5, si, c', h', rfl⟩ := h
    have ij : i ≠ j := fun e => by rw [e, hj] at si; exact absurd si (by decide)
    have ih := owF_sn d (x + L i) (upB s i false) c' h' (by rw [upB_n (fun e => ij e.symm)]; exact hj) j5
    refine ⟨i, i5, by rw [upB_n ij]; exact si, c' + (x + L i + (bsB L (upB s i false) + L j) - D j), ?_, ?_⟩
    · rw [upB_c (fun e => ij e.symm)]; exact ih
    · have := bsB_f (L := L) i5 si
      omega
theorem owB_cn : ∀ d x s c, OwB L D d (x + L j) s c → s j = false → j < 5 → OwB L D (d + 1) x (upB s j true) ((x + L j - D j) + c)
  | 0, x, s, c, h, hj, j5 => by
    obtain ⟨rfl, rfl⟩ := h
    refine ⟨j, j5, upB_i, 0, ⟨?_, rfl⟩, ?_⟩
    · rw [upB_u]; exact upB_s rfl
    · rw [bsB_t j5 rfl]
      have : bsB L eS0 = 0 := rfl
      omega
  | d + 1, x, s, c, h, hj, j5 => by
    obtain ⟨i, i5, si, c', h', rfl⟩ := h
    have ij : i ≠ j := fun e => by rw [e, hj] at si; exact absurd si (by decide)
    have ih := owB_cn d x (upB s i false) c' h' (by rw [upB_n (fun e => ij e.symm)]; exact hj) j5
    refine ⟨i, i5, by rw [upB_n ij]; exact si, (x + L j - D j) + c', ?_, ?_⟩
    · rw [upB_c (fun e => ij e.symm)]; exact ih
    · rw [bsB_t j5 hj]
      omega
theorem owB_F : ∀ d x s c, OwF L D d x s c → OwB L D d x s c
  | 0, _, _, _, h => h
  | d + 1, x, s, c, h => by
    obtain ⟨i, i5, si, c', h', rfl⟩ := h
    have := owB_cn (j := i) d x (upB s i false) c' (owB_F d _ _ _ h') upB_i i5
    rw [upB_u, upB_s si] at this
    exact this
theorem owF_B : ∀ d x s c, OwB L D d x s c → OwF L D d x s c
  | 0, _, _, _, h => h
  | d + 1, x, s, c, h => by
    obtain ⟨i, i5, si, c', h', rfl⟩ := h
    have := owF_sn (j := i) d x (upB s i false) c' (owF_B d _ _ _ h') upB_i i5
    rw [upB_u, upB_s si, bsB_f i5 si] at this
    exact this
theorem alB_c : ∀ k s c, (∀ q, q < k → xs q = ys q) → AlB L D bk xs k s c → AlB L D bk ys k s c
  | 0, _, _, _, h => h
  | k + 1, s, c, e, h => by
    obtain ⟨p, h1, h2, c1, c2, d, h3, h4, h5⟩ := h
    exact ⟨p, h1, h2, c1, c2, d, alB_c k _ _ (fun q hq => e q (by omega)) h3, by rw [← e k (by omega)]; exact h4, h5⟩
theorem alB_in {k0 : Nat} : ∀ k s c, AlB L D bk (upN xs k0 (xs k0 + L i)) k s c → s i = false → i < 5 → k0 < k → bk k0 = false → AlB L D bk xs k (upB s i true) ((xs k0 + L i - D i) + c)
  | 0, _, _, _, _, _, hk, _ => absurd hk (by omega)
  | k + 1, s, c, h, si, i5, hk, hb => by
    obtain ⟨p, h1, h2, c1, c2, d, h3, h4, rfl⟩ := h
    have pi : p i = false := by
      cases y : p i with
      | false => rfl
      | true => have := h1 i y; rw [si] at this; exact absurd this (by decide)
    by_cases z : k0 = k
    · subst z
      refine ⟨upB p i true, fun j hj => ?_, fun e => by rw [hb] at e; exact absurd e (by decide), c1, (xs k0 + L i - D i) + c2, d + 1, ?_, ?_, by omega⟩
      · by_cases y : j = i
        · rw [y, upB_i]
        · rw [upB_n y] at hj ⊢; exact h1 j hj
      · have e : dfB (upB s i true) (upB p i true) = dfB s p := by
          funext j
          unfold dfB
          by_cases y : j = i
          · rw [y, upB_i, upB_i, si]; rfl
          · rw [upB_n y, upB_n y]
        rw [e]
        exact alB_c k0 _ _ (fun q hq => by unfold upN; rw [if_neg (by omega)]) h3
      · have e : upN xs k0 (xs k0 + L i) k0 = xs k0 + L i := if_pos rfl
        rw [e] at h4
        exact owB_cn d (xs k0) p c2 h4 pi i5
    · refine ⟨p, fun j hj => ?_, h2, (xs k0 + L i - D i) + c1, c2, d, ?_, ?_, by omega⟩
      · by_cases y : j = i
        · rw [y, upB_i]
        · rw [upB_n y]; exact h1 j hj
      · have e : dfB (upB s i true) p = upB (dfB s p) i true := by
          funext j
          by_cases y : j = i
          · rw [y, upB_i]
            show (upB s i true i && !p i) = true
            rw [upB_i, pi]
            rfl
          · rw [upB_n y]
            show (upB s i true j && !p j) = (s j && !p j)
            rw [upB_n y]
        rw [e]
        exact alB_in k _ _ h3 (by show (s i && !p i) = false; rw [si]; rfl) i5 (by omega) hb
      · have e : upN xs k0 (xs k0 + L i) k = xs k := if_neg (fun e => z e.symm)
        rw [e] at h4
        exact h4
theorem alB_0 : ∀ k, AlB L D bk xs k eS0 0
  | 0 => ⟨rfl, rfl⟩
  | k + 1 => ⟨eS0, fun _ h => h, fun _ => rfl, 0, 0, 0, by have e : dfB eS0 eS0 = eS0 := rfl; rw [e]; exact alB_0 k, ⟨rfl, rfl⟩, rfl⟩
theorem rf_al : ∀ d xs s c, RfB L D bk k d xs s c → AlB L D bk xs k s c
  | 0, _, _, _, h => by
    obtain ⟨rfl, rfl⟩ := h
    exact alB_0 k
  | d + 1, xs, s, c, h => by
    obtain ⟨i, i5, si, q, hq, hb, c', h', rfl⟩ := h
    have := alB_in k (upB s i false) c' (rf_al d _ _ _ h') upB_i i5 hq hb
    rw [upB_u, upB_s si] at this
    exact this
theorem rf_up : ∀ d xs ys s c, (∀ q, q < k → xs q = ys q) → RfB L D bk k d xs s c → RfB L D bk (k + 1) d ys s c
  | 0, _, _, _, _, _, h => h
  | d + 1, xs, ys, s, c, e, h => by
    obtain ⟨i, i5, si, q, hq, hb, c', h', rfl⟩ := h
    refine ⟨i, i5, si, q, by omega, hb, c', rf_up d _ _ _ _ (fun r hr => ?_) h', by rw [e q hq]⟩
    unfold upN
    rw [e q hq, e r hr]
theorem rf_ad : ∀ e xs p c2, OwF L D e (xs k) p c2 → (e ≠ 0 → bk k = false) → ∀ d s c1, (∀ ys, (∀ q, q < k → ys q = xs q) → RfB L D bk k d ys s c1) → (∀ j, p j = true → s j = false) → RfB L D bk (k + 1) (d + e) xs (fun j => s j || p j) (c1 + c2)
  | 0, xs, p, c2, h, _, d, s, c1, H, _ => by
    obtain ⟨rfl, rfl⟩ := h
    have es : (fun j => s j || eS0 j) = s := by
      funext j
      show (s j || false) = s j
      rw [Bool.or_false]
    rw [es]
    exact rf_up d xs xs s c1 (fun _ _ => rfl) (H xs (fun _ _ => rfl))
  | e + 1, xs, p, c2, h, hb, d, s, c1, H, hd => by
    obtain ⟨i, i5, pi, c', h', rfl⟩ := h
    have si := hd i pi
    have b0 := hb (by omega)
    have hx : upN xs k (xs k + L i) k = xs k + L i := if_pos rfl
    have ih := rf_ad e (upN xs k (xs k + L i)) (upB p i false) c' (by rw [hx]; exact h') (fun _ => b0) d s c1 (fun ys hy => H ys (fun q hq => by rw [hy q hq]; exact if_neg (by omega))) (fun j hj => by
      by_cases y : j = i
      · rw [y, upB_i] at hj; exact absurd hj (by decide)
      · rw [upB_n y] at hj; exact hd j hj)
    refine ⟨i, i5, by show (s i || p i) = true; rw [pi, Bool.or_true], k, by omega, b0, c1 + c', ?_, by omega⟩
    have es : upB (fun j => s j || p j) i false = fun j => s j || upB p i false j := by
      funext j
      by_cases y : j = i
      · rw [y, upB_i, upB_i, si]; rfl
      · rw [upB_n y, upB_n y]
    rw [es]
    exact ih
theorem al_rf : ∀ k s c, AlB L D bk xs k s c → ∃ d, ∀ ys, (∀ q, q < k → ys q = xs q) → RfB L D bk k d ys s c
  | 0, s, c, h => ⟨0, fun _ _ => h⟩
  | k + 1, s, c, h => by
    obtain ⟨p, h1, h2, c1, c2, e, h3, h4, rfl⟩ := h
    obtain ⟨d, H⟩ := al_rf k _ _ h3
    refine ⟨d + e, fun ys hy => ?_⟩
    have es : (fun j => dfB s p j || p j) = s := by
      funext j
      show ((s j && !p j) || p j) = s j
      cases y : p j with
      | true => rw [h1 j y]; rfl
      | false => cases s j <;> rfl
    have := rf_ad (k := k) e ys p c2 (by rw [hy k (by omega)]; exact owF_B e _ _ _ h4) (fun e0 => by
        cases y : bk k with
        | false => rfl
        | true =>
          have pe := h2 y
          cases e with
          | zero => exact absurd rfl e0
          | succ e =>
            obtain ⟨i, i5, pi, -⟩ := h4
            rw [pe] at pi
            exact Bool.noConfusion (show false = true from pi)) d (dfB s p) c1 (fun zs hz => H zs (fun q hq => by rw [hz q hq, hy q (by omega)])) (fun j hj => by show (s j && !p j) = false; rw [hj]; cases s j <;> rfl)
    rw [es] at this
    exact this
/-- how many are in a set -/
def szB (s : St) : Nat := bsB (fun _ => 1) s
theorem rf_sz : ∀ d xs s c, RfB L D bk k d xs s c → szB s = d
  | 0, _, _, _, h => by
    obtain ⟨rfl, -⟩ := h
    rfl
  | d + 1, xs, s, c, h => by
    obtain ⟨i, i5, si, q, hq, hb, c', h', -⟩ := h
    have e := rf_sz d _ _ _ h'
    have := bsB_f (L := fun _ => 1) i5 si
    unfold szB at e ⊢
    omega
end
/-! sets as numbers below 32 -/
def sB (q : Nat) : St := fun j => decide (btN q j = 1)
theorem sB_b {q j : Nat} : (sB q j = true) = (btN q j = 1) := by unfold sB; exact propext decide_eq_true_iff
theorem sB_n {q j : Nat} : (sB q j = false) = (btN q j = 0) := by
  unfold sB
  have := bt_lt q j
  refine propext (decide_eq_false_iff_not.trans ⟨fun h => by omega, fun h => by omega⟩)
theorem bt_5 {q j : Nat} (hq : q < 32) (hj : 5 ≤ j) : btN q j = 0 := by
  unfold btN
  have : 2 ^ 5 ≤ 2 ^ j := Nat.pow_le_pow_right (by omega) hj
  rw [Nat.div_eq_of_lt (by omega)]
theorem sB_x {q r : Nat} (hq : q < 32) {s : St} (h5 : ∀ j, 5 ≤ j → s j = false) (h : ∀ j, j < 5 → (btN q j = 1 ↔ s j = true)) : sB q = s := by
  funext j
  by_cases z : j < 5
  · have := h j z
    cases y : s j with
    | true => exact sB_b.mpr (this.mpr y)
    | false =>
      refine sB_n.mpr ?_
      have b := bt_lt q j
      rw [y] at this
      by_cases w : btN q j = 1
      · exact absurd (this.mp w) (by decide)
      · omega
  · rw [h5 j (by omega)]
    exact sB_n.mpr (bt_5 hq (by omega))
theorem T1a : ∀ q, q < 32 → ∀ i, i < 5 → btN q i = 1 → 2 ^ i ≤ q ∧ ∀ j, j < 5 → btN (q - 2 ^ i) j = if j = i then 0 else btN q j := by decide +kernel
theorem T2a : ∀ S, S < 32 → ∀ p, p < 32 → p &&& S = p → p ≤ S ∧ ∀ j, j < 5 → btN (S - p) j = btN S j - btN p j ∧ btN p j ≤ btN S j := by decide +kernel
theorem T2b : ∀ S, S < 32 → ∀ p, p < 32 → (∀ j, j < 5 → btN p j ≤ btN S j) → p &&& S = p := by decide +kernel
theorem T4a : ∀ q, q < 32 → ∀ i, i < 5 → btN q i = 1 → nI q ^^^ (nI 1 <<< (nI i &&& nI 31)) = nI (q - 2 ^ i) := by decide +kernel
theorem T5a : ∀ S, S < 32 → ∀ p, p < 32 → p &&& S = p → nI S ^^^ nI p = nI (S - p) := by decide +kernel
theorem T7a : ∀ S, S < 32 → ∀ p, p < 32 → 0 < p → p &&& S = p → ((p - 1) &&& S) &&& S = (p - 1) &&& S ∧ ((p - 1) &&& S) < p := by decide +kernel
theorem T7b : ∀ S, S < 32 → ∀ p, p < 32 → ∀ r, r < 32 → (0 < p ∧ p &&& S = p ∧ r < p ∧ r &&& S = r) → r ≤ ((p - 1) &&& S) := by decide +kernel
theorem T8a : ∀ q, q < 32 → ∀ i, i < 5 → btN q i = 0 → nI q ||| (nI 1 <<< (nI i &&& nI 31)) = nI (q + 2 ^ i) ∧ q + 2 ^ i < 32 ∧ ∀ j, j < 5 → btN (q + 2 ^ i) j = if j = i then 1 else btN q j := by decide +kernel
theorem T9a : ∀ q, q < 32 → 0 < q → btN q 0 = 1 ∨ btN q 1 = 1 ∨ btN q 2 = 1 ∨ btN q 3 = 1 ∨ btN q 4 = 1 := by decide +kernel
theorem T3b : ∀ b0 b1 b2 b3 b4 : Bool, b0.toNat + 2 * b1.toNat + 4 * b2.toNat + 8 * b3.toNat + 16 * b4.toNat < 32 ∧ (btN (b0.toNat + 2 * b1.toNat + 4 * b2.toNat + 8 * b3.toNat + 16 * b4.toNat) 0 = 1 ↔ b0 = true) ∧ (btN (b0.toNat + 2 * b1.toNat + 4 * b2.toNat + 8 * b3.toNat + 16 * b4.toNat) 1 = 1 ↔ b1 = true) ∧ (btN (b0.toNat + 2 * b1.toNat + 4 * b2.toNat + 8 * b3.toNat + 16 * b4.toNat) 2 = 1 ↔ b2 = true) ∧ (btN (b0.toNat + 2 * b1.toNat + 4 * b2.toNat + 8 * b3.toNat + 16 * b4.toNat) 3 = 1 ↔ b3 = true) ∧ (btN (b0.toNat + 2 * b1.toNat + 4 * b2.toNat + 8 * b3.toNat + 16 * b4.toNat) 4 = 1 ↔ b4 = true) := by decide +kernel
theorem T3a (f : St) : ∃ p, p < 32 ∧ ∀ j, j < 5 → (btN p j = 1 ↔ f j = true) := by
  obtain ⟨h, h0, h1, h2, h3, h4⟩ := T3b (f 0) (f 1) (f 2) (f 3) (f 4)
  refine ⟨_, h, fun j hj => ?_⟩
  have : j = 0 ∨ j = 1 ∨ j = 2 ∨ j = 3 ∨ j = 4 := by omega
  rcases this with rfl | rfl | rfl | rfl | rfl <;> assumption
theorem sB_f {q i : Nat} (hq : q < 32) (hi : i < 5) (hb : btN q i = 1) : sB (q - 2 ^ i) = upB (sB q) i false := by
  refine sB_x (r := 0) (Nat.lt_of_le_of_lt (Nat.sub_le _ _) hq) (fun j hj => ?_) (fun j hj => ?_)
  · rw [upB_n (by omega)]; exact sB_n.mpr (bt_5 hq hj)
  · rw [(T1a q hq i hi hb).2 j hj]
    by_cases z : j = i
    · rw [if_pos z, z, upB_i]; exact ⟨fun e => absurd e (by decide), fun e => absurd e (by decide)⟩
    · rw [if_neg z, upB_n z, sB_b]
theorem sB_t {q i : Nat} (hq : q < 32) (hi : i < 5) (hb : btN q i = 0) : sB (q + 2 ^ i) = upB (sB q) i true := by
  obtain ⟨-, t1, t2⟩ := T8a q hq i hi hb
  refine sB_x (r := 0) t1 (fun j hj => ?_) (fun j hj => ?_)
  · rw [upB_n (by omega)]; exact sB_n.mpr (bt_5 hq hj)
  · rw [t2 j hj]
    by_cases z : j = i
    · rw [if_pos z, z, upB_i]; exact ⟨fun _ => rfl, fun _ => rfl⟩
    · rw [if_neg z, upB_n z, sB_b]
theorem sB_d {S p : Nat} (hS : S < 32) (hp : p < 32) (h : p &&& S = p) : sB (S - p) = dfB (sB S) (sB p) := by
  obtain ⟨-, t2⟩ := T2a S hS p hp h
  refine sB_x (r := 0) (by omega) (fun j hj => ?_) (fun j hj => ?_)
  · show (sB S j && !sB p j) = false
    rw [sB_n.mpr (bt_5 hS hj)]
    rfl
  · obtain ⟨e1, e2⟩ := t2 j hj
    have b1 := bt_lt S j
    have b2 := bt_lt p j
    show _ ↔ (sB S j && !sB p j) = true
    rw [e1, Bool.and_eq_true, Bool.not_eq_true', sB_b, sB_n]
    omega
theorem sB_0 : sB 0 = eS0 := by
  funext j
  refine sB_n.mpr ?_
  unfold btN
  rw [Nat.zero_div]
