/-! style: the tape of rules, the pure picture: blanks, words, numbers -/
def ikF (b : Nat → Nat) : Nat → Nat → Nat
  | 0, i => i
  | d + 1, i => if b i = 32 then ikF b d (i + 1) else i
/-- the first byte from i on that is no blank -/
def ik (b : Nat → Nat) (e i : Nat) : Nat := ikF b (e - i) i
def wcN (k i : Nat) : Nat := ((sTx.getD k []).getD i 0).toNatClampNeg
/-- word k stands at j, and the letters go on no further -/
def WdP (b : Nat → Nat) (e k j : Nat) : Prop := j + sN k ≤ e ∧ (∀ i, i < sN k → b (j + i) = wcN k i) ∧ (j + sN k < e → lB (b (j + sN k)) = false)
noncomputable def wdB (b : Nat → Nat) (e k j : Nat) : Bool := @decide (WdP b e k j) (Classical.propDecidable _)
def dgF (b : Nat → Nat) : Nat → Nat → Nat
  | 0, _ => 0
  | d + 1, i => if 48 ≤ b i ∧ b i ≤ 57 then dgF b d (i + 1) + 1 else 0
/-- how many digits stand at i -/
def dg (b : Nat → Nat) (e i : Nat) : Nat := dgF b (e - i) i
def vlF (b : Nat → Nat) (i : Nat) : Nat → Nat
  | 0 => 0
  | n + 1 => 10 * vlF b i n + (b (i + n) - 48)
/-- a number: where it is wrong, or behind it and its value -/
def nmP (b : Nat → Nat) (e lo hi i : Nat) : Nat ⊕ (Nat × Nat) := if 1 ≤ dg b e (ik b e i) ∧ dg b e (ik b e i) ≤ 4 ∧ lo ≤ vlF b (ik b e i) (dg b e (ik b e i)) ∧ vlF b (ik b e i) (dg b e (ik b e i)) ≤ hi then .inr (ik b e i + dg b e (ik b e i), vlF b (ik b e i) (dg b e (ik b e i))) else .inl (ik b e i)
theorem sN_b : ∀ k, k < 21 → 2 ≤ sN k ∧ sN k ≤ 9 := by decide +kernel
theorem wcN_b : ∀ k, k < 21 → ∀ i, i < sN k → sAt k (nI i) = nI (wcN k i) ∧ 97 ≤ wcN k i ∧ wcN k i ≤ 122 := by decide +kernel
theorem sI_id {h : Hp} {a i : Nat} {v : Int32} (e : gI h a i = v) : sI h a i v = h := by
  refine Prod.ext (Eq.refl _) (Prod.ext (Eq.refl _) (Prod.ext (funext fun x => funext fun y => ?_) (Eq.refl _)))
  show gI (sI h a i v) x y = gI h x y
  rw [gI_sI]
  by_cases z : x = a
  · rw [if_pos z, up_at, z]
    by_cases w : y = i
    · rw [if_pos w, w, e]
    · rw [if_neg w]
  · rw [if_neg z]
section
variable {b : Nat → Nat} {e i j k d n : Nat}
theorem ikF_le : ∀ d i, i ≤ ikF b d i ∧ ikF b d i ≤ i + d
  | 0, i => ⟨Nat.le_refl _, Nat.le_refl _⟩
  | d + 1, i => by
    have ih := ikF_le d (i + 1)
    show i ≤ (if b i = 32 then ikF b d (i + 1) else i) ∧ (if b i = 32 then ikF b d (i + 1) else i) ≤ i + (d + 1)
    by_cases z : b i = 32
    · rw [if_pos z]; omega
    · rw [if_neg z]; omega
theorem ik_le (h : i ≤ e) : i ≤ ik b e i ∧ ik b e i ≤ e := by
  have := ikF_le (b := b) (e - i) i
  unfold ik
  omega
theorem ik_e : ik b e e = e := by
  unfold ik
  rw [Nat.sub_self]
  rfl
theorem ik_s (h : i < e) (z : b i = 32) : ik b e i = ik b e (i + 1) := by
  unfold ik
  rw [show e - i = (e - (i + 1)) + 1 by omega]
  show (if b i = 32 then ikF b (e - (i + 1)) (i + 1) else i) = _
  rw [if_pos z]
theorem ik_n (h : i < e) (z : b i ≠ 32) : ik b e i = i := by
  unfold ik
  rw [show e - i = (e - (i + 1)) + 1 by omega]
  show (if b i = 32 then ikF b (e - (i + 1)) (i + 1) else i) = _
  rw [if_neg z]
theorem ik_x : ∀ d i, i + d = e → ik b e i < e → b (ik b e i) ≠ 32
  | 0, i, hi, h => by
    have : i = e := hi
    rw [this, ik_e] at h
    omega
  | d + 1, i, hi, h => by
    by_cases z : b i = 32
    · rw [ik_s (by omega) z] at h ⊢
      exact ik_x d (i + 1) (by omega) h
    · rw [ik_n (by omega) z]; exact z
theorem ik_i (h : i ≤ e) : ik b e (ik b e i) = ik b e i := by
  have a := ik_le (b := b) h
  by_cases z : ik b e i < e
  · exact ik_n z (ik_x (e - i) i (by omega) z)
  · have : ik b e i = e := by omega
    rw [this, ik_e]
theorem dgF_le : ∀ d i, dgF b d i ≤ d
  | 0, _ => Nat.le_refl _
  | d + 1, i => by
    have ih := dgF_le d (i + 1)
    show (if 48 ≤ b i ∧ b i ≤ 57 then dgF b d (i + 1) + 1 else 0) ≤ d + 1
    by_cases z : 48 ≤ b i ∧ b i ≤ 57
    · rw [if_pos z]; omega
    · rw [if_neg z]; omega
theorem dg_le (h : i ≤ e) : i + dg b e i ≤ e := by
  have := dgF_le (b := b) (e - i) i
  unfold dg
  omega
theorem dgF_d : ∀ d i j, j < dgF b d i → 48 ≤ b (i + j) ∧ b (i + j) ≤ 57
  | 0, i, j, h => by
    have h : j < 0 := h
    omega
  | d + 1, i, j, h => by
    have h : j < (if 48 ≤ b i ∧ b i ≤ 57 then dgF b d (i + 1) + 1 else 0) := h
    by_cases z : 48 ≤ b i ∧ b i ≤ 57
    · rw [if_pos z] at h
      by_cases w : j = 0
      · rw [w]; exact z
      · have := dgF_d d (i + 1) (j - 1) (by omega)
        rwa [show i + 1 + (j - 1) = i + j by omega] at this
    · rw [if_neg z] at h
      omega
theorem dgF_n : ∀ d i, dgF b d i < d → ¬ (48 ≤ b (i + dgF b d i) ∧ b (i + dgF b d i) ≤ 57)
  | 0, i, h => by omega
  | d + 1, i, h => by
    have e1 : dgF b (d + 1) i = if 48 ≤ b i ∧ b i ≤ 57 then dgF b d (i + 1) + 1 else 0 := rfl
    rw [e1] at h ⊢
    by_cases z : 48 ≤ b i ∧ b i ≤ 57
    · rw [if_pos z] at h ⊢
      have := dgF_n d (i + 1) (by omega)
      rwa [show i + 1 + dgF b d (i + 1) = i + (dgF b d (i + 1) + 1) by omega] at this
    · rw [if_neg z]; exact z
theorem vl_b : ∀ n, (∀ j, j < n → b (i + j) ≤ 57) → n ≤ 4 → vlF b i n ≤ 9999 ∧ (n = 0 → vlF b i n = 0) ∧ (n = 1 → vlF b i n ≤ 9) ∧ (n = 2 → vlF b i n ≤ 99) ∧ (n = 3 → vlF b i n ≤ 999)
  | 0, _, _ => by
    show 0 ≤ 9999 ∧ (0 = 0 → 0 = 0) ∧ (0 = 1 → 0 ≤ 9) ∧ (0 = 2 → 0 ≤ 99) ∧ (0 = 3 → 0 ≤ 999)
    omega
  | n + 1, h, hn => by
    have ih := vl_b n (fun j hj => h j (by omega)) (by omega)
    have hb := h n (by omega)
    have e1 : vlF b i (n + 1) = 10 * vlF b i n + (b (i + n) - 48) := rfl
    rw [e1]
    omega
theorem wd_t (h : WdP b e k j) : wdB b e k j = true := @decide_eq_true _ (Classical.propDecidable _) h
theorem wd_f (h : ¬ WdP b e k j) : wdB b e k j = false := @decide_eq_false _ (Classical.propDecidable _) h
theorem wd_i (h : wdB b e k j = true) : WdP b e k j := @of_decide_eq_true _ (Classical.propDecidable _) h
end
