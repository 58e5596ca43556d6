/-! stands, changed, row -/
theorem nM7 : -nI 1 + nI 1 = nI 0 := by decide
/-- is there a j below n with P -/
def hs (P : Nat → Prop) [∀ j, Decidable (P j)] : Nat → Bool
  | 0 => false
  | n + 1 => hs P n || decide (P n)
theorem hs_iff {P : Nat → Prop} [∀ j, Decidable (P j)] : ∀ n, hs P n = true ↔ ∃ j, j < n ∧ P j
  | 0 => by simp [hs]
  | n + 1 => by
    simp only [hs, Bool.or_eq_true, decide_eq_true_eq, hs_iff n]
    constructor
    · rintro (⟨j, h1, h2⟩ | h)
      · exact ⟨j, by omega, h2⟩
      · exact ⟨n, by omega, h⟩
    · rintro ⟨j, h1, h2⟩
      by_cases z : j = n
      · subst z; exact Or.inr h2
      · exact Or.inl ⟨j, by omega, h2⟩
/-- a loop that stops at the first j with P -/
theorem it_ex {σ ρ : Type} {f : σ → Option (σ ⊕ ρ)} (P : Nat → Prop) [∀ j, Decidable (P j)] (s : Nat → σ) (n : Nat) {r0 r1 : ρ} (h0 : ∀ j, j < n → ¬ P j → f (s j) = some (.inl (s (j + 1)))) (h1 : ∀ j, j < n → P j → f (s j) = some (.inr r1)) (h2 : f (s n) = some (.inr r0)) : it f (s 0) = some (if hs P n = true then r1 else r0) := by
  have key : ∀ k, k ≤ n → (∀ j, j < n - k → ¬ P j) → it f (s (n - k)) = some (if hs P n = true then r1 else r0) := by
    intro k
    induction k with
    | zero =>
      intro _ hn
      rw [if_neg (fun z => by
        obtain ⟨j, a, b⟩ := (hs_iff n).mp z
        exact hn j (by omega) b)]
      exact it_done h2
    | succ k ih =>
      intro hk hn
      by_cases p : P (n - (k + 1))
      · rw [if_pos ((hs_iff n).mpr ⟨_, by omega, p⟩)]
        exact it_done (h1 _ (by omega) p)
      · rw [it_next (h0 _ (by omega) p), show n - (k + 1) + 1 = n - k by omega]
        exact ih (by omega) (fun j hj => by
          by_cases z : j = n - (k + 1)
          · rw [z]; exact p
          · exact hn j (by omega))
  have := key n (Nat.le_refl n) (fun j hj => by omega)
  rwa [Nat.sub_self] at this
/-- an edition's number as the call says it: 0 is the page as it is (-1) -/
def eV (e : Nat) : Int32 := if e = 0 then -nI 1 else nI (e - 1)
def eB (p e : Nat) : Nat := if e = 0 then 327382 + 185 * p + 2 else 328492 + 181 * (6 * (e - 1) + p)
def eS (m : Nat → Int32) (p e i : Nat) : Int32 := if e = 0 then m (327382 + 185 * p + 5 + i) else m (328492 + 181 * (6 * (e - 1) + p) + 1 + i)
section
variable {tg : Nat → List Nat} {h h' : Hp} {m m' k t : Nat → Int32} {i n f : Int32}
theorem eB_n (B : MIb m) (I : MIh m) {p e : Nat} (hp : p < 6) (he : e < Nn m 6 + 1) : m (eB p e) = nI (Nn m (eB p e)) ∧ Nn m (eB p e) ≤ 180 := by
  unfold eB
  split
  · exact (I.1 p hp).2.2.2.2.eq (by omega)
  · exact (I.2.1 (e - 1) (by omega) p hp).eq (by omega)
theorem ed_d (m : Nat → Int32) (v : Int32) : (∀ e, e < Nn m 6 + 1 → v ≠ eV e) ∨ ∃ e, e < Nn m 6 + 1 ∧ v = eV e := by
  by_cases q : ∃ e, e < Nn m 6 + 1 ∧ v = eV e
  · exact Or.inr q
  · exact Or.inl fun e h1 h2 => q ⟨e, h1, h2⟩
theorem ed_f {v : Int32} {N : Nat} (hN : N ≤ 8) (hv : ∀ e, e < N + 1 → v ≠ eV e) : v < -nI 1 ∨ (¬ v < -nI 1 ∧ nI N ≤ v) := by
  have hm : (-nI 1).toInt = -1 := by decide
  by_cases q : v < -nI 1
  · exact Or.inl q
  · refine Or.inr ⟨q, ?_⟩
    rw [Int32.lt_iff_toInt_lt, hm] at q
    rw [Int32.le_iff_toInt_le, nI_toInt (by omega)]
    have h0 := hv 0 (by omega)
    have h0' : v ≠ -nI 1 := h0
    have h1 : v.toInt ≠ -1 := fun e => h0' (Int32.toInt_inj.mp (by rw [hm]; exact e))
    by_cases z : v.toInt < N
    · exfalso
      refine hv (v.toInt.toNat + 1) (by omega) ?_
      have : eV (v.toInt.toNat + 1) = nI v.toInt.toNat := by unfold eV; rw [if_neg (by omega), Nat.add_sub_cancel]
      rw [this, ← Int32.toInt_inj, nI_toInt (by omega)]
      omega
    · omega
theorem r_isEd_f (R : RS h) (e : gI h 74 = m) (B : MIb m) {v : Int32} (hv : ∀ e, e < Nn m 6 + 1 → v ≠ eV e) : MX12_isEdition h 73 v = some (nI 0) := by
  obtain ⟨-, -, -, -, -, -, ⟨b1, b2⟩, -⟩ := B.f
  have hm : (-nI 1).toInt = -1 := by decide
  have : MX12_isIn h v (-nI 1) (nI (Nn m 6) - nI 1) = some (nI 0) := by
    rw [r_isIn]
    rcases ed_f b2 hv with z | ⟨z1, z2⟩
    · rw [if_pos z]
    · rw [if_neg z1, if_pos]
      rw [Int32.lt_iff_toInt_lt, pk_sub_toInt (by omega) (by omega)]
      rw [Int32.le_iff_toInt_le, nI_toInt (by omega)] at z2
      omega
  simp (disch := omega) only [MX12_isEdition, ↓reduceIte, Nat.reduceLT, Nat.reduceLeDiff, Nat.reduceEqDiff, ZL, nAdd, nMul, nSub, nLt, nLe, nEq, nCl, nDiv, nRem2, nM1, nM2, nM3, nM4, nM5, nM6, gg_in, gg_rf, gg_T, if_true, if_false, ↓lt_eq, ob_some, b2_some, up1_some, kd_sI, ln_sI, gP_sI, gI_sI, kd_rI, ln_rI, gP_rI, gI_rI, kd_bmp, ln_bmp, gP_bmp, gI_bmp, up_at, i0, i1, RS.f R, e, b1, this, zk0]
theorem r_isEd_t (R : RS h) (e : gI h 74 = m) (B : MIb m) {q : Nat} (hq : q < Nn m 6 + 1) : MX12_isEdition h 73 (eV q) = some (nI 1) := by
  obtain ⟨-, -, -, -, -, -, ⟨b1, b2⟩, -⟩ := B.f
  have hm : (-nI 1).toInt = -1 := by decide
  have : MX12_isIn h (eV q) (-nI 1) (nI (Nn m 6) - nI 1) = some (nI 1) := by
    rw [r_isIn]
    have hq2 : (eV q).toInt = (q : Int) - 1 := by
      unfold eV
      split
      · rename_i z; rw [z, hm]; rfl
      · rw [nI_toInt (by omega)]; omega
    rw [if_neg, if_neg]
    · rw [Int32.lt_iff_toInt_lt, pk_sub_toInt (by omega) (by omega), hq2]; omega
    · rw [Int32.lt_iff_toInt_lt, hq2, hm]; omega
  simp (disch := omega) only [MX12_isEdition, ↓reduceIte, Nat.reduceLT, Nat.reduceLeDiff, Nat.reduceEqDiff, ZL, nAdd, nMul, nSub, nLt, nLe, nEq, nCl, nDiv, nRem2, nM1, nM2, nM3, nM4, nM5, nM6, gg_in, gg_rf, gg_T, if_true, if_false, ↓lt_eq, ob_some, b2_some, up1_some, kd_sI, ln_sI, gP_sI, gI_sI, kd_rI, ln_rI, gP_rI, gI_rI, kd_bmp, ln_bmp, gP_bmp, gI_bmp, up_at, i0, i1, RS.f R, e, b1, this, zk1]
theorem c_isEd_f (X : XS h) (D : DkS h 48) (DV : DkV h 48 m) (B : MIb m) {v : Int32} (hv : ∀ e, e < Nn m 6 + 1 → v ≠ eV e) : MX11_isEdition h 1 v = some (nI 0) := by
  obtain ⟨-, -, -, -, -, -, ⟨b1, b2⟩, -⟩ := B.f
  unfold MX11_isEdition
  rcases ed_f b2 hv with z | ⟨z1, z2⟩
  · simp (disch := omega) only [↓reduceIte, Nat.reduceLT, Nat.reduceLeDiff, Nat.reduceEqDiff, ZL, nAdd, nMul, nSub, nLt, nLe, nEq, nCl, nDiv, nRem2, nM1, nM2, nM3, nM4, nM5, nM6, gg_in, gg_rf, gg_T, if_true, if_false, ↓lt_eq, ob_some, b2_some, up1_some, kd_sI, ln_sI, gP_sI, gI_sI, kd_rI, ln_rI, gP_rI, gI_rI, kd_bmp, ln_bmp, gP_bmp, gI_bmp, up_at, i0, i1, z]
  · simp (disch := omega) only [↓reduceIte, Nat.reduceLT, Nat.reduceLeDiff, Nat.reduceEqDiff, ZL, nAdd, nMul, nSub, nLt, nLe, nEq, nCl, nDiv, nRem2, nM1, nM2, nM3, nM4, nM5, nM6, gg_in, gg_rf, gg_T, if_true, if_false, ↓lt_eq, ob_some, b2_some, up1_some, kd_sI, ln_sI, gP_sI, gI_sI, kd_rI, ln_rI, gP_rI, gI_rI, kd_bmp, ln_bmp, gP_bmp, gI_bmp, up_at, i0, i1, if_neg z1, X.f, D.1, DV.1, b1, z2]
theorem c_isEd_t (X : XS h) (D : DkS h 48) (DV : DkV h 48 m) (B : MIb m) {q : Nat} (hq : q < Nn m 6 + 1) : MX11_isEdition h 1 (eV q) = some (nI 1) := by
  obtain ⟨-, -, -, -, -, -, ⟨b1, b2⟩, -⟩ := B.f
  unfold MX11_isEdition eV
  by_cases z : q = 0
  · have : ¬ (-nI 1 < -nI 1) := by decide
    simp (disch := omega) only [↓reduceIte, Nat.reduceLT, Nat.reduceLeDiff, Nat.reduceEqDiff, ZL, nAdd, nMul, nSub, nLt, nLe, nEq, nCl, nDiv, nRem2, nM1, nM2, nM3, nM4, nM5, nM6, gg_in, gg_rf, gg_T, if_true, if_false, ↓lt_eq, ob_some, b2_some, up1_some, kd_sI, ln_sI, gP_sI, gI_sI, kd_rI, ln_rI, gP_rI, gI_rI, kd_bmp, ln_bmp, gP_bmp, gI_bmp, up_at, i0, i1, X.f, D.1, DV.1, b1, z, this]
  · simp (disch := omega) only [↓reduceIte, Nat.reduceLT, Nat.reduceLeDiff, Nat.reduceEqDiff, ZL, nAdd, nMul, nSub, nLt, nLe, nEq, nCl, nDiv, nRem2, nM1, nM2, nM3, nM4, nM5, nM6, gg_in, gg_rf, gg_T, if_true, if_false, ↓lt_eq, ob_some, b2_some, up1_some, kd_sI, ln_sI, gP_sI, gI_sI, kd_rI, ln_rI, gP_rI, gI_rI, kd_bmp, ln_bmp, gP_bmp, gI_bmp, up_at, i0, i1, X.f, D.1, DV.1, b1]
theorem r_slugsOn (R : RS h) (e : gI h 74 = m) {p q : Nat} (hp : p < 6) (hq : q < 9) : MX12_slugsOn h 73 (nI p) (eV q) = some (m (eB p q)) := by
  unfold MX12_slugsOn MX12_many0 eV eB
  by_cases z : q = 0
  · simp (disch := omega) only [↓reduceIte, Nat.reduceLT, Nat.reduceLeDiff, Nat.reduceEqDiff, ZL, nAdd, nMul, nSub, nLt, nLe, nEq, nCl, nDiv, nRem2, nM1, nM2, nM3, nM4, nM5, nM6, gg_in, gg_rf, gg_T, if_true, if_false, ↓lt_eq, ob_some, b2_some, up1_some, kd_sI, ln_sI, gP_sI, gI_sI, kd_rI, ln_rI, gP_rI, gI_rI, kd_bmp, ln_bmp, gP_bmp, gI_bmp, up_at, i0, i1, RS.f R, e, z]
  · simp (disch := omega) only [↓reduceIte, Nat.reduceLT, Nat.reduceLeDiff, Nat.reduceEqDiff, ZL, nAdd, nMul, nSub, nLt, nLe, nEq, nCl, nDiv, nRem2, nM1, nM2, nM3, nM4, nM5, nM6, gg_in, gg_rf, gg_T, if_true, if_false, ↓lt_eq, ob_some, b2_some, up1_some, kd_sI, ln_sI, gP_sI, gI_sI, kd_rI, ln_rI, gP_rI, gI_rI, kd_bmp, ln_bmp, gP_bmp, gI_bmp, up_at, i0, i1, RS.f R, e]
theorem r_slugOn (R : RS h) (e : gI h 74 = m) {p q j : Nat} (hp : p < 6) (hq : q < 9) (hj : j < 180) : MX12_slugOn h 73 (nI p) (eV q) (nI j) = some (eS m p q j) := by
  unfold MX12_slugOn MX12_many0 eV eS
  by_cases z : q = 0
  · simp (disch := omega) only [↓reduceIte, Nat.reduceLT, Nat.reduceLeDiff, Nat.reduceEqDiff, ZL, nAdd, nMul, nSub, nLt, nLe, nEq, nCl, nDiv, nRem2, nM1, nM2, nM3, nM4, nM5, nM6, gg_in, gg_rf, gg_T, if_true, if_false, ↓lt_eq, ob_some, b2_some, up1_some, kd_sI, ln_sI, gP_sI, gI_sI, kd_rI, ln_rI, gP_rI, gI_rI, kd_bmp, ln_bmp, gP_bmp, gI_bmp, up_at, i0, i1, RS.f R, e, z]
  · simp (disch := omega) only [↓reduceIte, Nat.reduceLT, Nat.reduceLeDiff, Nat.reduceEqDiff, ZL, nAdd, nMul, nSub, nLt, nLe, nEq, nCl, nDiv, nRem2, nM1, nM2, nM3, nM4, nM5, nM6, gg_in, gg_rf, gg_T, if_true, if_false, ↓lt_eq, ob_some, b2_some, up1_some, kd_sI, ln_sI, gP_sI, gI_sI, kd_rI, ln_rI, gP_rI, gI_rI, kd_bmp, ln_bmp, gP_bmp, gI_bmp, up_at, i0, i1, RS.f R, e]
theorem c_row (D : DkS h 48) (DV : DkV h 48 m) {p q : Nat} (hp : p < 6) (hq : q < Nn m 6 + 1) : gI h (gP h 48 5) (6 * q + p) = m (eB p q) ∧ (m (eB p q) ≠ nI 0 → gP h (gP h 48 4) (6 * q + p) ≠ 0) ∧ ∀ j, j < Nn m (eB p q) → gI h (gP h (gP h 48 4) (6 * q + p)) j = eS m p q j := by
  obtain ⟨v1, v2, v3, v4, v5⟩ := DV
  unfold eB eS
  by_cases z : q = 0
  · subst z
    obtain ⟨w1, w2, w3, w4, w5, w6, w7⟩ := v3 p hp
    simp only [if_pos, Nat.mul_zero, Nat.zero_add]
    exact ⟨w5, w6, w7⟩
  · obtain ⟨w1, w2, w3⟩ := v4 (q - 1) (by omega) p hp
    simp only [if_neg z]
    rw [show q - 1 + 1 = q by omega] at w1 w2 w3
    exact ⟨w1, w2, w3⟩
theorem c_slugOn_t (D : DkS h 48) (DV : DkV h 48 m) (B : MIb m) (I : MIh m) {p q j : Nat} (hp : p < 6) (hq : q < Nn m 6 + 1) (hj : j < Nn m (eB p q)) : MX2_slugOn h 48 (nI (6 * q + p)) (nI j) = some (eS m p q j) := by
  obtain ⟨-, -, -, -, -, -, ⟨b1, b2⟩, -⟩ := B.f
  obtain ⟨e1, e2⟩ := eB_n B I hp hq
  obtain ⟨r1, r2, r3⟩ := c_row D DV hp hq
  obtain ⟨dk, -, -, -, -, ⟨-, a3, a4⟩, ⟨-, a1, a2⟩, -, -, -, -, hh⟩ := D
  have nz : gP h (gP h 48 4) (6 * q + p) ≠ 0 := r2 (by rw [e1]; exact nI_ne0 (by omega) (by omega))
  obtain ⟨h1, h2⟩ := hh _ nz
  unfold MX2_slugOn
  simp (disch := omega) only [↓reduceIte, Nat.reduceLT, Nat.reduceLeDiff, Nat.reduceEqDiff, ZL, nAdd, nMul, nSub, nLt, nLe, nEq, nCl, nDiv, nRem2, nM1, nM2, nM3, nM4, nM5, nM6, gg_in, gg_rf, gg_T, if_true, if_false, ↓lt_eq, ob_some, b2_some, up1_some, kd_sI, ln_sI, gP_sI, gI_sI, kd_rI, ln_rI, gP_rI, gI_rI, kd_bmp, ln_bmp, gP_bmp, gI_bmp, up_at, i0, i1, dk, a1, a2, a3, a4, r1, e1, h1, h2, r3 j hj]
theorem c_slugOn_f (D : DkS h 48) (DV : DkV h 48 m) (B : MIb m) (I : MIh m) {p q : Nat} {v : Int32} (hp : p < 6) (hq : q < Nn m 6 + 1) (hv : ∀ j, j < Nn m (eB p q) → v ≠ nI j) : MX2_slugOn h 48 (nI (6 * q + p)) v = some (-nI 1) := by
  obtain ⟨-, -, -, -, -, -, ⟨b1, b2⟩, -⟩ := B.f
  obtain ⟨e1, e2⟩ := eB_n B I hp hq
  obtain ⟨r1, r2, r3⟩ := c_row D DV hp hq
  obtain ⟨dk, -, -, -, -, ⟨-, a3, a4⟩, ⟨-, a1, a2⟩, -, -, -, -, hh⟩ := D
  unfold MX2_slugOn
  rcases ni_c (by omega) hv with z | ⟨z1, z2, z3⟩
  · simp (disch := omega) only [↓reduceIte, Nat.reduceLT, Nat.reduceLeDiff, Nat.reduceEqDiff, ZL, nAdd, nMul, nSub, nLt, nLe, nEq, nCl, nDiv, nRem2, nM1, nM2, nM3, nM4, nM5, nM6, gg_in, gg_rf, gg_T, if_true, if_false, ↓lt_eq, ob_some, b2_some, up1_some, kd_sI, ln_sI, gP_sI, gI_sI, kd_rI, ln_rI, gP_rI, gI_rI, kd_bmp, ln_bmp, gP_bmp, gI_bmp, up_at, i0, i1, z]
  · simp (disch := omega) only [↓reduceIte, Nat.reduceLT, Nat.reduceLeDiff, Nat.reduceEqDiff, ZL, nAdd, nMul, nSub, nLt, nLe, nEq, nCl, nDiv, nRem2, nM1, nM2, nM3, nM4, nM5, nM6, gg_in, gg_rf, gg_T, if_true, if_false, ↓lt_eq, ob_some, b2_some, up1_some, kd_sI, ln_sI, gP_sI, gI_sI, kd_rI, ln_rI, gP_rI, gI_rI, kd_bmp, ln_bmp, gP_bmp, gI_bmp, up_at, i0, i1, if_neg z1, dk, a1, a2, r1, e1, z2]
theorem c_rowNo {p q : Nat} : nI 6 * (eV q + nI 1) + nI p = nI (6 * q + p) := by
  unfold eV
  split
  · rename_i z
    subst z
    rw [nM7, nMul, nAdd]
  · rw [nAdd, nMul, nAdd, show q - 1 + 1 = q by omega]
end
