/-! correct: the class puts a word in the place of another -/
/-- words that are ended ahead of piece y -/
def wA (m : Nat → Int32) (q y : Nat) : Nat := if y = Nn m (130 + 645 * q + 1) then Nn m (130 + 645 * q) else wP m q y
/-- M is m but that the pieces f to f2 of part q are pc others -/
def Chd (m M : Nat → Int32) (q f f2 pc : Nat) (w : Int32) (Ln Lt : Nat → Int32) : Prop := M (130 + 645 * q + 1) = nI (f + pc + (Nn m (130 + 645 * q + 1) - f2)) ∧ M (130 + 645 * q) = m (130 + 645 * q) ∧
  (∀ x, x < f → M (130 + 645 * q + 85 + x) = m (130 + 645 * q + 85 + x) ∧ M (130 + 645 * q + 125 + x) = m (130 + 645 * q + 125 + x) ∧ ∀ l, l < 12 → M (130 + 645 * q + 165 + 12 * x + l) = m (130 + 645 * q + 165 + 12 * x + l)) ∧
  (∀ x, x < pc → M (130 + 645 * q + 85 + (f + x)) = w ∧ M (130 + 645 * q + 125 + (f + x)) = Ln x ∧ ∀ l, l < 12 → M (130 + 645 * q + 165 + 12 * (f + x) + l) = Lt (12 * x + l)) ∧
  ∀ x, x < Nn m (130 + 645 * q + 1) - f2 → M (130 + 645 * q + 85 + (f + pc + x)) = m (130 + 645 * q + 85 + (f2 + x)) ∧ M (130 + 645 * q + 125 + (f + pc + x)) = m (130 + 645 * q + 125 + (f2 + x)) ∧ ∀ l, l < 12 → M (130 + 645 * q + 165 + 12 * (f + pc + x) + l) = m (130 + 645 * q + 165 + 12 * (f2 + x) + l)
section
variable {h h1 : Hp} {m M : Nat → Int32} {p o q w f f2 n wd X l pc : Nat} {L C : Nat → Nat} {T : Nat → Nat → Nat} {b : Nat → Nat} {s0 s : TX}
theorem ct_1 (J : MIp m q) {y : Nat} (hy : y < Nn m (130 + 645 * q + 1)) : ctN m q y + wP m q y = wA m q (y + 1) := by
  obtain ⟨l1, l2⟩ := wP_l J
  unfold ctN wA
  by_cases z : y + 1 = Nn m (130 + 645 * q + 1)
  · rw [if_pos (Or.inl z), if_pos z, ← l1, show Nn m (130 + 645 * q + 1) - 1 = y by omega]
    omega
  · rw [if_neg z]
    obtain ⟨c1, c2⟩ := (J.2.2.2.2.2.2.1 y hy).1.eq (by omega)
    obtain ⟨d1, d2⟩ := (J.2.2.2.2.2.2.1 (y + 1) (by omega)).1.eq (by omega)
    have e := wP_s J (x := y) (by omega)
    unfold wP at e ⊢
    by_cases u : m (130 + 645 * q + 85 + y) = m (130 + 645 * q + 85 + (y + 1))
    · rw [if_neg (fun o => o.elim z (fun o => o u))]
      rw [c1, d1, nEq (by omega) (by omega)] at u
      omega
    · rw [if_pos (Or.inr u)]
      rw [c1, d1, nEq (by omega) (by omega)] at u
      omega
theorem ct_s (J : MIp m q) {a : Nat} : ∀ k, a + k ≤ Nn m (130 + 645 * q + 1) → lS (fun i => ctN m q (a + i)) k + wA m q a = wA m q (a + k)
  | 0, _ => Nat.zero_add _
  | k + 1, hk => by
    have i := ct_s J (a := a) k (by omega)
    have c := ct_1 J (y := a + k) (by omega)
    have e : wA m q (a + k) = wP m q (a + k) := by unfold wA; rw [if_neg (by omega)]
    show lS (fun i => ctN m q (a + i)) k + ctN m q (a + k) + wA m q a = wA m q (a + k + 1)
    omega
theorem wA_f (J : MIp m q) (hw : w < Nn m (130 + 645 * q)) (F : FW m q w f) (F2 : FW m q (w + 1) f2) : wA m q 0 = 0 ∧ wA m q f = w ∧ wA m q f2 = w + 1 ∧ wA m q (Nn m (130 + 645 * q + 1)) = Nn m (130 + 645 * q) := by
  obtain ⟨l1, l2⟩ := wP_l J
  obtain ⟨c1, c2⟩ := FW_c J F hw
  obtain ⟨d1, d2⟩ := FW_2 J F F2 hw
  unfold wA
  refine ⟨by rw [if_neg (by omega)]; exact wP_0 J, by rw [if_neg (by omega)]; exact c2, ?_, if_pos rfl⟩
  have g1 : wP m q (f2 - 1) = w := (d2 (f2 - 1) (by have := F2.1; omega)).mpr (by omega)
  by_cases z : f2 = Nn m (130 + 645 * q + 1)
  · rw [if_pos z, ← l1, ← z, g1]
  · rw [if_neg z]
    have h1 := F2.1
    have e := wP_s J (x := f2 - 1) (by omega)
    rw [show f2 - 1 + 1 = f2 by omega, g1] at e
    have := F2.2.2 f2 (Nat.le_refl _) (by omega)
    omega
theorem pi_S (S : PtS h p) (N : PtN h p) (A : PI h h1 p n w L C T) : PtS h1 p ∧ PtN h1 p := by
  obtain ⟨a1, a2, a3, a4, a5, a6, a7, a8⟩ := A
  obtain ⟨s1, s2, s3, s4, s5, s6, s7, s8, s9, s10⟩ := S
  have e : gP h1 = gP h := a1.2.2.1
  refine ⟨?_, by unfold PtN; rw [e]; exact N⟩
  unfold PtS ar
  rw [a1.1, a1.2.1, e, a2 10 (by decide) (by decide), a2 11 (by decide) (by decide)]
  exact ⟨s1, s2, s3, s4, s5, s6, a6 0 (Nat.zero_le _), s8, s9, a3⟩
/-- the pieces' side of a part's values -/
theorem pi_v (A : PI h h1 p n wd L C T) (h40 : n ≤ 40) (e1 : M (130 + 645 * q + 1) = nI n) (H : ∀ x, x < n → M (130 + 645 * q + 125 + x) = nI (L x) ∧ L x ≤ 12 ∧ nI (C x) = (if x + 1 = n ∨ M (130 + 645 * q + 85 + x) ≠ M (130 + 645 * q + 85 + (x + 1)) then nI 1 else nI 0) ∧ ∀ l, l < L x → M (130 + 645 * q + 165 + 12 * x + l) = nI (T x l)) : ∀ b, b < Nn M (130 + 645 * q + 1) → gI h1 (gP h1 p 1) (b + 1) = gI h1 (gP h1 p 1) b + M (130 + 645 * q + 125 + b) ∧ gI h1 (gP h1 p 2) b = (if b + 1 = Nn M (130 + 645 * q + 1) ∨ M (130 + 645 * q + 85 + b) ≠ M (130 + 645 * q + 85 + (b + 1)) then nI 1 else nI 0) ∧ ∀ i, i < Nn M (130 + 645 * q + 125 + b) → gI h1 (gP h1 p 0) ((gI h1 (gP h1 p 1) b).toNatClampNeg + i) = M (130 + 645 * q + 165 + 12 * b + i) := by
  obtain ⟨a1, a2, a3, a4, a5, a6, a7, a8⟩ := A
  have e : gP h1 = gP h := a1.2.2.1
  have en : Nn M (130 + 645 * q + 1) = n := by unfold Nn; rw [e1, nCl (by omega)]
  intro y hy
  rw [en] at hy ⊢
  obtain ⟨c1, c2, c3, c4⟩ := H y hy
  have lb := lS_b (L := L) y (fun z hz => (H z (by omega)).2.1)
  rw [e, a6 y (by omega), a6 (y + 1) (by omega), a7 y hy, c1, c3, nAdd]
  refine ⟨rfl, rfl, fun i hi => ?_⟩
  have hi : i < L y := by unfold Nn at hi; rw [c1, nCl (by omega)] at hi; exact hi
  rw [nCl (by omega), a8 y hy i hi, c4 i hi]
end
