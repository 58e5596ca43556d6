/-! correct: the pieces of a word -/
def wP (m : Nat → Int32) (q y : Nat) : Nat := Nn m (130 + 645 * q + 85 + y)
def FW (m : Nat → Int32) (q w r : Nat) : Prop := r ≤ Nn m (130 + 645 * q + 1) ∧ (∀ y, y < r → wP m q y < w) ∧ ∀ y, r ≤ y → y < Nn m (130 + 645 * q + 1) → w ≤ wP m q y
section
variable {h g : Hp} {m : Nat → Int32} {p q w r f f2 : Nat} {v1 v2 v3 : Int32}
theorem wP_mono (J : MIp m q) {x : Nat} : ∀ d, x + d < Nn m (130 + 645 * q + 1) → wP m q x ≤ wP m q (x + d)
  | 0, _ => Nat.le_refl _
  | d + 1, h => by
    have a := wP_mono J (x := x) d (by omega)
    have c := J.2.2.2.2.2.2.2.2.1 (x + d) (by omega)
    have e1 : wP m q (x + d) = Nn m (130 + 645 * q + 85 + (x + d)) := rfl
    have e2 : wP m q (x + (d + 1)) = Nn m (130 + 645 * q + 85 + (x + d + 1)) := rfl
    omega
theorem wP_0 (J : MIp m q) : wP m q 0 = 0 := J.2.2.2.2.2.2.2.1
theorem wP_l (J : MIp m q) : wP m q (Nn m (130 + 645 * q + 1) - 1) + 1 = Nn m (130 + 645 * q) ∧ 1 ≤ Nn m (130 + 645 * q + 1) := ⟨J.2.2.2.2.2.2.2.2.2.1, J.2.2.1⟩
theorem wP_s (J : MIp m q) {x : Nat} (hx : x + 1 < Nn m (130 + 645 * q + 1)) : wP m q (x + 1) = wP m q x ∨ wP m q (x + 1) = wP m q x + 1 := J.2.2.2.2.2.2.2.2.1 x hx
theorem FW_c (J : MIp m q) (F : FW m q w r) (hw : w < Nn m (130 + 645 * q)) : r < Nn m (130 + 645 * q + 1) ∧ wP m q r = w := by
  obtain ⟨l1, l2⟩ := wP_l J
  obtain ⟨f1, f2, f3⟩ := F
  have r1 : r < Nn m (130 + 645 * q + 1) := by
    by_cases z : r < Nn m (130 + 645 * q + 1)
    · exact z
    · have := f2 (Nn m (130 + 645 * q + 1) - 1) (by omega)
      omega
  have g1 := f3 r (Nat.le_refl _) r1
  refine ⟨r1, ?_⟩
  by_cases z : r = 0
  · rw [z] at g1 ⊢
    rw [wP_0 J] at g1 ⊢
    omega
  · have a := f2 (r - 1) (by omega)
    have c := wP_s J (x := r - 1) (by omega)
    rw [show r - 1 + 1 = r by omega] at c
    omega
theorem FW_2 (J : MIp m q) (F : FW m q w f) (F2 : FW m q (w + 1) f2) (hw : w < Nn m (130 + 645 * q)) : f < f2 ∧ ∀ y, y < Nn m (130 + 645 * q + 1) → (wP m q y = w ↔ f ≤ y ∧ y < f2) := by
  obtain ⟨c1, c2⟩ := FW_c J F hw
  have lt : f < f2 := by
    by_cases z : f < f2
    · exact z
    · have := F2.2.2 f (by omega) c1
      omega
  refine ⟨lt, fun y hy => ⟨fun e => ?_, fun e => ?_⟩⟩
  · refine ⟨?_, ?_⟩
    · by_cases z : f ≤ y
      · exact z
      · have := F.2.1 y (by omega)
        omega
    · by_cases z : y < f2
      · exact z
      · have := F2.2.2 y (by omega) hy
        omega
  · have a := F.2.2 y e.1 hy
    have c := F2.2.1 y e.2
    omega
theorem FW_u {a b : Nat} (A : FW m q w a) (B : FW m q w b) : a = b := by
  obtain ⟨a1, a2, a3⟩ := A
  obtain ⟨b1, b2, b3⟩ := B
  by_cases z : a < b
  · have x1 := b2 a z
    have x2 := a3 a (Nat.le_refl _) (by omega)
    omega
  · by_cases y : b < a
    · have x1 := a2 b y
      have x2 := b3 b (Nat.le_refl _) (by omega)
      omega
    · omega
/-- the class's first piece of a word -/
theorem c_fBit (S : PtS h p) (V : PtV h p m q) (J : MIp m q) (hw : w ≤ Nn m (130 + 645 * q)) : ∃ r, MX5_firstBit h p (nI w) = some (nI r) ∧ FW m q w r := by
  obtain ⟨e1, b1⟩ := J.2.1.eq (by omega)
  obtain ⟨l1, l2⟩ := wP_l J
  have h5 : gI h p 5 = nI (Nn m (130 + 645 * q + 1)) := by rw [V.1]; exact e1
  obtain ⟨-, s6, s7⟩ := S.2.2.2.1
  have wb : ∀ x, x < Nn m (130 + 645 * q + 1) → m (130 + 645 * q + 85 + x) = nI (wP m q x) ∧ wP m q x ≤ 23 := fun x hx => (J.2.2.2.2.2.2.1 x hx).1.eq (by omega)
  · have w24 : Nn m (130 + 645 * q) ≤ 24 := (J.1.eq (by omega)).2
    have K : ∀ d x a, x + d = Nn m (130 + 645 * q + 1) → (x < Nn m (130 + 645 * q + 1) → a = wP m q x) → a ≤ w → (∀ y, y < x → wP m q y < w) → ∃ r, it (fun z : Int32 × Int32 => BX5_firstBit_4 h p (nI w) z.1 z.2) (nI a, nI x) = some (nI r) ∧ FW m q w r := fun d => by
      induction d with
      | zero =>
        intro x a hx ha haw hy
        have hx : x = Nn m (130 + 645 * q + 1) := hx
        refine ⟨Nn m (130 + 645 * q + 1), it_done ?_, Nat.le_refl _, fun y hy' => hy y (by omega), fun y y1 y2 => by omega⟩
        show BX5_firstBit_4 h p (nI w) (nI a) (nI x) = _
        unfold BX5_firstBit_4 MX5_firstBit_42
        rw [gg_t S.1, h5, if_pos (nI_le (by omega) (by omega)), gg_t S.1, up1_some]
      | succ d ih =>
        intro x a hx ha haw hy
        have xl : x < Nn m (130 + 645 * q + 1) := by omega
        have ea := ha xl
        by_cases z : a = w
        · refine ⟨x, it_done ?_, by omega, hy, fun y y1 y2 => ?_⟩
          · show BX5_firstBit_4 h p (nI w) (nI a) (nI x) = _
            unfold BX5_firstBit_4
            rw [gg_t S.1, h5, if_neg (nI_ge xl (by omega)), if_pos (by rw [z])]
          · have := wP_mono J (x := x) (y - x) (by omega)
            rw [show x + (y - x) = y by omega] at this
            omega
        · have vc := (V.2.2.2.2.2.2.1 x xl).2.1
          obtain ⟨a1, a2⟩ := wb x xl
          have cl : ∃ c, c ≤ 1 ∧ gI h (gP h p 2) x = nI c ∧ (x + 1 < Nn m (130 + 645 * q + 1) → a + c = wP m q (x + 1)) := by
            by_cases y : x + 1 = Nn m (130 + 645 * q + 1)
            · exact ⟨1, by omega, by rw [vc, if_pos (Or.inl y)], fun u => by omega⟩
            · obtain ⟨b1, b2⟩ := wb (x + 1) (by omega)
              by_cases u : m (130 + 645 * q + 85 + x) = m (130 + 645 * q + 85 + (x + 1))
              · refine ⟨0, by omega, by rw [vc, if_neg (fun o => o.elim y (fun o => o u))], fun _ => ?_⟩
                rw [a1, b1, nEq (by omega) (by omega)] at u
                omega
              · refine ⟨1, by omega, by rw [vc, if_pos (Or.inr u)], fun _ => ?_⟩
                rw [a1, b1, nEq (by omega) (by omega)] at u
                have := wP_s J (x := x) (by omega)
                omega
          obtain ⟨c, c1, c2, c3⟩ := cl
          have st : BX5_firstBit_4 h p (nI w) (nI a) (nI x) = some (.inl (nI (a + c), nI (x + 1))) := by
            unfold BX5_firstBit_4 MX5_firstBit_34
            simp only [ZL]
            rw [gg_t S.1, h5, if_neg (nI_ge xl (by omega)), if_neg (show ¬ nI a = nI w by rw [nEq (by omega) (by omega)]; exact z), gg_t s6, s7, gg_in (by omega) (by omega), nCl (by omega), c2, nAdd, nAdd, nAdd]
            rcases (show c = 0 ∨ c = 1 by omega) with rfl | rfl
            · rw [if_pos rfl]
            · rw [if_neg (by decide)]
          rw [it_next (s' := (nI (a + c), nI (x + 1))) st]
          refine ih (x + 1) (a + c) (by omega) c3 (by omega) (fun y hy' => ?_)
          by_cases u : y = x
          · rw [u]; omega
          · exact hy y (by omega)
    obtain ⟨r, k1, k2⟩ := K (Nn m (130 + 645 * q + 1)) 0 0 (Nat.zero_add _) (fun _ => (wP_0 J).symm) (Nat.zero_le _) (fun y hy => by omega)
    refine ⟨r, ?_, k2⟩
    unfold MX5_firstBit MX5_firstBit_4
    simp only [ZL]
    exact k1
end
