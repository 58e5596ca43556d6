/-! correct: the reference moves pieces, what is set aside -/
/-- the pieces from a up to x lie aside -/
def AsD (m : Nat → Int32) (B a x : Nat) (g : Hp) : Prop := ∀ y, a ≤ y → y < x → gI g 97 y = m (B + 85 + y) ∧ gI g 98 y = m (B + 125 + y) ∧ ∀ l, l < 12 → gI g 99 (12 * y + l) = m (B + 165 + 12 * y + l)
def F99 (y : Nat) : Prop := y = 97 ∨ y = 98 ∨ y = 99
section
variable {g : Hp} {m : Nat → Int32} {B a n : Nat} {v2 v3 v4 v6 : Int32}
theorem r_chA (R : RS g) (em : gI g 74 = m) (hB : B + 645 ≤ 64630) (n40 : n ≤ 40) (an : a ≤ n) : ∃ g', MX12_changes_27 g 73 (nI B) v2 v3 v4 (nI n) v6 (nI a) = MX12_changes_126 g' 73 (nI B) v2 v3 v4 (nI n) v6 ∧ Fr F99 g g' ∧ AsD m B a n g' := by
  have K : ∀ d x e, x + d = n → a ≤ x → Fr F99 g e → AsD m B a x e → ∃ g', it (fun q : Int32 × Hp => BX12_changes_27 q.2 73 (nI B) v2 v3 v4 (nI n) v6 q.1) (nI x, e) = MX12_changes_126 g' 73 (nI B) v2 v3 v4 (nI n) v6 ∧ Fr F99 g g' ∧ AsD m B a n g' := fun d => by
    induction d with
    | zero =>
      intro x e hx hax F A
      have hx : x = n := hx
      subst hx
      refine ⟨e, it_u1 ?_, F, A⟩
      show BX12_changes_27 e 73 (nI B) v2 v3 v4 (nI x) v6 (nI x) = _
      unfold BX12_changes_27
      rw [if_pos (nI_le (Nat.le_refl _) (by omega))]
    | succ d ih =>
      intro x e hx hax F A
      have xn : x < n := by omega
      have Re : RS e := R.fr F
      have me : gI e 74 = m := by rw [F.2.2.2.2.2.2 74 (by unfold F99; omega)]; exact em
      obtain ⟨e2, he2⟩ : ∃ e2, e2 = sI (sI e 97 x (m (B + 85 + x))) 98 x (m (B + 125 + x)) := ⟨_, rfl⟩
      have G2 : Fr F99 e e2 := by rw [he2]; exact (Fr.sI (S := F99) (Or.inl rfl)).trans (Fr.sI (Or.inr (Or.inl rfl)))
      have w97 : ∀ y, gI e2 97 y = if y = x then m (B + 85 + x) else gI e 97 y := fun y => by rw [he2, gI_sI, if_neg (by decide), gI_sI, if_pos rfl, up_at]
      have w98 : ∀ y, gI e2 98 y = if y = x then m (B + 125 + x) else gI e 98 y := fun y => by rw [he2, gI_sI, if_pos rfl, gI_sI, if_neg (by decide), up_at]
      have w99 : gI e2 99 = gI e 99 := by rw [he2, gI_sI, if_neg (by decide), gI_sI, if_neg (by decide)]
      have K2 : ∃ z, it (fun q : Int32 × Hp => BX12_changes_75 q.2 73 (nI B) v2 v3 v4 (nI n) v6 (nI x) q.1) (nI 0, e2) = some z ∧ ∃ e3, z = .inl (nI (x + 1), e3) ∧ Fr F99 e e3 ∧ gI e3 97 = gI e2 97 ∧ gI e3 98 = gI e2 98 ∧ ∀ y, gI e3 99 y = if 12 * x ≤ y ∧ y < 12 * x + 12 then m (B + 165 + y) else gI e 99 y := by
        refine it_cnt (fun l y => y.1 = nI l ∧ Fr F99 e y.2 ∧ gI y.2 97 = gI e2 97 ∧ gI y.2 98 = gI e2 98 ∧ ∀ z, gI y.2 99 z = if 12 * x ≤ z ∧ z < 12 * x + l then m (B + 165 + z) else gI e 99 z) 12 (fun l y hl pp => ?_) (fun y pp => ?_) ⟨rfl, G2, rfl, rfl, fun z => by rw [if_neg (by omega)]; exact congrFun w99 z⟩
        · obtain ⟨c1, d1⟩ := y
          obtain ⟨p1, p2, p3, p4, p5⟩ := pp
          replace p1 : c1 = nI l := p1
          replace p2 : Fr F99 e d1 := p2
          replace p3 : gI d1 97 = gI e2 97 := p3
          replace p4 : gI d1 98 = gI e2 98 := p4
          replace p5 : ∀ z, gI d1 99 z = if 12 * x ≤ z ∧ z < 12 * x + l then m (B + 165 + z) else gI e 99 z := p5
          subst p1
          have Rd : RS d1 := Re.fr p2
          have md : gI d1 74 = m := by rw [p2.2.2.2.2.2.2 74 (by unfold F99; omega)]; exact me
          refine ⟨(nI (l + 1), sI d1 99 (12 * x + l) (m (B + 165 + 12 * x + l))), ?_, rfl, p2.trans (Fr.sI (Or.inr (Or.inr rfl))), ?_, ?_, fun z => ?_⟩
          · show BX12_changes_75 d1 73 (nI B) v2 v3 v4 (nI n) v6 (nI x) (nI l) = _
            unfold BX12_changes_75
            simp only [ZL, RS.f Rd]
            rw [if_neg (nI_ge hl (by omega)), gg_T, gg_T, nAdd, nMul, nAdd, nAdd, gg_in (by omega) (by omega), gg_T, nAdd, gg_in (by omega) (by omega), nCl (by omega), nCl (by omega), md, lt_eq, nAdd]
          · show gI (sI d1 99 _ _) 97 = _
            rw [gI_sI, if_neg (by decide)]; exact p3
          · show gI (sI d1 99 _ _) 98 = _
            rw [gI_sI, if_neg (by decide)]; exact p4
          · show gI (sI d1 99 (12 * x + l) _) 99 z = _
            rw [gI_sI, if_pos rfl, up_at, p5]
            by_cases u : z = 12 * x + l
            · rw [if_pos u, if_pos (by omega), u, Nat.add_assoc]
            · rw [if_neg u]
              by_cases w : 12 * x ≤ z ∧ z < 12 * x + l
              · rw [if_pos w, if_pos (by omega)]
              · rw [if_neg w, if_neg (by omega)]
        · obtain ⟨c1, d1⟩ := y
          obtain ⟨p1, p2, p3, p4, p5⟩ := pp
          replace p1 : c1 = nI 12 := p1
          subst p1
          refine ⟨.inl (nI (x + 1), d1), ?_, d1, rfl, p2, p3, p4, p5⟩
          show BX12_changes_75 d1 73 (nI B) v2 v3 v4 (nI n) v6 (nI x) (nI 12) = _
          unfold BX12_changes_75
          simp only [ZL]
          rw [if_pos (nI_le (Nat.le_refl _) (by omega)), nAdd]
      obtain ⟨z, k1, e3, rfl, k3, k4, k5, k6⟩ := K2
      have st : BX12_changes_27 e 73 (nI B) v2 v3 v4 (nI n) v6 (nI x) = some (.inl (nI (x + 1), e3)) := by
        have n1 : gI (sI e 97 x (m (B + 85 + x))) 74 = m := by rw [gI_sI, if_neg (by decide)]; exact me
        unfold BX12_changes_27 MX12_changes_75
        simp only [ZL, RS.f Re]
        rw [if_neg (nI_ge xn (by omega)), gg_T, gg_T, nAdd, nAdd, gg_in (by omega) (by omega), gg_T, gg_in (by omega) (by omega), nCl (by omega), nCl (by omega), me, lt_eq, nAdd, nAdd, gg_in (by omega) (by omega), gg_T, gg_in (by omega) (by omega), nCl (by omega), n1, lt_eq, ← he2]
        exact k1
      rw [it_next (s' := (nI (x + 1), e3)) st]
      refine ih (x + 1) e3 (by omega) (by omega) (F.trans k3) (fun y h1 h2 => ?_)
      rw [k4, k5, w97, w98]
      by_cases u : y = x
      · rw [if_pos u, if_pos u, u]
        exact ⟨rfl, rfl, fun l hl => by rw [k6, if_pos (by omega), ← Nat.add_assoc]⟩
      · rw [if_neg u, if_neg u]
        obtain ⟨q1, q2, q3⟩ := A y h1 (by omega)
        exact ⟨q1, q2, fun l hl => by rw [k6, if_neg (by omega)]; exact q3 l hl⟩
  unfold MX12_changes_27
  exact K (n - a) a g (by omega) (Nat.le_refl _) Fr.rfl (fun y h1 h2 => by omega)
end
