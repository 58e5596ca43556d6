/-! correct: the reference keeps the old lines -/
def Ro (g z : Hp) : Prop := Fr (fun b => b = 73 ∨ b = 90 ∨ b = 91 ∨ (93 ≤ b ∧ b ≤ 96)) g z ∧ ∀ j, j ≠ 35 → gI z 73 j = gI g 73 j
/-- the old lines op .. l are kept -/
def OL (z : Hp) (m : Nat → Int32) (q op l : Nat) : Prop := ∀ k, op ≤ k → k < l → gI z 94 k = nI (wtL m q k).length ∧ gI z 95 k = m (130 + 645 * q + 45 + k) - nI 1 ∧ ∀ i, i < (wtL m q k).length → gI z 93 (430 * k + i) = nI ((wtL m q k).getD i 0)
section
variable {h h1 g z z' : Hp} {m : Nat → Int32} {r c k q f op ol l n : Nat} {v1 v2 v3 v6 : Int32} {b : Bool}
theorem Ro.rfl : Ro g g := ⟨Fr.rfl, fun _ _ => Eq.refl _⟩
theorem Ro.tr (a : Ro g z) (b : Ro z z') : Ro g z' := ⟨a.1.trans b.1, fun j hj => (b.2 j hj).trans (a.2 j hj)⟩
theorem Ro.s {a i : Nat} {v : Int32} (h : 93 ≤ a ∧ a ≤ 96) : Ro g (sI g a i v) := ⟨Fr.sI (Or.inr (Or.inr (Or.inr h))), fun j _ => by rw [gI_sI, if_neg (by omega)]⟩
theorem Ro.rk (a : Ro g z) : Rk g z := ⟨a.1.mono (fun b z => by omega), a.2 0 (by omega), a.2 4 (by omega), a.2 6 (by omega), a.2 9 (by omega)⟩
theorem Rw.ro (a : Rw g z) : Ro g z := ⟨a.1.mono (fun b z => by omega), a.2⟩
theorem Ro.em (a : Ro g z) (e : gI g 74 = m) : gI z 74 = m := by rw [a.rk.g (by omega) (by omega)]; exact e
theorem OL.fr (A : OL z m q op l) (h3 : gI z' 93 = gI z 93) (h4 : gI z' 94 = gI z 94) (h5 : gI z' 95 = gI z 95) : OL z' m q op l := fun k h1 h2 => by
  rw [h3, h4, h5]
  exact A k h1 h2
/-- one old line is kept -/
theorem r_294s (R : RS z) (em : gI z 74 = m) (I : MI m) (vq : vP m q) (u3 : m (130 + 645 * q + 3) = nI 1) (h1 : op ≤ l) (hl : l < Nn m (130 + 645 * q + 4)) (A : OL z m q op l) (n1 : Int32) : ∃ z', BX12_correct_294 z 73 (nI q) v2 v3 (nI (130 + 645 * q)) n1 v6 (nI op) (nI (Nn m (130 + 645 * q + 4))) (nI l) = some (.inl (nI (l + 1), z')) ∧ Ro z z' ∧ OL z' m q op (l + 1) := by
  have q1 := vq.1
  have J := I.2.1 q vq
  obtain ⟨-, l40⟩ := J.2.2.2.2.2.1.eq (by omega)
  have H := ln_set I vq u3 hl
  obtain ⟨z1, k1, k2, k3, k4, -⟩ := r_write R em I.1 vq J H
  obtain ⟨L, hL⟩ : ∃ L, L = wtL m q l := ⟨_, rfl⟩
  have b401 : L.length ≤ 401 := by rw [hL]; exact H.2.2.2.2.2
  replace k3 : gI z1 73 35 = nI L.length := by rw [hL]; exact k3
  replace k4 : PLs z1 90 L := by rw [hL]; exact k4
  have R1 : RS z1 := R.fr k2.1
  have em1 : gI z1 74 = m := k2.em em
  obtain ⟨z2, hz2⟩ : ∃ z2, z2 = sI z1 94 l (nI L.length) := ⟨_, rfl⟩
  obtain ⟨z3, hz3⟩ : ∃ z3, z3 = sI z2 95 l (m (130 + 645 * q + 45 + l) - nI 1) := ⟨_, rfl⟩
  have R2 : RS z2 := by rw [hz2]; exact R1.sI
  have R3 : RS z3 := by rw [hz3]; exact R2.sI
  have F3 : Ro z1 z3 := by rw [hz3, hz2]; exact (Ro.s (by omega)).tr (Ro.s (by omega))
  have e74 : gI z2 74 = m := by rw [hz2, gI_sI, if_neg (by decide)]; exact em1
  have e3_90 : gI z3 90 = gI z1 90 := by rw [hz3, gI_sI, if_neg (by decide), hz2, gI_sI, if_neg (by decide)]
  have e3_35 : gI z3 73 35 = nI L.length := by rw [hz3, gI_sI, if_neg (by decide), hz2, gI_sI, if_neg (by decide)]; exact k3
  -- the bytes
  have K : ∃ r, it (fun y : Int32 × Hp => BX12_correct_344 y.2 73 (nI q) v2 v3 (nI (130 + 645 * q)) n1 v6 (nI op) (nI (Nn m (130 + 645 * q + 4))) (nI l) y.1) (nI 0, z3) = some r ∧ ∃ z4, r = .inl (nI (l + 1), z4) ∧ Fr (fun b => b = 93) z3 z4 ∧ (∀ i, i < L.length → gI z4 93 (430 * l + i) = nI (L.getD i 0)) ∧ ∀ y, (y < 430 * l ∨ 430 * l + 430 ≤ y) → gI z4 93 y = gI z3 93 y := by
    refine it_cnt (fun i y => y.1 = nI i ∧ Fr (fun b => b = 93) z3 y.2 ∧ (∀ k, k < i → gI y.2 93 (430 * l + k) = nI (L.getD k 0)) ∧ ∀ x, (x < 430 * l ∨ 430 * l + 430 ≤ x) → gI y.2 93 x = gI z3 93 x) L.length (fun i y hi pp => ?_) (fun y pp => ?_) ⟨rfl, Fr.rfl, fun k hk => absurd hk (by omega), fun x _ => rfl⟩
    · obtain ⟨u, w⟩ := y
      obtain ⟨p1, p2, p3, p4⟩ := pp
      replace p1 : u = nI i := p1
      replace p2 : Fr (fun b => b = 93) z3 w := p2
      replace p3 : ∀ k, k < i → gI w 93 (430 * l + k) = nI (L.getD k 0) := p3
      replace p4 : ∀ x, (x < 430 * l ∨ 430 * l + 430 ≤ x) → gI w 93 x = gI z3 93 x := p4
      subst p1
      have Rw1 : RS w := R3.fr p2
      have e90 : gI w 90 i = nI (L.getD i 0) := by rw [p2.2.2.2.2.2.2 90 (by decide), e3_90]; exact k4 i hi
      have e35 : gI w 73 35 = nI L.length := by rw [p2.2.2.2.2.2.2 73 (by decide)]; exact e3_35
      refine ⟨(nI (i + 1), sI w 93 (430 * l + i) (nI (L.getD i 0))), ?_, rfl, p2.trans (Fr.sI (S := fun b => b = 93) rfl), fun k hk => ?_, fun x hx => ?_⟩
      · show BX12_correct_344 w 73 (nI q) v2 v3 (nI (130 + 645 * q)) n1 v6 (nI op) (nI (Nn m (130 + 645 * q + 4))) (nI l) (nI i) = _
        unfold BX12_correct_344
        simp only [ZL, RS.f Rw1]
        rw [gg_T, e35, if_neg (nI_ge hi (by omega)), gg_T, gg_in (by omega) (by omega), gg_T, nMul, nAdd, gg_in (by omega) (by omega), nCl (by omega), nCl (by omega), e90, lt_eq, nAdd]
      · show gI (sI w 93 (430 * l + i) (nI (L.getD i 0))) 93 (430 * l + k) = _
        rw [gI_sI, if_pos rfl, up_at]
        by_cases e : k = i
        · rw [if_pos (by omega), e]
        · rw [if_neg (by omega)]; exact p3 k (by omega)
      · show gI (sI w 93 (430 * l + i) (nI (L.getD i 0))) 93 x = _
        rw [gI_sI, if_pos rfl, up_at, if_neg (by omega)]
        exact p4 x hx
    · obtain ⟨u, w⟩ := y
      obtain ⟨p1, p2, p3, p4⟩ := pp
      replace p1 : u = nI L.length := p1
      replace p2 : Fr (fun b => b = 93) z3 w := p2
      replace p3 : ∀ k, k < L.length → gI w 93 (430 * l + k) = nI (L.getD k 0) := p3
      replace p4 : ∀ x, (x < 430 * l ∨ 430 * l + 430 ≤ x) → gI w 93 x = gI z3 93 x := p4
      subst p1
      have Rw1 : RS w := R3.fr p2
      have e35 : gI w 73 35 = nI L.length := by rw [p2.2.2.2.2.2.2 73 (by decide)]; exact e3_35
      refine ⟨.inl (nI (l + 1), w), ?_, w, rfl, p2, p3, p4⟩
      show BX12_correct_344 w 73 (nI q) v2 v3 (nI (130 + 645 * q)) n1 v6 (nI op) (nI (Nn m (130 + 645 * q + 4))) (nI l) (nI L.length) = _
      unfold BX12_correct_344
      simp only [ZL, RS.f Rw1]
      rw [gg_T, e35, if_pos (nI_le (Nat.le_refl _) (by omega)), nAdd]
  obtain ⟨r, y1, z4, rfl, y2, y3, y4⟩ := K
  refine ⟨z4, ?_, (k2.ro.tr F3).tr ⟨y2.mono (fun b hb => by omega), fun j _ => by rw [y2.2.2.2.2.2.2 73 (by decide)]⟩, fun k hk1 hk2 => ?_⟩
  · unfold BX12_correct_294 MX12_correct_344
    simp only [ZL, RS.f R]
    rw [if_neg (nI_ge hl (by omega)), gg_T, k1, ob_some]
    simp only [RS.f R1]
    rw [gg_T, gg_T, gg_in (by omega) (by omega), nCl (by omega), k3, lt_eq, ← hz2, gg_T, nAdd, nAdd, gg_in (by omega) (by omega), gg_T, gg_in (by omega) (by omega), nCl (by omega), e74, lt_eq, ← hz3]
    exact y1
  · have c94 : gI z4 94 k = if k = l then nI L.length else gI z1 94 k := by
      rw [y2.2.2.2.2.2.2 94 (by decide), hz3, gI_sI, if_neg (by decide), hz2, gI_sI, if_pos rfl, up_at]
    have c95 : gI z4 95 k = if k = l then m (130 + 645 * q + 45 + l) - nI 1 else gI z1 95 k := by
      rw [y2.2.2.2.2.2.2 95 (by decide), hz3, gI_sI, if_pos rfl, up_at, hz2, gI_sI, if_neg (show ¬ 95 = 94 by decide)]
    have o1 : ∀ b, b = 93 ∨ b = 94 ∨ b = 95 → gI z1 b = gI z b := fun b hb => k2.1.2.2.2.2.2.2 b (by omega)
    by_cases e : k = l
    · subst e
      rw [c94, c95, if_pos rfl, if_pos rfl, ← hL]
      exact ⟨rfl, rfl, y3⟩
    · obtain ⟨a1, a2, a3⟩ := A k hk1 (by omega)
      have bk : (wtL m q k).length ≤ 401 := (ln_set I vq u3 (l := k) (by omega)).2.2.2.2.2
      rw [c94, c95, if_neg e, if_neg e, o1 94 (by omega), o1 95 (by omega)]
      refine ⟨a1, a2, fun i hi => ?_⟩
      rw [y4 _ (by omega), hz3, gI_sI, if_neg (by decide), hz2, gI_sI, if_neg (by decide), o1 93 (by omega)]
      exact a3 i hi
/-- all old lines from op on are kept -/
theorem r_279 (R : RS g) (em : gI g 74 = m) (I : MI m) (vq : vP m q) (u3 : m (130 + 645 * q + 3) = nI 1) (ho : op ≤ Nn m (130 + 645 * q + 4)) (n1 : Int32) : ∃ z, MX12_correct_279 g 73 (nI q) v2 v3 (nI (130 + 645 * q)) n1 v6 (nI op) = MX12_correct_386 z 73 (nI q) v2 v3 (nI (130 + 645 * q)) n1 v6 (nI op) (nI (Nn m (130 + 645 * q + 4))) ∧ Ro g z ∧ OL z m q op (Nn m (130 + 645 * q + 4)) := by
  have q1 := vq.1
  obtain ⟨e4, l40⟩ := (I.2.1 q vq).2.2.2.2.2.1.eq (by omega)
  have K : ∀ d l z, l + d = Nn m (130 + 645 * q + 4) → op ≤ l → Ro g z → OL z m q op l → ∃ z', it (fun y : Int32 × Hp => BX12_correct_294 y.2 73 (nI q) v2 v3 (nI (130 + 645 * q)) n1 v6 (nI op) (nI (Nn m (130 + 645 * q + 4))) y.1) (nI l, z) = MX12_correct_386 z' 73 (nI q) v2 v3 (nI (130 + 645 * q)) n1 v6 (nI op) (nI (Nn m (130 + 645 * q + 4))) ∧ Ro g z' ∧ OL z' m q op (Nn m (130 + 645 * q + 4)) := fun d => by
    induction d with
    | zero =>
      intro l z hl h1 F A
      have hl : l = Nn m (130 + 645 * q + 4) := hl
      subst hl
      refine ⟨z, it_u1 ?_, F, A⟩
      show BX12_correct_294 z 73 (nI q) v2 v3 (nI (130 + 645 * q)) n1 v6 (nI op) (nI (Nn m (130 + 645 * q + 4))) (nI (Nn m (130 + 645 * q + 4))) = _
      unfold BX12_correct_294
      rw [if_pos (nI_le (Nat.le_refl _) (by omega))]
    | succ d ih =>
      intro l z hl h1 F A
      obtain ⟨z', a1, a2, a3⟩ := r_294s (v2 := v2) (v3 := v3) (v6 := v6) (R.fr F.1) (F.em em) I vq u3 h1 (by omega) A n1
      obtain ⟨z'', b1, b2⟩ := ih (l + 1) z' (by omega) (by omega) (F.tr a2) a3
      exact ⟨z'', by rw [it_next (s' := (nI (l + 1), z')) a1]; exact b1, b2⟩
  obtain ⟨z, k1, k2⟩ := K (Nn m (130 + 645 * q + 4) - op) op g (by omega) (Nat.le_refl _) Ro.rfl (fun k h1 h2 => by omega)
  refine ⟨z, ?_, k2⟩
  unfold MX12_correct_279 MX12_correct_294
  simp only [ZL, RS.f R]
  rw [gg_T, gg_T, nAdd, gg_in (by omega) (by omega), nCl (by omega), em, e4]
  exact k1
/-- the part is put aside -/
theorem r_386 (R : RS g) (em : gI g 74 = m) (J : MIp m q) (vq : vP m q) (n40 : nP m q ≤ 40) {a b : Nat} (H : Ln m q op a b) (n1 n2 : Int32) : ∃ z, MX12_correct_386 g 73 (nI q) v2 v3 (nI (130 + 645 * q)) n1 v6 (nI op) n2 = MX12_correct_430 z 73 (nI q) v2 v3 (nI (130 + 645 * q)) n1 v6 (nI op) n2 (nI a) ∧ Fr (fun b => b = 96) g z ∧ ∀ x, x < 645 → gI z 96 x = m (130 + 645 * q + x) := by
  have hq := vq.1
  have K : ∀ d x z, x + d = 645 → Fr (fun b => b = 96) g z → (∀ y, y < x → gI z 96 y = m (130 + 645 * q + y)) → ∃ z', it (fun y : Int32 × Hp => BX12_correct_399 y.2 73 (nI q) v2 v3 (nI (130 + 645 * q)) n1 v6 (nI op) n2 (nI a) y.1) (nI x, z) = MX12_correct_430 z' 73 (nI q) v2 v3 (nI (130 + 645 * q)) n1 v6 (nI op) n2 (nI a) ∧ Fr (fun b => b = 96) g z' ∧ ∀ x, x < 645 → gI z' 96 x = m (130 + 645 * q + x) := fun d => by
    induction d with
    | zero =>
      intro x z hx F A
      have hx : x = 645 := hx
      subst hx
      refine ⟨z, it_u1 ?_, F, A⟩
      show BX12_correct_399 z 73 (nI q) v2 v3 (nI (130 + 645 * q)) n1 v6 (nI op) n2 (nI a) (nI 645) = _
      unfold BX12_correct_399
      simp only [ZL]
      rw [if_pos (nI_le (Nat.le_refl _) (by omega))]
    | succ d ih =>
      intro x z hx F A
      have Rz : RS z := R.fr F
      have ez : gI z 74 = m := by rw [F.2.2.2.2.2.2 74 (by decide)]; exact em
      have st : BX12_correct_399 z 73 (nI q) v2 v3 (nI (130 + 645 * q)) n1 v6 (nI op) n2 (nI a) (nI x) = some (.inl (nI (x + 1), sI z 96 x (m (130 + 645 * q + x)))) := by
        unfold BX12_correct_399
        simp only [ZL, RS.f Rz]
        rw [if_neg (nI_ge (by omega) (by omega)), gg_T, gg_T, nAdd, gg_in (by omega) (by omega), gg_T, gg_in (by omega) (by omega), nCl (by omega), nCl (by omega), ez, lt_eq, nAdd]
      obtain ⟨z', b1, b2⟩ := ih (x + 1) (sI z 96 x (m (130 + 645 * q + x))) (by omega) (F.trans (Fr.sI (S := fun b => b = 96) rfl)) (fun y hy => by
        rw [gI_sI, if_pos rfl, up_at]
        by_cases e : y = x
        · rw [if_pos e, e]
        · rw [if_neg e]; exact A y (by omega))
      exact ⟨z', by rw [it_next (s' := (nI (x + 1), sI z 96 x (m (130 + 645 * q + x)))) st]; exact b1, b2⟩
  obtain ⟨z, k1, k2⟩ := K 645 0 g (Nat.zero_add _) Fr.rfl (fun y hy => by omega)
  refine ⟨z, ?_, k2⟩
  unfold MX12_correct_386 MX12_correct_399
  simp only [ZL]
  rw [gg_t (RS.f R).1, r_begins R em vq n40 H, ob_some]
  exact k1
end
