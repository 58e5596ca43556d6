/-! correct: the memory when lines op .. d have been laid anew -/
/-- cell y says where a slug lies that lay at part q, at a line of op .. d -/
abbrev lieX (m : Nat → Int32) (q op d y : Nat) : Prop := 64630 ≤ y ∧ y < 320230 ∧ 4 ≤ (y - 64630) % 852 ∧ (y - 64630) % 852 ≤ 6 ∧ (y - 64630) / 852 < Nn m 4 ∧ m (64630 + 852 * ((y - 64630) / 852) + 4) = nI 0 ∧ Nn m (64630 + 852 * ((y - 64630) / 852) + 6) = q ∧ op ≤ Nn m (64630 + 852 * ((y - 64630) / 852) + 5) ∧ Nn m (64630 + 852 * ((y - 64630) / 852) + 5) < d
/-- line l of ol old ones goes to the pot, or, of the last sm, to l + nl - ol -/
def laM (m M2 : Nat → Int32) (q op ol nl sm d : Nat) : Nat → Int32 := fun y =>
  if 130 + 645 * q + 45 + (nl - sm) ≤ y ∧ y < 130 + 645 * q + 45 + nl ∧ y + ol < 130 + 645 * q + 45 + nl + d then m (y + ol - nl)
  else if lieX m q op d y then (if Nn m (64630 + 852 * ((y - 64630) / 852) + 5) < ol - sm then (if (y - 64630) % 852 = 4 then nI 2 else -nI 1) else if (y - 64630) % 852 = 5 then nI (Nn m (64630 + 852 * ((y - 64630) / 852) + 5) + nl - ol) else m y)
  else M2 y
section
variable {m M M2 : Nat → Int32} {q op ol nl sm d s l x y : Nat}
/-- slugs of part q and its places -/
theorem lk_p (I : MI m) (vq : vP m q) (u3 : m (130 + 645 * q + 3) = nI 1) (hl : l < Nn m (130 + 645 * q + 4)) : (m (130 + 645 * q + 45 + l) = nI 0 ∨ ∃ s, s < Nn m 4 ∧ m (130 + 645 * q + 45 + l) = nI (s + 1) ∧ m (64630 + 852 * s + 4) = nI 0 ∧ m (64630 + 852 * s + 5) = nI l ∧ m (64630 + 852 * s + 6) = nI q) := by
  obtain ⟨-, -, -, c3⟩ := (I.2.1 q vq).2.2.2.2.2.2.2.2.2.2.2 u3
  obtain ⟨-, c4, -, c5⟩ := c3 l hl
  obtain ⟨a1, a2⟩ := c4.eq (by omega)
  by_cases z : Nn m (130 + 645 * q + 45 + l) = 0
  · exact Or.inl (by rw [a1, z])
  · have nz : m (130 + 645 * q + 45 + l) ≠ nI 0 := fun e => z (by unfold Nn; rw [e, nCl (by omega)])
    obtain ⟨d1, d2, d3, d4⟩ := c5 nz
    exact Or.inr ⟨Nn m (130 + 645 * q + 45 + l) - 1, by omega, by rw [show Nn m (130 + 645 * q + 45 + l) - 1 + 1 = Nn m (130 + 645 * q + 45 + l) by omega]; exact a1, d2, d3, d4⟩
theorem lk_s (I : MI m) (hs : s < Nn m 4) (z4 : m (64630 + 852 * s + 4) = nI 0) (z6 : Nn m (64630 + 852 * s + 6) = q) : m (130 + 645 * q + 3) = nI 1 ∧ Nn m (64630 + 852 * s + 5) < Nn m (130 + 645 * q + 4) ∧ m (130 + 645 * q + 45 + Nn m (64630 + 852 * s + 5)) = nI (s + 1) ∧ m (64630 + 852 * s + 5) = nI (Nn m (64630 + 852 * s + 5)) ∧ m (64630 + 852 * s + 6) = nI q ∧ Nn m (64630 + 852 * s + 5) ≤ 39 := by
  obtain ⟨-, f4⟩ := I.1.f.2.2.2.2.1
  obtain ⟨c1, c2, c3, c4, c5, c6⟩ := (I.2.2.1 s hs).2.2.2.2.2.2.2.2.2.2.2.2.2.2.2.2 z4
  obtain ⟨d1, d2⟩ := c1.eq (by omega)
  obtain ⟨e1, e2⟩ := c2.eq (by omega)
  rw [z6] at c3 c4 c5 c6 e1
  exact ⟨c4, c5, c6, d1, e1, d2⟩
theorem la_0 (hs : sm ≤ ol - op) (h1 : op ≤ ol) : laM m M2 q op ol nl sm op = M2 := by
  funext y
  unfold laM
  rw [if_neg (by omega), if_neg (fun z => by obtain ⟨-, -, -, -, -, -, -, z1, z2⟩ := z; omega)]
/-- what the memory says: of a slug -/
theorem la_y (e1 : (y - 64630) / 852 = s) (e2 : (y - 64630) % 852 = x) (g1 : 64630 ≤ y) (g2 : y < 320230) (h1 : 4 ≤ x) (h2 : x ≤ 6) (hb : 130 + 645 * q + 45 + nl ≤ 64630) : laM m M2 q op ol nl sm d y = if s < Nn m 4 ∧ m (64630 + 852 * s + 4) = nI 0 ∧ Nn m (64630 + 852 * s + 6) = q ∧ op ≤ Nn m (64630 + 852 * s + 5) ∧ Nn m (64630 + 852 * s + 5) < d then (if Nn m (64630 + 852 * s + 5) < ol - sm then (if x = 4 then nI 2 else -nI 1) else if x = 5 then nI (Nn m (64630 + 852 * s + 5) + nl - ol) else m y) else M2 y := by
  have iff : lieX m q op d y ↔ (s < Nn m 4 ∧ m (64630 + 852 * s + 4) = nI 0 ∧ Nn m (64630 + 852 * s + 6) = q ∧ op ≤ Nn m (64630 + 852 * s + 5) ∧ Nn m (64630 + 852 * s + 5) < d) := by
    unfold lieX
    rw [e1, e2]
    exact ⟨fun z => z.2.2.2.2, fun z => ⟨g1, g2, h1, h2, z⟩⟩
  unfold laM
  rw [if_neg (fun z => absurd z.2.1 (Nat.not_lt.mpr (Nat.le_trans hb g1)))]
  by_cases z : s < Nn m 4 ∧ m (64630 + 852 * s + 4) = nI 0 ∧ Nn m (64630 + 852 * s + 6) = q ∧ op ≤ Nn m (64630 + 852 * s + 5) ∧ Nn m (64630 + 852 * s + 5) < d
  · rw [if_pos z, if_pos (iff.mpr z), e1, e2]
  · rw [if_neg z, if_neg (fun w => z (iff.mp w))]
theorem la_s (h1 : 4 ≤ x) (h2 : x ≤ 6) (hs : s < 300) (hb : 130 + 645 * q + 45 + nl ≤ 64630) : laM m M2 q op ol nl sm d (64630 + 852 * s + x) = if s < Nn m 4 ∧ m (64630 + 852 * s + 4) = nI 0 ∧ Nn m (64630 + 852 * s + 6) = q ∧ op ≤ Nn m (64630 + 852 * s + 5) ∧ Nn m (64630 + 852 * s + 5) < d then (if Nn m (64630 + 852 * s + 5) < ol - sm then (if x = 4 then nI 2 else -nI 1) else if x = 5 then nI (Nn m (64630 + 852 * s + 5) + nl - ol) else m (64630 + 852 * s + x)) else M2 (64630 + 852 * s + x) := by
  obtain ⟨y, hy⟩ : ∃ y, y = 64630 + 852 * s + x := ⟨_, rfl⟩
  rw [← hy]
  exact la_y (by omega) (by omega) (by omega) (by omega) h1 h2 hb
/-- of a place -/
theorem la_p (hq : q < 100) (hl : l < 40) (h1 : sm ≤ nl) : laM m M2 q op ol nl sm d (130 + 645 * q + 45 + l) = if nl - sm ≤ l ∧ l < nl ∧ l + ol < nl + d then m (130 + 645 * q + 45 + l + ol - nl) else M2 (130 + 645 * q + 45 + l) := by
  unfold laM
  by_cases z : nl - sm ≤ l ∧ l < nl ∧ l + ol < nl + d
  · rw [if_pos z, if_pos (by omega)]
  · rw [if_neg z, if_neg (by omega), if_neg (fun w => by have := w.1; omega)]
/-- elsewhere -/
theorem la_o (h : y < 130 + 645 * q + 45 ∨ 130 + 645 * q + 85 ≤ y) (hn : nl ≤ 40) (hx : ¬ slX y) : laM m M2 q op ol nl sm d y = M2 y := by
  unfold laM
  rw [if_neg (by omega), if_neg (fun w => hx ⟨w.1, w.2.1, w.2.2.1, w.2.2.2.1⟩)]
/-- nothing lies at line d -/
theorem la_e (I : MI m) (vq : vP m q) (u3 : m (130 + 645 * q + 3) = nI 1) (h1 : op ≤ d) (h2 : d < ol) (eol : ol = Nn m (130 + 645 * q + 4)) (hsm : sm ≤ ol - op) (hsn : sm ≤ nl - op) (hn : nl ≤ 40) (ho : op ≤ nl) (hz : m (130 + 645 * q + 45 + d) = nI 0) (h45 : ∀ l, op ≤ l → l < nl → M2 (130 + 645 * q + 45 + l) = nI 0) : laM m M2 q op ol nl sm (d + 1) = laM m M2 q op ol nl sm d := by
  have q1 := vq.1
  obtain ⟨-, f4⟩ := I.1.f.2.2.2.2.1
  have l40 := ((I.2.1 q vq).2.2.2.2.2.1.eq (by omega)).2
  funext y
  by_cases z1 : slX y
  · obtain ⟨s, x, hx1, hx2, hs, rfl⟩ : ∃ s x, 4 ≤ x ∧ x ≤ 6 ∧ s < 300 ∧ y = 64630 + 852 * s + x := by
      obtain ⟨a, b, c, e⟩ := z1
      exact ⟨(y - 64630) / 852, (y - 64630) % 852, c, e, by omega, by omega⟩
    rw [la_s hx1 hx2 hs (by omega), la_s hx1 hx2 hs (by omega)]
    by_cases z : s < Nn m 4 ∧ m (64630 + 852 * s + 4) = nI 0 ∧ Nn m (64630 + 852 * s + 6) = q ∧ op ≤ Nn m (64630 + 852 * s + 5) ∧ Nn m (64630 + 852 * s + 5) < d
    · rw [if_pos z, if_pos ⟨z.1, z.2.1, z.2.2.1, z.2.2.2.1, by omega⟩]
    · rw [if_neg z, if_neg (fun w => ?_)]
      obtain ⟨w1, w2, w3, w4, w5⟩ := w
      have wd : Nn m (64630 + 852 * s + 5) = d := Classical.byContradiction fun e => z ⟨w1, w2, w3, w4, by omega⟩
      have := (lk_s I w1 w2 w3).2.2.1
      rw [wd, hz, nEq (by omega) (by omega)] at this
      omega
  · by_cases z2 : 130 + 645 * q + 45 ≤ y ∧ y < 130 + 645 * q + 85
    · obtain ⟨l, hl, rfl⟩ : ∃ l, l < 40 ∧ y = 130 + 645 * q + 45 + l := ⟨y - (130 + 645 * q + 45), by omega, by omega⟩
      rw [la_p q1 hl (by omega), la_p q1 hl (by omega)]
      by_cases z : nl - sm ≤ l ∧ l < nl ∧ l + ol < nl + d
      · rw [if_pos z, if_pos (by omega)]
      · rw [if_neg z]
        by_cases w : nl - sm ≤ l ∧ l < nl ∧ l + ol < nl + (d + 1)
        · rw [if_pos w, show 130 + 645 * q + 45 + l + ol - nl = 130 + 645 * q + 45 + d by omega, hz, h45 l (by omega) (by omega)]
        · rw [if_neg w]
    · rw [la_o (by omega) hn z1, la_o (by omega) hn z1]
/-- the slug at line d goes to the pot -/
theorem la_t (I : MI m) (vq : vP m q) (h1 : op ≤ d) (h2 : d < ol - sm) (hn : nl ≤ 40) (ho : ol ≤ 40) (hs : s < Nn m 4) (hp : m (130 + 645 * q + 45 + d) = nI (s + 1)) (z4 : m (64630 + 852 * s + 4) = nI 0) (z5 : m (64630 + 852 * s + 5) = nI d) (z6 : m (64630 + 852 * s + 6) = nI q) (hsm : sm ≤ nl) : laM m M2 q op ol nl sm (d + 1) = va_up (va_up (va_up (laM m M2 q op ol nl sm d) (64630 + 852 * s + 4) (nI 2)) (64630 + 852 * s + 5) (-nI 1)) (64630 + 852 * s + 6) (-nI 1) := by
  have q1 := vq.1
  obtain ⟨-, f4⟩ := I.1.f.2.2.2.2.1
  have n5 : Nn m (64630 + 852 * s + 5) = d := by unfold Nn; rw [z5, nCl (by omega)]
  have n6 : Nn m (64630 + 852 * s + 6) = q := by unfold Nn; rw [z6, nCl (by omega)]
  funext y
  rw [up_at, up_at, up_at]
  by_cases z1 : slX y
  · obtain ⟨s', x, hx1, hx2, hs', rfl⟩ : ∃ s x, 4 ≤ x ∧ x ≤ 6 ∧ s < 300 ∧ y = 64630 + 852 * s + x := by
      obtain ⟨a, b, c, e⟩ := z1
      exact ⟨(y - 64630) / 852, (y - 64630) % 852, c, e, by omega, by omega⟩
    rw [la_s hx1 hx2 hs' (by omega), la_s hx1 hx2 hs' (by omega)]
    by_cases ss : s' = s
    · subst ss
      rw [if_pos ⟨hs, z4, n6, by omega, by omega⟩, n5, if_pos h2]
      rcases (show x = 4 ∨ x = 5 ∨ x = 6 by omega) with rfl | rfl | rfl
      · rw [if_pos rfl, if_neg (by omega), if_neg (by omega), if_pos rfl]
      · rw [if_neg (by omega), if_neg (by omega), if_pos rfl]
      · rw [if_neg (by omega), if_pos rfl]
    · rw [if_neg (show ¬ 64630 + 852 * s' + x = 64630 + 852 * s + 6 by omega), if_neg (show ¬ 64630 + 852 * s' + x = 64630 + 852 * s + 5 by omega), if_neg (show ¬ 64630 + 852 * s' + x = 64630 + 852 * s + 4 by omega)]
      by_cases z : s' < Nn m 4 ∧ m (64630 + 852 * s' + 4) = nI 0 ∧ Nn m (64630 + 852 * s' + 6) = q ∧ op ≤ Nn m (64630 + 852 * s' + 5) ∧ Nn m (64630 + 852 * s' + 5) < d
      · rw [if_pos z, if_pos ⟨z.1, z.2.1, z.2.2.1, z.2.2.2.1, by omega⟩]
      · rw [if_neg z, if_neg (fun w => ?_)]
        obtain ⟨w1, w2, w3, w4, w5⟩ := w
        have wd : Nn m (64630 + 852 * s' + 5) = d := Classical.byContradiction fun e => z ⟨w1, w2, w3, w4, by omega⟩
        have := (lk_s I w1 w2 w3).2.2.1
        rw [wd, hp, nEq (by omega) (by omega)] at this
        omega
  · have ny : ∀ x, 4 ≤ x → x ≤ 6 → y ≠ 64630 + 852 * s + x := fun x h1 h2 e => z1 (by unfold slX; omega)
    rw [if_neg (ny 6 (by omega) (by omega)), if_neg (ny 5 (by omega) (by omega)), if_neg (ny 4 (by omega) (by omega))]
    by_cases z2 : 130 + 645 * q + 45 ≤ y ∧ y < 130 + 645 * q + 85
    · obtain ⟨l, hl, rfl⟩ : ∃ l, l < 40 ∧ y = 130 + 645 * q + 45 + l := ⟨y - (130 + 645 * q + 45), by omega, by omega⟩
      rw [la_p q1 hl hsm, la_p q1 hl hsm]
      by_cases z : nl - sm ≤ l ∧ l < nl ∧ l + ol < nl + d
      · rw [if_pos z, if_pos (by omega)]
      · rw [if_neg z, if_neg (by omega)]
    · rw [la_o (by omega) hn z1, la_o (by omega) hn z1]
/-- the slug at line d goes to line d - ol + nl -/
theorem la_m (I : MI m) (vq : vP m q) (h1 : op ≤ d) (h2 : ol - sm ≤ d) (h3 : d < ol) (hsm : sm ≤ ol - op) (hn : nl ≤ 40) (ho : ol ≤ 40) (hs : s < Nn m 4) (hp : m (130 + 645 * q + 45 + d) = nI (s + 1)) (z4 : m (64630 + 852 * s + 4) = nI 0) (z5 : m (64630 + 852 * s + 5) = nI d) (z6 : m (64630 + 852 * s + 6) = nI q) (hs2 : sm ≤ nl) (hM : M2 (64630 + 852 * s + 4) = nI 0) : laM m M2 q op ol nl sm (d + 1) = va_up (va_up (va_up (laM m M2 q op ol nl sm d) (64630 + 852 * s + 5) (nI (d + nl - ol))) (64630 + 852 * s + 6) (nI q)) (130 + 645 * q + 45 + (d + nl - ol)) (nI (s + 1)) := by
  have q1 := vq.1
  obtain ⟨-, f4⟩ := I.1.f.2.2.2.2.1
  have n5 : Nn m (64630 + 852 * s + 5) = d := by unfold Nn; rw [z5, nCl (by omega)]
  have n6 : Nn m (64630 + 852 * s + 6) = q := by unfold Nn; rw [z6, nCl (by omega)]
  funext y
  rw [up_at, up_at, up_at]
  by_cases z1 : slX y
  · obtain ⟨s', x, hx1, hx2, hs', rfl⟩ : ∃ s x, 4 ≤ x ∧ x ≤ 6 ∧ s < 300 ∧ y = 64630 + 852 * s + x := by
      obtain ⟨a, b, c, e⟩ := z1
      exact ⟨(y - 64630) / 852, (y - 64630) % 852, c, e, by omega, by omega⟩
    rw [if_neg (show ¬ 64630 + 852 * s' + x = 130 + 645 * q + 45 + (d + nl - ol) by omega), la_s hx1 hx2 hs' (by omega), la_s hx1 hx2 hs' (by omega)]
    by_cases ss : s' = s
    · subst ss
      rw [if_pos ⟨hs, z4, n6, by omega, by omega⟩, n5, if_neg (show ¬ d < ol - sm by omega)]
      rcases (show x = 4 ∨ x = 5 ∨ x = 6 by omega) with rfl | rfl | rfl
      · rw [if_neg (by omega), if_neg (by omega), if_neg (by omega), if_neg (fun w => by omega), z4, hM]
      · rw [if_pos rfl, if_neg (by omega), if_pos rfl]
      · rw [if_neg (by omega), if_pos rfl, z6]
    · rw [if_neg (show ¬ 64630 + 852 * s' + x = 64630 + 852 * s + 6 by omega), if_neg (show ¬ 64630 + 852 * s' + x = 64630 + 852 * s + 5 by omega)]
      by_cases z : s' < Nn m 4 ∧ m (64630 + 852 * s' + 4) = nI 0 ∧ Nn m (64630 + 852 * s' + 6) = q ∧ op ≤ Nn m (64630 + 852 * s' + 5) ∧ Nn m (64630 + 852 * s' + 5) < d
      · rw [if_pos z, if_pos ⟨z.1, z.2.1, z.2.2.1, z.2.2.2.1, by omega⟩]
      · rw [if_neg z, if_neg (fun w => ?_)]
        obtain ⟨w1, w2, w3, w4, w5⟩ := w
        have wd : Nn m (64630 + 852 * s' + 5) = d := Classical.byContradiction fun e => z ⟨w1, w2, w3, w4, by omega⟩
        have := (lk_s I w1 w2 w3).2.2.1
        rw [wd, hp, nEq (by omega) (by omega)] at this
        omega
  · have ny : ∀ x, 4 ≤ x → x ≤ 6 → y ≠ 64630 + 852 * s + x := fun x h1 h2 e => z1 (by unfold slX; omega)
    rw [if_neg (ny 6 (by omega) (by omega)), if_neg (ny 5 (by omega) (by omega))]
    by_cases z2 : 130 + 645 * q + 45 ≤ y ∧ y < 130 + 645 * q + 85
    · obtain ⟨l, hl, rfl⟩ : ∃ l, l < 40 ∧ y = 130 + 645 * q + 45 + l := ⟨y - (130 + 645 * q + 45), by omega, by omega⟩
      rw [la_p q1 hl hs2, la_p q1 hl hs2]
      by_cases e : l = d + nl - ol
      · rw [if_pos (show 130 + 645 * q + 45 + l = 130 + 645 * q + 45 + (d + nl - ol) by omega), if_pos (by omega), show 130 + 645 * q + 45 + l + ol - nl = 130 + 645 * q + 45 + d by omega, hp]
      · rw [if_neg (show ¬ 130 + 645 * q + 45 + l = 130 + 645 * q + 45 + (d + nl - ol) by omega)]
        by_cases z : nl - sm ≤ l ∧ l < nl ∧ l + ol < nl + d
        · rw [if_pos z, if_pos (by omega)]
        · rw [if_neg z, if_neg (by omega)]
    · rw [if_neg (by omega), la_o (by omega) hn z1, la_o (by omega) hn z1]
end
