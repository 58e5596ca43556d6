/-! style: the numbers of rules -/
def OkT (x : Nat × Nat × Nat) : Prop := x.1 ≤ 6 ∧ x.2.1 ≤ 999 ∧ x.2.2 ≤ 600 ∧ (x.1 = 0 → 10 ≤ x.2.1 ∧ x.2.1 ≤ 400) ∧ (x.1 = 1 → 1 ≤ x.2.1 ∧ x.2.1 ≤ x.2.2 ∧ x.2.2 ≤ 40) ∧ (x.1 = 3 → x.2.1 ≤ 99)
section
variable {b : Nat → Nat} {e k i lo hi : Nat} {must : Bool} {x : Nat × Nat × Nat} {rs : List Rl} {q : Nat × Rl}
theorem ifR_t (h : ifR b e must x i = .inr q) : q.2.1 = x := by
  unfold ifR at h
  by_cases w : wdB b e 9 (ik b e i) = true
  · rw [if_pos w] at h
    cases z : anP b e (atP b e 5) (ik b e i + sN 9) with
    | inl p => rw [z] at h; exact (nomatch h)
    | inr r =>
      rw [z] at h
      have h : Sum.inr (r.1, (x, r.2)) = (Sum.inr q : RuR) := h
      cases h
      rfl
  · rw [if_neg w] at h
    by_cases z : must = true
    · rw [if_pos z] at h; exact (nomatch h)
    · rw [if_neg z] at h
      cases h
      rfl
theorem nmR_t (ie : i ≤ e) (hx : ∀ n, lo ≤ n → n ≤ hi → OkT (k, n, 0)) (h : nmR b e k lo hi i = .inr q) : OkT q.2.1 := by
  obtain ⟨n1, n2⟩ := nm_g (b := b) (lo := lo) (hi' := hi) ie
  unfold nmR at h
  cases z : nmP b e lo hi i with
  | inl p => rw [z] at h; exact (nomatch h)
  | inr r =>
    obtain ⟨r1, r2, r3, r4⟩ := n2 r z
    rw [z] at h
    have h : Sum.inr (r.1, ((k, r.2, 0), [])) = (Sum.inr q : RuR) := h
    cases h
    exact hx _ r3 r4
theorem nfR_t (ie : i ≤ e) (hx : ∀ n, lo ≤ n → n ≤ hi → OkT (k, n, 0)) (h : nfR b e k lo hi i = .inr q) : OkT q.2.1 := by
  obtain ⟨n1, n2⟩ := nm_g (b := b) (lo := lo) (hi' := hi) ie
  unfold nfR at h
  cases z : nmP b e lo hi i with
  | inl p => rw [z] at h; exact (nomatch h)
  | inr r =>
    obtain ⟨r1, r2, r3, r4⟩ := n2 r z
    rw [z] at h
    have h : ifR b e false (k, r.2, 0) r.1 = .inr q := h
    rw [ifR_t h]
    exact hx _ r3 r4
theorem spR_t (ie : i ≤ e) (h : spR b e i = .inr q) : OkT q.2.1 := by
  obtain ⟨n1, n2⟩ := nm_g (b := b) (lo := 1) (hi' := 40) ie
  unfold spR at h
  cases z : nmP b e 1 40 i with
  | inl p => rw [z] at h; exact (nomatch h)
  | inr r =>
    obtain ⟨r1, r2, r3, r4⟩ := n2 r z
    obtain ⟨m1, m2⟩ := nm_g (b := b) (lo := r.2) (hi' := 40) r2
    rw [z] at h
    cases y : nmP b e r.2 40 r.1 with
    | inl p =>
      have h : (match nmP b e r.2 40 r.1 with
        | .inl p => .inl p
        | .inr s => .inr (s.1, ((1, r.2, s.2), [])) : RuR) = .inr q := h
      rw [y] at h; exact (nomatch h)
    | inr s =>
      obtain ⟨s1, s2, s3, s4⟩ := m2 s y
      have h : (match nmP b e r.2 40 r.1 with
        | .inl p => .inl p
        | .inr s => .inr (s.1, ((1, r.2, s.2), [])) : RuR) = .inr q := h
      rw [y] at h
      have h : Sum.inr (s.1, ((1, r.2, s.2), [])) = (Sum.inr q : RuR) := h
      cases h
      exact ⟨by show 1 ≤ 6; omega, by show r.2 ≤ 999; omega, by show s.2 ≤ 600; omega, fun z => absurd (show 1 = 0 from z) (by omega), fun _ => ⟨r3, s3, s4⟩, fun z => absurd (show 1 = 3 from z) (by omega)⟩
theorem clR_t (ie : i ≤ e) (h : clR b e i = .inr q) : OkT q.2.1 := by
  obtain ⟨n1, n2⟩ := nm_g (b := b) (lo := 0) (hi' := 5) ie
  unfold clR at h
  cases z : nmP b e 0 5 i with
  | inl p => rw [z] at h; exact (nomatch h)
  | inr r =>
    obtain ⟨r1, r2, r3, r4⟩ := n2 r z
    rw [z] at h
    have h : (if wdB b e 1 (ik b e r.1) = true then (match nmP b e 0 600 (ik b e r.1 + sN 1) with
      | .inl p => .inl p
      | .inr s => .inr (s.1, ((6, r.2, s.2), []))) else .inl (ik b e r.1) : RuR) = .inr q := h
    by_cases w : wdB b e 1 (ik b e r.1) = true
    · rw [if_pos w] at h
      obtain ⟨m1, m2⟩ := nm_g (b := b) (lo := 0) (hi' := 600) (wd_i w).1
      cases y : nmP b e 0 600 (ik b e r.1 + sN 1) with
      | inl p => rw [y] at h; exact (nomatch h)
      | inr s =>
        obtain ⟨s1, s2, s3, s4⟩ := m2 s y
        rw [y] at h
        have h : Sum.inr (s.1, ((6, r.2, s.2), [])) = (Sum.inr q : RuR) := h
        cases h
        exact ⟨by show 6 ≤ 6; omega, by show r.2 ≤ 999; omega, s4, fun z => absurd (show 6 = 0 from z) (by omega), fun z => absurd (show 6 = 1 from z) (by omega), fun z => absurd (show 6 = 3 from z) (by omega)⟩
    · rw [if_neg w] at h; exact (nomatch h)
theorem ruP_t (ie : i ≤ e) (h : ruP b e i = .inr q) : OkT q.2.1 := by
  unfold ruP at h
  by_cases w13 : wdB b e 13 (ik b e i) = true
  · rw [if_pos w13] at h; exact nfR_t (wd_i w13).1 (fun n h1 h2 => ⟨by show 0 ≤ 6; omega, by show n ≤ 999; omega, by show 0 ≤ 600; omega, fun _ => ⟨h1, h2⟩, fun z => absurd (show 0 = 1 from z) (by omega), fun z => absurd (show 0 = 3 from z) (by omega)⟩) h
  rw [if_neg w13] at h
  by_cases w19 : wdB b e 19 (ik b e i) = true
  · rw [if_pos w19] at h; exact spR_t (wd_i w19).1 h
  rw [if_neg w19] at h
  by_cases w17 : wdB b e 17 (ik b e i) = true
  · rw [if_pos w17] at h; exact nmR_t (wd_i w17).1 (fun n h1 h2 => ⟨by show 2 ≤ 6; omega, by show n ≤ 999; omega, by show 0 ≤ 600; omega, fun z => absurd (show 2 = 0 from z) (by omega), fun z => absurd (show 2 = 1 from z) (by omega), fun z => absurd (show 2 = 3 from z) (by omega)⟩) h
  rw [if_neg w17] at h
  by_cases w6 : wdB b e 6 (ik b e i) = true
  · rw [if_pos w6] at h; exact nmR_t (wd_i w6).1 (fun n h1 h2 => ⟨by show 3 ≤ 6; omega, by show n ≤ 999; omega, by show 0 ≤ 600; omega, fun z => absurd (show 3 = 0 from z) (by omega), fun z => absurd (show 3 = 1 from z) (by omega), fun _ => h2⟩) h
  rw [if_neg w6] at h
  by_cases w18 : wdB b e 18 (ik b e i) = true
  · rw [if_pos w18] at h; exact nfR_t (wd_i w18).1 (fun n h1 h2 => ⟨by show 4 ≤ 6; omega, by show n ≤ 999; omega, by show 0 ≤ 600; omega, fun z => absurd (show 4 = 0 from z) (by omega), fun z => absurd (show 4 = 1 from z) (by omega), fun z => absurd (show 4 = 3 from z) (by omega)⟩) h
  rw [if_neg w18] at h
  by_cases w7 : wdB b e 7 (ik b e i) = true
  · rw [if_pos w7] at h
    rw [ifR_t h]
    exact ⟨by show 5 ≤ 6; omega, by show 0 ≤ 999; omega, by show 0 ≤ 600; omega, fun z => absurd (show 5 = 0 from z) (by omega), fun z => absurd (show 5 = 1 from z) (by omega), fun z => absurd (show 5 = 3 from z) (by omega)⟩
  rw [if_neg w7] at h
  by_cases w3 : wdB b e 3 (ik b e i) = true
  · rw [if_pos w3] at h; exact clR_t (wd_i w3).1 h
  rw [if_neg w3] at h
  exact (nomatch h)
theorem stP_t : ∀ d rs i, i ≤ e → (∀ r, r < rs.length → OkT (rs.getD r dRl).1) → ∀ R, stP b e d rs i = .inr R → ∀ r, r < R.length → OkT (R.getD r dRl).1
  | 0, rs, i, ie, G, R, hR => by
    have hR : Sum.inr rs = (Sum.inr R : Nat ⊕ List Rl) := hR
    cases hR
    exact G
  | d + 1, rs, i, ie, G, R, hR => by
    have e1 : stP b e (d + 1) rs i = if rs.length = 12 then .inl (ik b e i) else match ruP b e i with
      | .inl p => .inl p
      | .inr q => if e ≤ ik b e q.1 then .inr (rs ++ [q.2]) else if b (ik b e q.1) = 59 then stP b e d (rs ++ [q.2]) (ik b e q.1 + 1) else .inl (ik b e q.1) := rfl
    rw [e1] at hR
    by_cases z : rs.length = 12
    · rw [if_pos z] at hR; exact (nomatch hR)
    · rw [if_neg z] at hR
      cases q : ruP b e i with
      | inl p => rw [q] at hR; exact (nomatch hR)
      | inr r =>
        rw [q] at hR
        have hR : (if e ≤ ik b e r.1 then .inr (rs ++ [r.2]) else if b (ik b e r.1) = 59 then stP b e d (rs ++ [r.2]) (ik b e r.1 + 1) else .inl (ik b e r.1) : Nat ⊕ List Rl) = .inr R := hR
        have r2 := ((ruP_g (b := b) ie).2 r q).2.1
        obtain ⟨q1, q2⟩ := ik_le (b := b) r2
        have ll : (rs ++ [r.2]).length = rs.length + 1 := by rw [List.length_append]; rfl
        have G' : ∀ s, s < (rs ++ [r.2]).length → OkT ((rs ++ [r.2]).getD s dRl).1 := fun s hs => by
          rw [ll] at hs
          by_cases y : s < rs.length
          · rw [gD_l y]; exact G s y
          · rw [show s = rs.length by omega, gD_e]; exact ruP_t ie q
        by_cases y : e ≤ ik b e r.1
        · rw [if_pos y] at hR
          cases hR
          exact G'
        · rw [if_neg y] at hR
          by_cases x : b (ik b e r.1) = 59
          · rw [if_pos x] at hR
            exact stP_t d (rs ++ [r.2]) (ik b e r.1 + 1) (by omega) G' R hR
          · rw [if_neg x] at hR; exact (nomatch hR)
theorem styP_t {R : List Rl} (h : styP b e = .inr R) : ∀ r, r < R.length → OkT (R.getD r dRl).1 := by
  unfold styP at h
  by_cases z : e ≤ ik b e 0
  · rw [if_pos z] at h
    cases h
    exact fun r hr => absurd hr (Nat.not_lt_zero r)
  · rw [if_neg z] at h
    exact stP_t 13 [] 0 (Nat.zero_le _) (fun r hr => absurd hr (Nat.not_lt_zero r)) R h
end
