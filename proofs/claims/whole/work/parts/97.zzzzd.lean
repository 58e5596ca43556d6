/-! a story: what the new memory holds -/
section
variable {h0 g g' : Hp} {m : Nat → Int32} {S j n B x y l q : Nat} {s : TX} {fc du v : Int32} {mp mw ba : Nat}
/-- the numbers of a copy that was read -/
def SyN (s : TX) : Prop := s.1 < 5 ∧ ∀ j, j ≤ s.1 → s.2.2.2.2.1 j = nI (Nn s.2.2.2.2.1 j) ∧ Nn s.2.2.2.2.1 j ≤ 40
theorem ti_sy (T : TI 5 24 0 s) : SyN s := ⟨T.1, fun j hj => (T.2.2.1 j hj).2.eq (by omega)⟩
theorem stM_s : stM m S s fc du (n + 1) = ptW (stM m S s fc du n) (130 + 645 * (5 * S + n)) (40 * n) (s.2.2.2.1 n) (s.2.2.2.2.1 n) s.2.2.2.2.2.1 s.2.2.2.2.2.2.1 s.2.2.2.2.2.2.2 (Nn s.2.2.2.2.1 n) (Nn s.2.2.2.2.1 n) (12 * Nn s.2.2.2.2.1 n) := rfl
theorem stM_a (N : SyN s) : ∀ n, n ≤ s.1 + 1 → (y < 130 + 645 * (5 * S) ∨ 130 + 645 * (5 * S + n) ≤ y) → stM m S s fc du n y = stM m S s fc du 0 y
  | 0, _, _ => rfl
  | n + 1, hn, hy => by
    obtain ⟨e1, e2⟩ := N.2 n (by omega)
    rw [stM_s, ptW_o e2 e2 (by omega) (by omega)]
    exact stM_a N n (by omega) (by omega)
theorem stM_b (N : SyN s) : ∀ d, j + 1 + d ≤ s.1 + 1 → 130 + 645 * (5 * S + j) ≤ y → y < 130 + 645 * (5 * S + j) + 645 → stM m S s fc du (j + 1 + d) y = stM m S s fc du (j + 1) y
  | 0, _, _, _ => rfl
  | d + 1, hn, h1, h2 => by
    obtain ⟨e1, e2⟩ := N.2 (j + 1 + d) (by omega)
    rw [show j + 1 + (d + 1) = (j + 1 + d) + 1 from rfl, stM_s, ptW_o e2 e2 (by omega) (by omega)]
    exact stM_b N d (by omega) h1 h2
/-- what lies elsewhere -/
theorem syF_o (N : SyN s) (h1 : y ≠ 1) (h2 : y ≠ 70 + S) (h3 : y ≠ 90 + S) (h4 : y ≠ 110 + S) (h5 : y < 130 + 645 * (5 * S) ∨ 3355 + 3225 * S ≤ y) : syF m S s fc du y = m y := by
  have k5 := N.1
  have hy : y < 130 + 645 * (5 * S) ∨ 130 + 645 * (5 * S + (s.1 + 1)) ≤ y := by
    generalize s.1 = k at k5
    omega
  unfold syF
  rw [up_at, if_neg h1, stM_a N (s.1 + 1) (Nat.le_refl _) hy]
  show va_up (va_up (va_up m (70 + S) fc) (90 + S) du) (110 + S) (nI (s.1 + 1)) y = _
  rw [up_at, if_neg h4, up_at, if_neg h3, up_at, if_neg h2]
theorem syF_h (N : SyN s) (hS : S < 20) : syF m S s fc du 1 = nI (S + 1) ∧ syF m S s fc du (70 + S) = fc ∧ syF m S s fc du (90 + S) = du ∧ syF m S s fc du (110 + S) = nI (s.1 + 1) := by
  have := N.1
  refine ⟨by unfold syF; rw [up_at, if_pos rfl], ?_, ?_, ?_⟩
  · unfold syF
    rw [up_at, if_neg (by omega), stM_a N (s.1 + 1) (Nat.le_refl _) (by omega)]
    show va_up (va_up (va_up m (70 + S) fc) (90 + S) du) (110 + S) (nI (s.1 + 1)) _ = _
    rw [up_at, if_neg (by omega), up_at, if_neg (by omega), up_at, if_pos rfl]
  · unfold syF
    rw [up_at, if_neg (by omega), stM_a N (s.1 + 1) (Nat.le_refl _) (by omega)]
    show va_up (va_up (va_up m (70 + S) fc) (90 + S) du) (110 + S) (nI (s.1 + 1)) _ = _
    rw [up_at, if_neg (by omega), up_at, if_pos rfl]
  · unfold syF
    rw [up_at, if_neg (by omega), stM_a N (s.1 + 1) (Nat.le_refl _) (by omega)]
    show va_up (va_up (va_up m (70 + S) fc) (90 + S) du) (110 + S) (nI (s.1 + 1)) _ = _
    rw [up_at, if_pos rfl]
/-- a part of the copy -/
theorem syF_p (N : SyN s) (hS : S < 20) (hj : j ≤ s.1) (hq : q = 5 * S + j) (h1 : 130 + 645 * q ≤ y) (h2 : y < 130 + 645 * q + 645) : syF m S s fc du y = ptW m (130 + 645 * q) (40 * j) (s.2.2.2.1 j) (s.2.2.2.2.1 j) s.2.2.2.2.2.1 s.2.2.2.2.2.2.1 s.2.2.2.2.2.2.2 (Nn s.2.2.2.2.1 j) (Nn s.2.2.2.2.1 j) (12 * Nn s.2.2.2.2.1 j) y := by
  subst hq
  have := N.1
  obtain ⟨d, hd⟩ : ∃ d, s.1 + 1 = j + 1 + d := ⟨s.1 - j, by omega⟩
  have e : stM m S s fc du j y = m y := by
    rw [stM_a N j (by omega) (by omega)]
    show va_up (va_up (va_up m (70 + S) fc) (90 + S) du) (110 + S) (nI (s.1 + 1)) y = _
    rw [up_at, if_neg (by omega), up_at, if_neg (by omega), up_at, if_neg (by omega)]
  unfold syF
  rw [up_at, if_neg (by omega), hd, stM_b N d (by omega) h1 h2]
  show ptW (stM m S s fc du j) _ _ _ _ _ _ _ _ _ _ y = _
  unfold ptW
  rw [e]
theorem syF_v (N : SyN s) (hS : S < 20) (hj : j ≤ s.1) (hq : q = 5 * S + j) : syF m S s fc du (130 + 645 * q) = s.2.2.2.1 j ∧ syF m S s fc du (130 + 645 * q + 1) = s.2.2.2.2.1 j ∧ (∀ x, 2 ≤ x → x < 85 → syF m S s fc du (130 + 645 * q + x) = m (130 + 645 * q + x)) ∧ (∀ x, x < Nn s.2.2.2.2.1 j → syF m S s fc du (130 + 645 * q + 85 + x) = s.2.2.2.2.2.1 (40 * j + x) ∧ syF m S s fc du (130 + 645 * q + 125 + x) = s.2.2.2.2.2.2.1 (40 * j + x) ∧ ∀ l, l < 12 → syF m S s fc du (130 + 645 * q + 165 + 12 * x + l) = s.2.2.2.2.2.2.2 (12 * (40 * j + x) + l)) := by
  obtain ⟨e1, e2⟩ := N.2 j hj
  obtain ⟨n, hn⟩ : ∃ n, n = Nn s.2.2.2.2.1 j := ⟨_, rfl⟩
  rw [← hn] at e2
  refine ⟨?_, ?_, fun x h1 h2 => ?_, fun x hx => ⟨?_, ?_, fun l hl => ?_⟩⟩
  · rw [syF_p N hS hj hq (by omega) (by omega)]
    unfold ptW
    rw [if_pos rfl]
  · rw [syF_p N hS hj hq (by omega) (by omega)]
    unfold ptW
    rw [if_neg (by omega), if_pos rfl]
  · rw [syF_p N hS hj hq (by omega) (by omega), ← hn, ptW_o e2 e2 (by omega) (by omega)]
  · rw [← hn] at hx
    rw [syF_p N hS hj hq (by omega) (by omega), ← hn]
    unfold ptW
    rw [if_neg (by omega), if_neg (by omega), if_pos (by omega), Nat.add_sub_cancel_left]
  · rw [← hn] at hx
    rw [syF_p N hS hj hq (by omega) (by omega), ← hn]
    unfold ptW
    rw [if_neg (by omega), if_neg (by omega), if_neg (by omega), if_pos (by omega), Nat.add_sub_cancel_left]
  · rw [← hn] at hx
    rw [syF_p N hS hj hq (by omega) (by omega), ← hn]
    unfold ptW
    rw [if_neg (by omega), if_neg (by omega), if_neg (by omega), if_neg (by omega), if_pos (by omega), show 12 * (40 * j) + (130 + 645 * q + 165 + 12 * x + l - (130 + 645 * q + 165)) = 12 * (40 * j + x) + l by omega]
/-- the reference's writes -/
theorem r_st82 (R : RS g) (em : gI g 74 = m) (th : gI g 73 0 = nI 0) (e1 : m 1 = nI S) (q78 : gI g 78 = s.2.2.2.2.2.1) (q79 : gI g 79 = s.2.2.2.2.2.2.1) (q80 : gI g 80 = s.2.2.2.2.2.2.2) (q81 : gI g 81 = s.2.2.2.2.1) (q82 : gI g 82 = s.2.2.2.1) (N : SyN s) (hS : S < 20) (q17 : gI g 73 17 = nI s.1) : ∃ g', MX12_story_82 g 73 fc du = some (nI S, g') ∧ Fr (fun y => y = 74) g g' ∧ gI g' 74 = syF m S s fc du := by
  have k5 := N.1
  obtain ⟨g2, hg2⟩ : ∃ g2, g2 = sI (sI (sI g 74 (70 + S) fc) 74 (90 + S) du) 74 (110 + S) (nI (s.1 + 1)) := ⟨_, rfl⟩
  have F2 : Fr (fun y => y = 74) g g2 := by rw [hg2]; exact (fz74.trans fz74).trans fz74
  have m2 : gI g2 74 = stM m S s fc du 0 := by
    rw [hg2, gI_sI, if_pos rfl, gI_sI, if_pos rfl, gI_sI, if_pos rfl, em]
    rfl
  have K : ∃ z, it (fun q : Int32 × Hp => BX12_story_136 q.2 73 (nI S) q.1) (nI 0, g2) = some z ∧ z.1 = nI S ∧ Fr (fun y => y = 74) g z.2 ∧ gI z.2 74 = syF m S s fc du := by
    refine it_cnt (fun j y => y.1 = nI j ∧ Fr (fun y => y = 74) g y.2 ∧ gI y.2 74 = stM m S s fc du j) (s.1 + 1) (fun j y hj pp => ?_) (fun y pp => ?_) ⟨rfl, F2, m2⟩
    · obtain ⟨a1, e⟩ := y
      obtain ⟨p1, p2, p3⟩ := pp
      replace p1 : a1 = nI j := p1
      replace p2 : Fr (fun y => y = 74) g e := p2
      replace p3 : gI e 74 = stM m S s fc du j := p3
      subst p1
      have Re : RS e := R.fr p2
      have f : ∀ b, b ≠ 74 → gI e b = gI g b := fun b hb => p2.2.2.2.2.2.2 b hb
      obtain ⟨n1, n2⟩ := N.2 j (by omega)
      obtain ⟨g', k1, k2, k3⟩ := r_ptW (s := s) Re p3 (by rw [f 78 (by decide)]; exact q78) (by rw [f 79 (by decide)]; exact q79) (by rw [f 80 (by decide)]; exact q80) (by rw [f 81 (by decide)]; exact q81) (by rw [f 82 (by decide)]; exact q82) (by omega) hS (by rw [f 73 (by decide)]; exact q17) (by omega) k5 n1 n2
      exact ⟨(nI (j + 1), g'), k1, rfl, p2.trans k2, k3⟩
    · obtain ⟨a1, e⟩ := y
      obtain ⟨p1, p2, p3⟩ := pp
      replace p1 : a1 = nI (s.1 + 1) := p1
      replace p2 : Fr (fun y => y = 74) g e := p2
      replace p3 : gI e 74 = stM m S s fc du (s.1 + 1) := p3
      subst p1
      have Re : RS e := R.fr p2
      have v1 : stM m S s fc du (s.1 + 1) 1 = nI S := by
        rw [stM_a N (s.1 + 1) (Nat.le_refl _) (by omega)]
        show va_up (va_up (va_up m (70 + S) fc) (90 + S) du) (110 + S) (nI (s.1 + 1)) 1 = _
        rw [up_at, if_neg (by omega), up_at, if_neg (by omega), up_at, if_neg (by omega)]
        exact e1
      refine ⟨(nI S, sI e 74 1 (nI (S + 1))), ?_, rfl, p2.trans fz74, ?_⟩
      · show BX12_story_136 e 73 (nI S) (nI (s.1 + 1)) = _
        unfold BX12_story_136 MX12_story_322
        simp only [ZL, RS.f Re]
        rw [gg_T, p2.2.2.2.2.2.2 73 (by decide), q17, if_pos (nI_lt (by omega) (by omega)), gg_T, gg_T, gg_in (by omega) (by omega), nCl (by omega), p3, v1, nAdd, lt_eq, up1_some]
      · show gI (sI e 74 1 (nI (S + 1))) 74 = _
        rw [gI_sI, if_pos rfl, p3]
        rfl
  obtain ⟨⟨z1, z2⟩, k1, k2, k3, k4⟩ := K
  replace k2 : z1 = nI S := k2
  refine ⟨z2, ?_, k3, k4⟩
  have w1 : gI (sI g 74 (70 + S) fc) 74 1 = nI S := by rw [gI_sI, if_pos rfl, up_at, if_neg (by omega), em]; exact e1
  have w2 : gI (sI (sI g 74 (70 + S) fc) 74 (90 + S) du) 73 17 = nI s.1 := by rw [gI_sI, if_neg (by decide), gI_sI, if_neg (by decide)]; exact q17
  unfold MX12_story_82 MX12_story_136
  simp only [ZL, RS.f R]
  rw [gg_T, th, if_pos (nI_le (Nat.le_refl _) (by omega)), gg_T, gg_in (by omega) (by omega), nCl (by omega), em, e1, nAdd, gg_in (by omega) (by omega), nCl (by omega), lt_eq, nAdd, gg_in (by omega) (by omega), nCl (by omega), lt_eq, nAdd, gg_in (by omega) (by omega), nCl (by omega), w2, nAdd, lt_eq, ← hg2, k1, k2]
end
