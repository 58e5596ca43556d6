/-! a story: the reference's memory -/
def ptW (m : Nat → Int32) (B o : Nat) (u v : Int32) (W Ln Lt : Nat → Int32) (a c d : Nat) : Nat → Int32 := fun y => if y = B then u else if y = B + 1 then v else if B + 85 ≤ y ∧ y < B + 85 + a then W (o + (y - (B + 85))) else if B + 125 ≤ y ∧ y < B + 125 + c then Ln (o + (y - (B + 125))) else if B + 165 ≤ y ∧ y < B + 165 + d then Lt (12 * o + (y - (B + 165))) else m y
section
variable {m : Nat → Int32} {B o a c d y x l : Nat} {u v : Int32} {W Ln Lt : Nat → Int32}
theorem ptW_0 : va_up (va_up m B u) (B + 1) v = ptW m B o u v W Ln Lt 0 0 0 := by
  funext y
  unfold ptW
  rw [up_at, up_at]
  by_cases z : y = B
  · rw [if_pos z, if_neg (by omega), if_pos z]
  · rw [if_neg z, if_neg z]
    by_cases w : y = B + 1
    · rw [if_pos w, if_pos w]
    · rw [if_neg w, if_neg w, if_neg (by omega), if_neg (by omega), if_neg (by omega)]
theorem ptW_W (ha : a < 40) : va_up (ptW m B o u v W Ln Lt a c d) (B + 85 + a) (W (o + a)) = ptW m B o u v W Ln Lt (a + 1) c d := by
  funext y
  rw [up_at]
  unfold ptW
  by_cases z : y = B + 85 + a
  · rw [if_pos z, if_neg (by omega), if_neg (by omega), if_pos (by omega), z, Nat.add_sub_cancel_left]
  · rw [if_neg z]
    by_cases z1 : y = B
    · rw [if_pos z1, if_pos z1]
    · rw [if_neg z1, if_neg z1]
      by_cases z2 : y = B + 1
      · rw [if_pos z2, if_pos z2]
      · rw [if_neg z2, if_neg z2]
        by_cases z3 : B + 85 ≤ y ∧ y < B + 85 + a
        · rw [if_pos z3, if_pos (show B + 85 ≤ y ∧ y < B + 85 + (a + 1) by omega)]
        · rw [if_neg z3, if_neg (show ¬ (B + 85 ≤ y ∧ y < B + 85 + (a + 1)) by omega)]
theorem ptW_L (ha : a ≤ 40) (hc : c < 40) : va_up (ptW m B o u v W Ln Lt a c d) (B + 125 + c) (Ln (o + c)) = ptW m B o u v W Ln Lt a (c + 1) d := by
  funext y
  rw [up_at]
  unfold ptW
  by_cases z : y = B + 125 + c
  · rw [if_pos z, if_neg (by omega), if_neg (by omega), if_neg (by omega), if_pos (by omega), z, Nat.add_sub_cancel_left]
  · rw [if_neg z]
    by_cases z1 : y = B
    · rw [if_pos z1, if_pos z1]
    · rw [if_neg z1, if_neg z1]
      by_cases z2 : y = B + 1
      · rw [if_pos z2, if_pos z2]
      · rw [if_neg z2, if_neg z2]
        by_cases z3 : B + 85 ≤ y ∧ y < B + 85 + a
        · rw [if_pos z3, if_pos z3]
        · rw [if_neg z3, if_neg z3]
          by_cases z4 : B + 125 ≤ y ∧ y < B + 125 + c
          · rw [if_pos z4, if_pos (show B + 125 ≤ y ∧ y < B + 125 + (c + 1) by omega)]
          · rw [if_neg z4, if_neg (show ¬ (B + 125 ≤ y ∧ y < B + 125 + (c + 1)) by omega)]
theorem ptW_T (ha : a ≤ 40) (hc : c ≤ 40) : va_up (ptW m B o u v W Ln Lt a c d) (B + 165 + d) (Lt (12 * o + d)) = ptW m B o u v W Ln Lt a c (d + 1) := by
  funext y
  rw [up_at]
  unfold ptW
  by_cases z : y = B + 165 + d
  · rw [if_pos z, if_neg (by omega), if_neg (by omega), if_neg (by omega), if_neg (by omega), if_pos (by omega), z, Nat.add_sub_cancel_left]
  · rw [if_neg z]
    by_cases z1 : y = B
    · rw [if_pos z1, if_pos z1]
    · rw [if_neg z1, if_neg z1]
      by_cases z2 : y = B + 1
      · rw [if_pos z2, if_pos z2]
      · rw [if_neg z2, if_neg z2]
        by_cases z3 : B + 85 ≤ y ∧ y < B + 85 + a
        · rw [if_pos z3, if_pos z3]
        · rw [if_neg z3, if_neg z3]
          by_cases z4 : B + 125 ≤ y ∧ y < B + 125 + c
          · rw [if_pos z4, if_pos z4]
          · rw [if_neg z4, if_neg z4]
            by_cases z5 : B + 165 ≤ y ∧ y < B + 165 + d
            · rw [if_pos z5, if_pos (show B + 165 ≤ y ∧ y < B + 165 + (d + 1) by omega)]
            · rw [if_neg z5, if_neg (show ¬ (B + 165 ≤ y ∧ y < B + 165 + (d + 1)) by omega)]
/-- elsewhere -/
theorem ptW_o (ha : a ≤ 40) (hc : c ≤ 40) (hd : d ≤ 480) (h : y < B ∨ B + 645 ≤ y ∨ (B + 2 ≤ y ∧ y < B + 85)) : ptW m B o u v W Ln Lt a c d y = m y := by
  unfold ptW
  rw [if_neg (by omega), if_neg (by omega), if_neg (by omega), if_neg (by omega), if_neg (by omega)]
end
/-- the first j parts of a story's copy s are there -/
def stM (m : Nat → Int32) (S : Nat) (s : TX) (fc du : Int32) : Nat → Nat → Int32
  | 0 => va_up (va_up (va_up m (70 + S) fc) (90 + S) du) (110 + S) (nI (s.1 + 1))
  | j + 1 => ptW (stM m S s fc du j) (130 + 645 * (5 * S + j)) (40 * j) (s.2.2.2.1 j) (s.2.2.2.2.1 j) s.2.2.2.2.2.1 s.2.2.2.2.2.2.1 s.2.2.2.2.2.2.2 (Nn s.2.2.2.2.1 j) (Nn s.2.2.2.2.1 j) (12 * Nn s.2.2.2.2.1 j)
def syF (m : Nat → Int32) (S : Nat) (s : TX) (fc du : Int32) : Nat → Int32 := va_up (stM m S s fc du (s.1 + 1)) 1 (nI (S + 1))
section
variable {h0 g : Hp} {m : Nat → Int32} {S j n B : Nat} {s : TX} {fc du v : Int32} {mp mw ba : Nat}
theorem fz74 {a : Nat} {v : Int32} : Fr (fun y => y = 74) g (sI g 74 a v) := Fr.sI (S := fun y => y = 74) rfl
/-- the reference copies a part -/
theorem r_ptW (R : RS g) (em : gI g 74 = m) (q78 : gI g 78 = s.2.2.2.2.2.1) (q79 : gI g 79 = s.2.2.2.2.2.2.1) (q80 : gI g 80 = s.2.2.2.2.2.2.2) (q81 : gI g 81 = s.2.2.2.2.1) (q82 : gI g 82 = s.2.2.2.1) (hj : j < 5) (hS : S < 20) (q17 : gI g 73 17 = nI (s.1)) (jk : j ≤ s.1) (k5 : s.1 < 5) (hn : s.2.2.2.2.1 j = nI n) (n40 : n ≤ 40) : ∃ g', BX12_story_136 g 73 (nI S) (nI j) = some (.inl (nI (j + 1), g')) ∧ Fr (fun y => y = 74) g g' ∧ gI g' 74 = ptW m (130 + 645 * (5 * S + j)) (40 * j) (s.2.2.2.1 j) (s.2.2.2.2.1 j) s.2.2.2.2.2.1 s.2.2.2.2.2.2.1 s.2.2.2.2.2.2.2 n n (12 * n) := by
  obtain ⟨B, hB⟩ : ∃ B, B = 130 + 645 * (5 * S + j) := ⟨_, rfl⟩
  have hB1 : B + 645 ≤ 64630 := by omega
  obtain ⟨g2, hg2⟩ : ∃ g2, g2 = sI (sI g 74 B (s.2.2.2.1 j)) 74 (B + 1) (s.2.2.2.2.1 j) := ⟨_, rfl⟩
  have F2 : Fr (fun y => y = 74) g g2 := by rw [hg2]; exact fz74.trans fz74
  have m2 : gI g2 74 = ptW m B (40 * j) (s.2.2.2.1 j) (s.2.2.2.2.1 j) s.2.2.2.2.2.1 s.2.2.2.2.2.2.1 s.2.2.2.2.2.2.2 0 0 0 := by
    rw [hg2, gI_sI, if_pos rfl, gI_sI, if_pos rfl, em]
    exact ptW_0
  have K : ∃ z, it (fun q : Int32 × Hp => BX12_story_191 q.2 73 (nI S) (nI j) (nI B) q.1) (nI 0, g2) = some z ∧ ∃ g', z = .inl (nI (j + 1), g') ∧ Fr (fun y => y = 74) g g' ∧ gI g' 74 = ptW m B (40 * j) (s.2.2.2.1 j) (s.2.2.2.2.1 j) s.2.2.2.2.2.1 s.2.2.2.2.2.2.1 s.2.2.2.2.2.2.2 n n (12 * n) := by
    refine it_cnt (fun x y => y.1 = nI x ∧ Fr (fun y => y = 74) g y.2 ∧ gI y.2 74 = ptW m B (40 * j) (s.2.2.2.1 j) (s.2.2.2.2.1 j) s.2.2.2.2.2.1 s.2.2.2.2.2.2.1 s.2.2.2.2.2.2.2 x x (12 * x)) n (fun x y hx pp => ?_) (fun y pp => ?_) ⟨rfl, F2, m2⟩
    · obtain ⟨a1, e⟩ := y
      obtain ⟨p1, p2, p3⟩ := pp
      replace p1 : a1 = nI x := p1
      replace p2 : Fr (fun y => y = 74) g e := p2
      replace p3 : gI e 74 = ptW m B (40 * j) (s.2.2.2.1 j) (s.2.2.2.2.1 j) s.2.2.2.2.2.1 s.2.2.2.2.2.2.1 s.2.2.2.2.2.2.2 x x (12 * x) := p3
      subst p1
      have Re : RS e := R.fr p2
      have f : ∀ b, b ≠ 74 → gI e b = gI g b := fun b hb => p2.2.2.2.2.2.2 b hb
      obtain ⟨e2, he2⟩ : ∃ e2, e2 = sI (sI e 74 (B + 85 + x) (s.2.2.2.2.2.1 (40 * j + x))) 74 (B + 125 + x) (s.2.2.2.2.2.2.1 (40 * j + x)) := ⟨_, rfl⟩
      have G2 : Fr (fun y => y = 74) g e2 := by rw [he2]; exact (p2.trans fz74).trans fz74
      have w2 : gI e2 74 = ptW m B (40 * j) (s.2.2.2.1 j) (s.2.2.2.2.1 j) s.2.2.2.2.2.1 s.2.2.2.2.2.2.1 s.2.2.2.2.2.2.2 (x + 1) (x + 1) (12 * x + 0) := by
        rw [he2, gI_sI, if_pos rfl, gI_sI, if_pos rfl, p3, ptW_W (by omega), ptW_L (by omega) (by omega)]
        rfl
      have K2 : ∃ z, it (fun q : Int32 × Hp => BX12_story_258 q.2 73 (nI S) (nI j) (nI B) (nI x) q.1) (nI 0, e2) = some z ∧ ∃ g', z = .inl (nI (x + 1), g') ∧ Fr (fun y => y = 74) g g' ∧ gI g' 74 = ptW m B (40 * j) (s.2.2.2.1 j) (s.2.2.2.2.1 j) s.2.2.2.2.2.1 s.2.2.2.2.2.2.1 s.2.2.2.2.2.2.2 (x + 1) (x + 1) (12 * (x + 1)) := by
        refine it_cnt (fun l y => y.1 = nI l ∧ Fr (fun y => y = 74) g y.2 ∧ gI y.2 74 = ptW m B (40 * j) (s.2.2.2.1 j) (s.2.2.2.2.1 j) s.2.2.2.2.2.1 s.2.2.2.2.2.2.1 s.2.2.2.2.2.2.2 (x + 1) (x + 1) (12 * x + l)) 12 (fun l y hl pp => ?_) (fun y pp => ?_) ⟨rfl, G2, w2⟩
        · obtain ⟨c1, d1⟩ := y
          obtain ⟨p1, p4, p5⟩ := pp
          replace p1 : c1 = nI l := p1
          replace p4 : Fr (fun y => y = 74) g d1 := p4
          replace p5 : gI d1 74 = ptW m B (40 * j) (s.2.2.2.1 j) (s.2.2.2.2.1 j) s.2.2.2.2.2.1 s.2.2.2.2.2.2.1 s.2.2.2.2.2.2.2 (x + 1) (x + 1) (12 * x + l) := p5
          subst p1
          have Rd : RS d1 := R.fr p4
          refine ⟨(nI (l + 1), sI d1 74 (B + 165 + 12 * x + l) (s.2.2.2.2.2.2.2 (12 * (40 * j + x) + l))), ?_, rfl, p4.trans fz74, ?_⟩
          · show BX12_story_258 d1 73 (nI S) (nI j) (nI B) (nI x) (nI l) = _
            unfold BX12_story_258
            simp only [ZL, RS.f Rd]
            rw [if_neg (nI_ge hl (by omega)), gg_T, nMul, nAdd, nMul, nAdd, gg_T, gg_in (by omega) (by omega), nCl (by omega), gg_T, nAdd, nMul, nAdd, nAdd, gg_in (by omega) (by omega), nCl (by omega), p4.2.2.2.2.2.2 80 (by decide), q80, lt_eq, nAdd]
          · show gI (sI d1 74 (B + 165 + 12 * x + l) (s.2.2.2.2.2.2.2 (12 * (40 * j + x) + l))) 74 = ptW m B (40 * j) (s.2.2.2.1 j) (s.2.2.2.2.1 j) s.2.2.2.2.2.1 s.2.2.2.2.2.2.1 s.2.2.2.2.2.2.2 (x + 1) (x + 1) (12 * x + l + 1)
            rw [gI_sI, if_pos rfl, p5, show B + 165 + 12 * x + l = B + 165 + (12 * x + l) by omega, show 12 * (40 * j + x) + l = 12 * (40 * j) + (12 * x + l) by omega, ptW_T (by omega) (by omega)]
        · obtain ⟨c1, d1⟩ := y
          obtain ⟨p1, p4, p5⟩ := pp
          replace p1 : c1 = nI 12 := p1
          replace p4 : Fr (fun y => y = 74) g d1 := p4
          replace p5 : gI d1 74 = ptW m B (40 * j) (s.2.2.2.1 j) (s.2.2.2.2.1 j) s.2.2.2.2.2.1 s.2.2.2.2.2.2.1 s.2.2.2.2.2.2.2 (x + 1) (x + 1) (12 * x + 12) := p5
          subst p1
          refine ⟨.inl (nI (x + 1), d1), ?_, d1, rfl, p4, by rw [p5]; rfl⟩
          show BX12_story_258 d1 73 (nI S) (nI j) (nI B) (nI x) (nI 12) = _
          unfold BX12_story_258
          simp only [ZL]
          rw [if_pos (nI_le (Nat.le_refl _) (by omega)), nAdd]
      obtain ⟨z, k1, g', rfl, k3, k4⟩ := K2
      refine ⟨(nI (x + 1), g'), ?_, rfl, k3, k4⟩
      show BX12_story_191 e 73 (nI S) (nI j) (nI B) (nI x) = _
      have n1 : gI (sI e 74 (B + 85 + x) (s.2.2.2.2.2.1 (40 * j + x))) 79 = gI g 79 := by rw [gI_sI, if_neg (by decide), f 79 (by decide)]
      unfold BX12_story_191 MX12_story_258
      simp only [ZL, RS.f Re]
      rw [gg_T, gg_T, gg_in (by omega) (by omega), nCl (by omega), f 81 (by decide), q81, hn, if_neg (nI_ge hx (by omega)), gg_T, nMul, nAdd, gg_in (by omega) (by omega), gg_T, nAdd, nAdd, gg_in (by omega) (by omega), nCl (by omega), nCl (by omega), f 78 (by decide), q78, lt_eq, gg_T, nAdd, nAdd, gg_in (by omega) (by omega), nCl (by omega), n1, q79, gg_in (by omega) (by omega), lt_eq, ← he2]
      exact k1
    · obtain ⟨a1, e⟩ := y
      obtain ⟨p1, p2, p3⟩ := pp
      replace p1 : a1 = nI n := p1
      replace p2 : Fr (fun y => y = 74) g e := p2
      subst p1
      have Re : RS e := R.fr p2
      refine ⟨.inl (nI (j + 1), e), ?_, e, rfl, p2, p3⟩
      show BX12_story_191 e 73 (nI S) (nI j) (nI B) (nI n) = _
      unfold BX12_story_191
      simp only [ZL, RS.f Re]
      rw [gg_T, gg_T, gg_in (by omega) (by omega), nCl (by omega), p2.2.2.2.2.2.2 81 (by decide), q81, hn, if_pos (nI_le (Nat.le_refl _) (by omega)), nAdd]
  obtain ⟨z, k1, g', rfl, k3, k4⟩ := K
  refine ⟨g', ?_, k3, by rw [← hB]; exact k4⟩
  have n1 : gI (sI g 74 B (s.2.2.2.1 j)) 81 = gI g 81 := by rw [gI_sI, if_neg (by decide)]
  unfold BX12_story_136 MX12_story_191
  simp only [ZL, RS.f R]
  rw [gg_T, q17, if_neg (nI_nlt jk (by omega)), nMul, nAdd, r_part0, ob_some, ← hB, gg_T, gg_in (by omega) (by omega), gg_T, nAdd, Nat.add_zero, gg_in (by omega) (by omega), nCl (by omega), nCl (by omega), q82, lt_eq, gg_T, nAdd, gg_in (by omega) (by omega), nCl (by omega), n1, q81, gg_in (by omega) (by omega), lt_eq, ← hg2]
  exact k1
end
