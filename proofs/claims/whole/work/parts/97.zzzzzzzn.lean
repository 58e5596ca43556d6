/-! the law's loop -/
section
variable {h : Hp} {N L j : Nat} {xs : Nat → Int32}
theorem in_t {c n : Nat} (h : c < n) (hn : n < 2147483648) : inB (nI c) n = true := by
  simp only [inB, Bool.and_eq_true, decide_eq_true_eq]
  exact ⟨nI_pos (by omega), by rw [nI_clamp (by omega)]; exact h⟩
theorem lw_round (Lh : LSt h N) (hL : L ≤ 3072) (hj : 6 * j + 6 ≤ L) : ∃ h2, BL_law_23 L xs h 1 73 109 (nI (6 * j)) = some (.inl (nI (6 * (j + 1)), h2)) ∧ LSt h2 (N + 81) := by
  obtain ⟨v4, hv⟩ : ∃ v4, v4 = nI (6 * j) := ⟨_, rfl⟩
  have e6 : v4 + nI 6 = nI (6 * (j + 1)) := by
    rw [hv, nAdd]
    exact congrArg nI (by omega)
  have ii : ∀ c, c < 6 → inB (v4 + nI c) L = true := fun c hc => by
    rw [hv, nAdd]
    exact in_t (by omega) (by omega)
  have i1 := ii 1 (by omega)
  have i2 := ii 2 (by omega)
  have i3 := ii 3 (by omega)
  have i4 := ii 4 (by omega)
  have i5 := ii 5 (by omega)
  have i0 : inB v4 L = true := by
    rw [hv]
    exact in_t (by omega) (by omega)
  have lt0 : ¬ nI L - nI 6 < v4 := by
    rw [hv, nSub (by omega), nLt (by omega) (by omega)]
    omega
  rw [← hv, ← e6]
  unfold BL_law_23
  simp only [ZL]
  rw [if_neg lt0, gg_t i0]
  by_cases z0 : (xs v4.toNatClampNeg &&& nI 63) = nI 0
  · rw [if_pos z0]
    exact lc_feed Lh i1 i2 i3 i4 i5
  rw [if_neg z0]
  by_cases z1 : (xs v4.toNatClampNeg &&& nI 63) = nI 1
  · rw [if_pos z1]
    exact lc_end Lh i1
  rw [if_neg z1]
  by_cases z2 : (xs v4.toNatClampNeg &&& nI 63) = nI 2
  · rw [if_pos z2]
    exact lc_width Lh i1 i2 i3
  rw [if_neg z2]
  by_cases z3 : (xs v4.toNatClampNeg &&& nI 63) = nI 3
  · rw [if_pos z3]
    exact lc_story Lh i1 i2
  rw [if_neg z3]
  by_cases z4 : (xs v4.toNatClampNeg &&& nI 63) = nI 4
  · rw [if_pos z4]
    exact lc_style Lh i1
  rw [if_neg z4]
  by_cases z5 : (xs v4.toNatClampNeg &&& nI 63) = nI 5
  · rw [if_pos z5]
    exact lc_fault Lh
  rw [if_neg z5]
  by_cases z6 : (xs v4.toNatClampNeg &&& nI 63) = nI 6
  · rw [if_pos z6]
    exact lc_part Lh i1 i2
  rw [if_neg z6]
  by_cases z7 : (xs v4.toNatClampNeg &&& nI 63) = nI 7
  · rw [if_pos z7]
    exact lc_rule Lh i1 i2 i3
  rw [if_neg z7]
  by_cases z8 : (xs v4.toNatClampNeg &&& nI 63) = nI 8
  · rw [if_pos z8]
    exact lc_best Lh i1 i2
  rw [if_neg z8]
  by_cases z9 : (xs v4.toNatClampNeg &&& nI 63) = nI 9
  · rw [if_pos z9]
    exact lc_ends Lh i1 i2
  rw [if_neg z9]
  by_cases z10 : (xs v4.toNatClampNeg &&& nI 63) = nI 10
  · rw [if_pos z10]
    exact lc_hand Lh i1 i2
  rw [if_neg z10]
  by_cases z11 : (xs v4.toNatClampNeg &&& nI 63) = nI 11
  · rw [if_pos z11]
    exact lc_machine Lh i1 i2
  rw [if_neg z11]
  by_cases z12 : (xs v4.toNatClampNeg &&& nI 63) = nI 12
  · rw [if_pos z12]
    exact lc_brass Lh i1 i2 i3
  rw [if_neg z12]
  by_cases z13 : (xs v4.toNatClampNeg &&& nI 63) = nI 13
  · rw [if_pos z13]
    exact lc_broken Lh i1 i2
  rw [if_neg z13]
  by_cases z14 : (xs v4.toNatClampNeg &&& nI 63) = nI 14
  · rw [if_pos z14]
    exact lc_give Lh i1 i2
  rw [if_neg z14]
  by_cases z15 : (xs v4.toNatClampNeg &&& nI 63) = nI 15
  · rw [if_pos z15]
    exact lc_minutes Lh i1
  rw [if_neg z15]
  by_cases z16 : (xs v4.toNatClampNeg &&& nI 63) = nI 16
  · rw [if_pos z16]
    exact lc_runs Lh i1 i2
  rw [if_neg z16]
  by_cases z17 : (xs v4.toNatClampNeg &&& nI 63) = nI 17
  · rw [if_pos z17]
    exact lc_slug Lh i1 i2
  rw [if_neg z17]
  by_cases z18 : (xs v4.toNatClampNeg &&& nI 63) = nI 18
  · rw [if_pos z18]
    exact lc_says Lh i1 i2
  rw [if_neg z18]
  by_cases z19 : (xs v4.toNatClampNeg &&& nI 63) = nI 19
  · rw [if_pos z19]
    exact lc_lies Lh i1 i2
  rw [if_neg z19]
  by_cases z20 : (xs v4.toNatClampNeg &&& nI 63) = nI 20
  · rw [if_pos z20]
    exact lc_judge Lh i1
  rw [if_neg z20]
  by_cases z21 : (xs v4.toNatClampNeg &&& nI 63) = nI 21
  · rw [if_pos z21]
    exact lc_pie Lh i1
  rw [if_neg z21]
  by_cases z22 : (xs v4.toNatClampNeg &&& nI 63) = nI 22
  · rw [if_pos z22]
    exact lc_change Lh i1 i2
  rw [if_neg z22]
  by_cases z23 : (xs v4.toNatClampNeg &&& nI 63) = nI 23
  · rw [if_pos z23]
    exact lc_again Lh i1 i2 i3
  rw [if_neg z23]
  by_cases z24 : (xs v4.toNatClampNeg &&& nI 63) = nI 24
  · rw [if_pos z24]
    exact lc_correct Lh i1 i2 i3
  rw [if_neg z24]
  by_cases z25 : (xs v4.toNatClampNeg &&& nI 63) = nI 25
  · rw [if_pos z25]
    exact lc_slip Lh i1 i2 i3
  rw [if_neg z25]
  by_cases z26 : (xs v4.toNatClampNeg &&& nI 63) = nI 26
  · rw [if_pos z26]
    exact lc_read Lh i1 i2
  rw [if_neg z26]
  by_cases z27 : (xs v4.toNatClampNeg &&& nI 63) = nI 27
  · rw [if_pos z27]
    exact lc_proof Lh i1
  rw [if_neg z27]
  by_cases z28 : (xs v4.toNatClampNeg &&& nI 63) = nI 28
  · rw [if_pos z28]
    exact lc_carry Lh i1 i2 i3
  rw [if_neg z28]
  by_cases z29 : (xs v4.toNatClampNeg &&& nI 63) = nI 29
  · rw [if_pos z29]
    exact lc_where Lh i1 i2 i3
  rw [if_neg z29]
  by_cases z30 : (xs v4.toNatClampNeg &&& nI 63) = nI 30
  · rw [if_pos z30]
    exact lc_page Lh i1 i2 i3
  rw [if_neg z30]
  by_cases z31 : (xs v4.toNatClampNeg &&& nI 63) = nI 31
  · rw [if_pos z31]
    exact lc_fit Lh i1 i2
  rw [if_neg z31]
  by_cases z32 : (xs v4.toNatClampNeg &&& nI 63) = nI 32
  · rw [if_pos z32]
    exact lc_fits Lh i1 i2 i3 i4
  rw [if_neg z32]
  by_cases z33 : (xs v4.toNatClampNeg &&& nI 63) = nI 33
  · rw [if_pos z33]
    exact lc_lock Lh i1 i2
  rw [if_neg z33]
  by_cases z34 : (xs v4.toNatClampNeg &&& nI 63) = nI 34
  · rw [if_pos z34]
    exact lc_locked Lh i1 i2
  rw [if_neg z34]
  by_cases z35 : (xs v4.toNatClampNeg &&& nI 63) = nI 35
  · rw [if_pos z35]
    exact lc_stands Lh i1 i2 i3
  rw [if_neg z35]
  by_cases z36 : (xs v4.toNatClampNeg &&& nI 63) = nI 36
  · rw [if_pos z36]
    exact lc_edition Lh
  rw [if_neg z36]
  by_cases z37 : (xs v4.toNatClampNeg &&& nI 63) = nI 37
  · rw [if_pos z37]
    exact lc_changed Lh i1 i2 i3
  rw [if_neg z37]
  by_cases z38 : (xs v4.toNatClampNeg &&& nI 63) = nI 38
  · rw [if_pos z38]
    exact lc_least Lh
  rw [if_neg z38]
  by_cases z39 : (xs v4.toNatClampNeg &&& nI 63) = nI 39
  · rw [if_pos z39]
    exact lc_ahead Lh i1
  rw [if_neg z39]
  by_cases z40 : (xs v4.toNatClampNeg &&& nI 63) = nI 40
  · rw [if_pos z40]
    exact lc_pay Lh i1 i2 i3
  rw [if_neg z40]
  by_cases z41 : (xs v4.toNatClampNeg &&& nI 63) = nI 41
  · rw [if_pos z41]
    exact lc_row Lh i1 i2
  rw [if_neg z41]
  by_cases z42 : (xs v4.toNatClampNeg &&& nI 63) = nI 42
  · rw [if_pos z42]
    exact lc_tear Lh i1 i2 i3
  rw [if_neg z42]
  by_cases z43 : (xs v4.toNatClampNeg &&& nI 63) = nI 43
  · rw [if_pos z43]
    exact lc_check Lh
  rw [if_neg z43]
  by_cases z44 : (xs v4.toNatClampNeg &&& nI 63) = nI 44
  · rw [if_pos z44]
    exact lc_image Lh
  rw [if_neg z44]
  by_cases z45 : (xs v4.toNatClampNeg &&& nI 63) = nI 45
  · rw [if_pos z45]
    exact lc_back Lh
  rw [if_neg z45]
  by_cases z46 : (xs v4.toNatClampNeg &&& nI 63) = nI 46
  · rw [if_pos z46]
    exact lc_count Lh i1
  rw [if_neg z46]
  obtain ⟨tg, m, k, i, t, n, f, C, R, h9, hN⟩ := Lh
  exact ⟨h, rfl, tg, m, k, i, t, n, f, C, R, h9, by omega⟩
theorem lw_end (Lh : LSt h N) (hN : N ≤ 5657386) (hL : L ≤ 3072) (hj : L < 6 * j + 6) (hj2 : 6 * j ≤ L) : ∃ h9, BL_law_23 L xs h 1 73 109 (nI (6 * j)) = some (.inr (nI 1, h9)) ∧ nc h9 = room_1.cells ∧ ns h9 = room_1.slots := by
  obtain ⟨tg, m, k, i, t, n, f, C, R, h9, hN2⟩ := Lh
  have hC : 75431 ≤ room_1.cells := Nat.le_of_ble_eq_true rfl
  have hS : 5657386 ≤ room_1.slots := Nat.le_of_ble_eq_true rfl
  have c0 : cst h ≤ mu h := Nat.le_add_right _ _
  have c1 : 75 * nc h + ns h ≤ N := Nat.le_trans c0 hN2
  have lt0 : nI L - nI 6 < nI (6 * j) := by
    by_cases h6 : 6 ≤ L
    · rw [nSub h6, nLt (by omega) (by omega)]
      omega
    · have j0 : j = 0 := by omega
      subst j0
      have hl : L = 0 ∨ L = 1 ∨ L = 2 ∨ L = 3 ∨ L = 4 ∨ L = 5 := by omega
      rcases hl with rfl | rfl | rfl | rfl | rfl | rfl <;> decide +kernel
  refine ⟨bmp h (room_1.cells - nc h) (room_1.slots - ns h), ?_, ?_, ?_⟩
  · unfold BL_law_23
    simp only [ZL]
    rw [if_pos lt0, gg_t (Nat.ble_eq_true_of_le (by omega)), gg_t (Nat.ble_eq_true_of_le (by omega))]
  · show nc h + (room_1.cells - nc h) = room_1.cells
    omega
  · show ns h + (room_1.slots - ns h) = room_1.slots
    omega
theorem lw_all (hL : L ≤ 3072) : ∀ d j h N, L / 6 = j + d → LSt h N → N + 81 * d ≤ 5657386 → ∃ h9, it (fun q : Int32 × Hp => BL_law_23 L xs q.2 1 73 109 q.1) (nI (6 * j), h) = some (nI 1, h9) ∧ nc h9 = room_1.cells ∧ ns h9 = room_1.slots
  | 0, j, h, N, e, Lh, hN => by
    obtain ⟨h9, e1, e2⟩ := lw_end (xs := xs) (j := j) Lh (by omega) hL (by omega) (by omega)
    exact ⟨h9, it_done e1, e2⟩
  | d + 1, j, h, N, e, Lh, hN => by
    obtain ⟨h2, e1, L2⟩ := lw_round (xs := xs) (j := j) Lh hL (by omega)
    obtain ⟨h9, e3, e4⟩ := lw_all hL d (j + 1) h2 (N + 81) (by omega) L2 (by omega)
    exact ⟨h9, (it_next (f := fun q : Int32 × Hp => BL_law_23 L xs q.2 1 73 109 q.1) (s := (nI (6 * j), h)) e1).trans e3, e4⟩
end
