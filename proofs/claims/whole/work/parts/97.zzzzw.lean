/-! correct: what the memory behind a change holds -/
section
variable {m : Nat → Int32} {B f f2 pc n x l y : Nat} {w : Int32} {Ln Lt : Nat → Int32}
theorem chM_o (h40 : f + pc + (n - f2) ≤ 40) (h : y ≠ B + 1) (hy : y < B + 85 ∨ B + 645 ≤ y) : chM m B f f2 pc n w Ln Lt y = m y := by
  unfold chM
  rw [up_at, if_neg h, mvW_o (by omega) (by omega) (by omega) hy, mvW_o (by omega) (by omega) (by omega) hy]
theorem chM_1 : chM m B f f2 pc n w Ln Lt (B + 1) = nI (n + pc - (f2 - f)) := by
  unfold chM
  rw [up_at, if_pos rfl]
/-- a piece ahead -/
theorem chM_a (h40 : f + pc + (n - f2) ≤ 40) (hx : x < f) : chM m B f f2 pc n w Ln Lt (B + 85 + x) = m (B + 85 + x) ∧ chM m B f f2 pc n w Ln Lt (B + 125 + x) = m (B + 125 + x) ∧ ∀ l, l < 12 → chM m B f f2 pc n w Ln Lt (B + 165 + 12 * x + l) = m (B + 165 + 12 * x + l) := by
  unfold chM mvW
  refine ⟨?_, ?_, fun l hl => ?_⟩
  · rw [up_at, if_neg (by omega), if_neg (by omega), if_neg (by omega), if_neg (by omega), if_neg (by omega), if_neg (by omega), if_neg (by omega)]
  · rw [up_at, if_neg (by omega), if_neg (by omega), if_neg (by omega), if_neg (by omega), if_neg (by omega), if_neg (by omega), if_neg (by omega)]
  · rw [up_at, if_neg (by omega), if_neg (by omega), if_neg (by omega), if_neg (by omega), if_neg (by omega), if_neg (by omega), if_neg (by omega)]
/-- a new piece -/
theorem chM_b (h40 : f + pc + (n - f2) ≤ 40) (hx : x < pc) : chM m B f f2 pc n w Ln Lt (B + 85 + (f + x)) = w ∧ chM m B f f2 pc n w Ln Lt (B + 125 + (f + x)) = Ln x ∧ ∀ l, l < 12 → chM m B f f2 pc n w Ln Lt (B + 165 + 12 * (f + x) + l) = Lt (12 * x + l) := by
  unfold chM mvW
  refine ⟨?_, ?_, fun l hl => ?_⟩
  · rw [up_at, if_neg (by omega), if_pos (by omega)]
  · rw [up_at, if_neg (by omega), if_neg (by omega), if_pos (by omega)]
    exact congrArg Ln (by omega)
  · rw [up_at, if_neg (by omega), if_neg (by omega), if_neg (by omega), if_pos (by omega)]
    exact congrArg Lt (by omega)
/-- a piece behind -/
theorem chM_c (h40 : f + pc + (n - f2) ≤ 40) (hx : x < n - f2) : chM m B f f2 pc n w Ln Lt (B + 85 + (f + pc + x)) = m (B + 85 + (f2 + x)) ∧ chM m B f f2 pc n w Ln Lt (B + 125 + (f + pc + x)) = m (B + 125 + (f2 + x)) ∧ ∀ l, l < 12 → chM m B f f2 pc n w Ln Lt (B + 165 + 12 * (f + pc + x) + l) = m (B + 165 + 12 * (f2 + x) + l) := by
  unfold chM mvW
  refine ⟨?_, ?_, fun l hl => ?_⟩
  · rw [up_at, if_neg (by omega), if_neg (by omega), if_neg (by omega), if_neg (by omega), if_pos (by omega)]
    exact congrArg m (by omega)
  · rw [up_at, if_neg (by omega), if_neg (by omega), if_neg (by omega), if_neg (by omega), if_neg (by omega), if_pos (by omega)]
    exact congrArg m (by omega)
  · rw [up_at, if_neg (by omega), if_neg (by omega), if_neg (by omega), if_neg (by omega), if_neg (by omega), if_neg (by omega), if_pos (by omega)]
    exact congrArg m (by omega)
end
