/-! correct: the memory behind a change -/
def chM (m : Nat → Int32) (B f f2 pc n : Nat) (w : Int32) (Ln Lt : Nat → Int32) : Nat → Int32 := va_up (mvW (mvW m B (f + pc) (fun i => m (B + 85 + f2 + i)) (fun i => m (B + 125 + f2 + i)) (fun i => m (B + 165 + 12 * f2 + i)) (n - f2) (n - f2) (12 * (n - f2))) B f (fun _ => w) Ln Lt pc pc (12 * pc)) (B + 1) (nI (n + pc - (f2 - f)))
section
variable {g : Hp} {m : Nat → Int32} {B f f2 pc n : Nat} {w : Int32} {Ln Lt : Nat → Int32}
theorem r_changes (R : RS g) (em : gI g 74 = m) (hB : B + 645 ≤ 64630) (ff : f ≤ f2) (fn : f2 ≤ n) (n40 : n ≤ 40) (h40 : f + pc + (n - f2) ≤ 40) (e1 : m (B + 1) = nI n) (q79 : gI g 79 = Ln) (q80 : gI g 80 = Lt) (q81 : gI g 81 0 = nI pc) : ∃ g', MX12_changes g 73 (nI B) w (nI f) (nI (f2 - f)) = some g' ∧ Fr (fun y => y = 74 ∨ F99 y) g g' ∧ gI g' 74 = chM m B f f2 pc n w Ln Lt := by
  obtain ⟨g1, a1, a2, a3⟩ := r_chA (B := B) (a := f2) (n := n) (v2 := w) (v3 := nI f) (v4 := nI (f2 - f)) (v6 := nI pc - nI (f2 - f)) R em hB n40 fn
  have R1 : RS g1 := R.fr a2
  have f1 : ∀ y, ¬ F99 y → gI g1 y = gI g y := fun y hy => a2.2.2.2.2.2.2 y hy
  obtain ⟨g2, b1, b2, b3⟩ := r_chB (pc := pc) (f := f) (v2 := w) R1 (by rw [f1 74 (by unfold F99; omega)]; exact em) hB ff fn n40 h40 a3
  have R2 : RS g2 := R1.fr b2
  have f2' : ∀ y, y ≠ 74 → gI g2 y = gI g1 y := fun y hy => b2.2.2.2.2.2.2 y hy
  obtain ⟨g3, c1, c2, c3⟩ := r_chC (f := f) (pc := pc) (Ln := Ln) (Lt := Lt) (v2 := w) (v5 := nI n) (v6 := nI pc - nI (f2 - f)) R2 b3 hB (by omega) (by rw [f2' 79 (by decide), f1 79 (by unfold F99; omega)]; exact q79) (by rw [f2' 80 (by decide), f1 80 (by unfold F99; omega)]; exact q80) (by rw [f2' 81 (by decide), f1 81 (by unfold F99; omega)]; exact q81)
  have R3 : RS g3 := R2.fr c2
  have F3 : Fr (fun y => y = 74 ∨ F99 y) g g3 := ((a2.mono (fun y hy => Or.inr hy)).trans (b2.mono (fun y hy => Or.inl hy))).trans (c2.mono (fun y hy => Or.inl hy))
  refine ⟨sI g3 74 (B + 1) (nI (n + pc - (f2 - f))), ?_, F3.trans (Fr.sI (Or.inl rfl)), ?_⟩
  · unfold MX12_changes
    simp only [ZL, RS.f R]
    rw [gg_T, gg_T, nAdd, gg_in (by omega) (by omega), gg_T, gg_in (by omega) (by omega), nCl (by omega), nCl (by omega), em, e1, q81, nAdd, show f + (f2 - f) = f2 by omega, a1, b1, c1]
    unfold MX12_changes_346
    simp only [ZL, RS.f R3]
    rw [gg_T, gg_T, nAdd, gg_in (by omega) (by omega), nCl (by omega), nBy (by omega), lt_eq]
  · rw [gI_sI, if_pos rfl, c3]
    rfl
end
