/-- numbers and heaps alone -/
theorem pure_law (L : Nat) (xs : Nat → Int32) (hL : L ≤ 3072) : ∃ h9, ML_law L xs hp0 = some (1, h9) ∧ nc h9 = room_1.cells ∧ ns h9 = room_1.slots := by
  obtain ⟨h9, e1, e2⟩ := lw_all (xs := xs) hL (L / 6) 0 GS 5615914 (by omega) gs_LSt (by omega)
  refine ⟨h9, ?_, e2⟩
  rw [law_st]
  unfold ML_law_23
  rw [show (1 : Int32) = nI 1 from ZL.2.1]
  exact e1
