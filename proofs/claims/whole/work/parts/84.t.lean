/-! feed: a byte on both sides -/
theorem by255 : ∀ i, i < 32 → 8 ≤ i → (255 : Int32).toBitVec.getLsbD i = false := by decide
theorem byT (x : Int32) : x.toInt8.toInt32 &&& 255 = x &&& 255 := by
  rw [← Int32.toBitVec_inj, Int32.toBitVec_and, Int32.toBitVec_and, Int8.toBitVec_toInt32, Int32.toBitVec_toInt8]
  refine BitVec.eq_of_getLsbD_eq fun i hi => ?_
  rw [BitVec.getLsbD_and, BitVec.getLsbD_and, BitVec.getLsbD_signExtend, BitVec.getLsbD_signExtend]
  by_cases z : i < 8
  · simp [z, hi]
  · rw [by255 i hi (by omega), Bool.and_false, Bool.and_false]
theorem byN (x : Int32) : ∃ k, k ≤ 255 ∧ x &&& 255 = nI k := by
  obtain ⟨j, hj, e⟩ := pk_andE x (m := 255) 8 (by decide)
  exact ⟨j, by omega, e⟩
theorem byV (x : Int32) : vp_nar .byte x.toInt8.toInt32 &&& 255 = x &&& 255 := by
  rw [pk_vb, byT]
