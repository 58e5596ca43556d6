/-! ahead: the reference's end, its memory restored -/
section
variable {h : Hp} {m M kk t v : Nat → Int32} {ii f u : Int32}
theorem r_a90 (R : RSt h M kk ii t u f) (I : MI M) (g76 : gI h 76 = cpM m v) (out : ∀ y, 337220 ≤ y → M y = m y) : MX12_ahead_90 h 73 = some ((if jbN M (Nn M 3) = 0 then M 0 else -nI 1), rI h 74 m) ∧ RSt (rI h 74 m) m kk ii t u f := by
  refine ⟨?_, R.ma⟩
  have e : cpM (cpM m v) M = m := by
    funext y
    unfold cpM
    by_cases z : y < 337220
    · rw [if_pos z, if_pos z]
    · rw [if_neg z]
      exact out y (by omega)
  have e107 : ∀ s, MX12_ahead_107 h 73 s = some (s, rI h 74 m) := fun s => by
    unfold MX12_ahead_107
    simp only [ZL]
    rw [gg_t (RS.f R.1).1, show gP h 73 3 = 76 by simp only [RS.f R.1], show gP h 73 1 = 74 by simp only [RS.f R.1], show kd h 76 = 20 by simp only [RS.f R.1], show kd h 74 = 20 by simp only [RS.f R.1], gg_t rfl, gg_t rfl, show ln h 76 = 337220 by simp only [RS.f R.1], show ln h 74 = 337220 by simp only [RS.f R.1], gg_t (cpB_t (Nat.le_refl _) (Nat.le_refl _) (by omega)), lt_eq, nCl (by omega), nCl (by omega), cpy_M, g76, R.2.1, e]
  have jl := jb_le I
  have d0 : gI h 74 0 = M 0 := by rw [R.2.1]
  unfold MX12_ahead_90
  simp only [ZL]
  rw [gg_t (RS.f R.1).1, r_jobs R.1 R.2.1 I, ob_some]
  by_cases z : jbN M (Nn M 3) = 0
  · rw [z, if_pos (by decide), if_pos rfl, (RS.f R.1).2.1, gg_t (RS.f R.1).2.2.1, (RS.f R.1).2.2.2.1, gg_in (by omega) (by omega), nCl (by omega), d0, e107]
  · rw [if_neg (nI_ge (Nat.pos_of_ne_zero z) jl), if_neg z, e107]
end
