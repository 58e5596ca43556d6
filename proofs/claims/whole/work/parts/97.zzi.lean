/-! what a line needs and what there is: decided on both sides -/
abbrev cnP (m : Nat → Int32) (k : Nat) (w : List Nat) (s : Nat) : Prop := ¬ (nI (sgC w s) ≤ m (320230 + 183 * k + s))
abbrev shP (m : Nat → Int32) (k : Nat) (w : List Nat) (T s : Nat) : Prop := ¬ (nI (sgC w s) ≤ jmax (nI 0) (m (320230 + 183 * k + s) - nI (ouN m k (nI (T + 1) - m (320230 + 183 * k + 27)) T s (Nn m 4))))
section
variable {tg : Nat → List Nat} {h h1 g : Hp} {m M kk t : Nat → Int32} {ii f u v : Int32} {r x k q l n p b c T A B : Nat} {w : List Nat}
theorem c_cannot (kA : kd h A = 20) (lA : ln h A = 27) (need : ∀ s, s < 27 → gI h A s = nI (sgC w s)) (cS : MaS h c) (cV : MaV h c m k) : MX4_cannotCast h c A = some (if hs (cnP m k w) 27 = true then nI 1 else nI 0) := by
  obtain ⟨s0, ⟨-, s1, s2⟩, -⟩ := cS
  have st : ∀ j, j < 27 → BX4_cannotCast_2 h c A (nI j) = if nI (sgC w j) ≤ m (320230 + 183 * k + j) then some (.inl (nI (j + 1))) else some (.inr (nI 1)) := fun j hj => by
    unfold BX4_cannotCast_2
    simp only [ZL, nAdd]
    rw [if_neg (nI_ge hj (by omega)), gg_t kA, lA, gg_in (by omega) (by omega), gg_t s0, gg_t s1, s2, gg_in (by omega) (by omega), nCl (by omega), need j hj, cV.1 j hj]
  unfold MX4_cannotCast MX4_cannotCast_2
  refine it_ex (cnP m k w) (fun j => nI j) 27 (fun j hj hn => ?_) (fun j hj hn => ?_) ?_
  · rw [st j hj, if_pos (Classical.not_not.mp hn)]
  · rw [st j hj, if_neg hn]
  · unfold BX4_cannotCast_2
    simp only [ZL]
    rw [if_pos (by decide)]
theorem c_short (kA : kd h A = 20) (lA : ln h A = 27) (need : ∀ s, s < 27 → gI h A s = nI (sgC w s)) (kB : kd h B = 20) (lB : ln h B = 27) (out : ∀ s, s < 27 → gI h B s = nI (ouN m k (nI (T + 1) - m (320230 + 183 * k + 27)) T s (Nn m 4))) (cS : MaS h c) (cV : MaV h c m k) : MX4_isShort h c A B = some (if hs (shP m k w T) 27 = true then nI 1 else nI 0) := by
  obtain ⟨s0, ⟨-, s1, s2⟩, -⟩ := cS
  have st : ∀ j, j < 27 → BX4_isShort_2 h c A B (nI j) = if nI (sgC w j) ≤ jmax (nI 0) (m (320230 + 183 * k + j) - nI (ouN m k (nI (T + 1) - m (320230 + 183 * k + 27)) T j (Nn m 4))) then some (.inl (nI (j + 1))) else some (.inr (nI 1)) := fun j hj => by
    unfold BX4_isShort_2
    simp only [ZL, nAdd]
    rw [if_neg (nI_ge hj (by omega)), gg_t kA, lA, gg_in (by omega) (by omega), gg_t s0, gg_t s1, s2, gg_in (by omega) (by omega), gg_t kB, lB, gg_in (by omega) (by omega), nCl (by omega), need j hj, cV.1 j hj, out j hj]
  unfold MX4_isShort MX4_isShort_2
  refine it_ex (shP m k w T) (fun j => nI j) 27 (fun j hj hn => ?_) (fun j hj hn => ?_) ?_
  · rw [st j hj, if_pos (Classical.not_not.mp hn)]
  · rw [st j hj, if_neg hn]
  · unfold BX4_isShort_2
    simp only [ZL]
    rw [if_pos (by decide)]
def bN (b : Bool) : Int32 := if b = true then nI 1 else nI 0
theorem r_247 (R : RSt h m kk ii t u f) (I : MI m) (hk : k < Nn m 3) (W : ∀ s, s < 27 → gI h 91 s = nI (sgC w s)) (hw : w.length ≤ 401) (e0 : m 0 = nI (T + 1)) (hT : T < 1000000) (b0 : Bool) : MX12_runsOn_247 h 73 (nI k) (nI (320230 + 183 * k)) (nI (320230 + 183 * k + 33)) (nI q) (nI l) (nI 0) (bN b0) (nI 0) = MX12_runsOn_336 h 73 (nI k) (nI (320230 + 183 * k)) (nI (320230 + 183 * k + 33)) (nI q) (nI l) (bN (hs (cnP m k w) 27)) (bN (b0 || hs (shP m k w T) 27)) := by
  have f3 := I.1.f.2.2.2.1.2
  have x91 : gP h 73 36 = 91 ∧ kd h 91 = 20 ∧ ln h 91 = 27 := by refine ⟨?_, ?_, ?_⟩ <;> simp only [RS.f R.1]
  obtain ⟨x1, x2, x3⟩ := x91
  have n01 : nI 1 ≠ nI 0 := by decide
  have st : ∀ j, j < 27 → ∀ a b : Bool, BX12_runsOn_247 h 73 (nI k) (nI (320230 + 183 * k)) (nI (320230 + 183 * k + 33)) (nI q) (nI l) (bN a) (bN b) (nI j) = some (.inl (bN (a || decide (cnP m k w j)), bN (b || decide (shP m k w T j)), nI (j + 1))) := fun j hj a b => by
    have s283 : ∀ s0 : Int32, MX12_runsOn_283 h 73 (nI k) (nI (320230 + 183 * k)) (nI (320230 + 183 * k + 33)) (nI q) (nI l) (bN b) (nI j) s0 = some (.inl (s0, bN (b || decide (shP m k w T j)), nI (j + 1))) := fun s0 => by
      have e328 : ∀ z, MX12_runsOn_328 h 73 (nI k) (nI (320230 + 183 * k)) (nI (320230 + 183 * k + 33)) (nI q) (nI l) s0 (nI j) z = some (.inl (s0, z, nI (j + 1))) := fun z => by
        unfold MX12_runsOn_328
        simp only [ZL, nAdd]
      have g0 : gI h 74 0 = nI (T + 1) := by rw [R.2.1]; exact e0
      have th := r_there R.1 R.2.1 I hk hj hT (k := k)
      unfold MX12_runsOn_283 MX12_runsOn_323 MX12_runsOn_327
      simp only [ZL]
      cases b with
      | true =>
        rw [show bN true = nI 1 from rfl, if_neg n01, e328]
        rfl
      | false =>
        rw [show bN false = nI 0 from rfl, if_pos rfl, gg_t (RS.f R.1).1, x1, gg_t x2, x3, gg_in (by omega) (by omega), nCl (by omega), W j hj, (RS.f R.1).2.1, gg_t (RS.f R.1).2.2.1, (RS.f R.1).2.2.2.1, gg_in (by omega) (by omega), nCl (by omega), g0, th, ob_some, e328, e328]
        have sl := sgC_le (l := w) (s := j)
        by_cases z : nI (sgC w j) ≤ nI 0
        · rw [if_pos z]
          have z0 : sgC w j = 0 := by
            rcases Nat.eq_zero_or_pos (sgC w j) with y | y
            · exact y
            · exact absurd z (nI_ge y (by omega))
          have : ¬ shP m k w T j := fun y => y (by
            rw [z0]
            unfold jmax
            split
            · rename_i y1
              exact Int32.le_of_lt y1
            · exact Int32.le_refl _)
          rw [decide_eq_false this]
          rfl
        · rw [if_neg z]
          by_cases y : nI (sgC w j) ≤ jmax (nI 0) (m (320230 + 183 * k + j) - nI (ouN m k (nI (T + 1) - m (320230 + 183 * k + 27)) T j (Nn m 4)))
          · rw [if_pos y, decide_eq_false (fun y2 : shP m k w T j => y2 y)]
            rfl
          · rw [if_neg y, decide_eq_true (show shP m k w T j from y)]
            rfl
    have gj : gI h 74 (320230 + 183 * k + j) = m (320230 + 183 * k + j) := by rw [R.2.1]
    unfold BX12_runsOn_247 MX12_runsOn_278
    simp only [ZL, nAdd]
    rw [if_neg (nI_ge hj (by omega))]
    cases a with
    | true =>
      rw [show bN true = nI 1 from rfl, if_neg n01, s283]
      rfl
    | false =>
      rw [show bN false = nI 0 from rfl, if_pos rfl, gg_t (RS.f R.1).1, x1, gg_t x2, x3, gg_in (by omega) (by omega), nCl (by omega), W j hj, (RS.f R.1).2.1, gg_t (RS.f R.1).2.2.1, (RS.f R.1).2.2.2.1, gg_in (by omega) (by omega), nCl (by omega), gj, s283, s283]
      by_cases y : nI (sgC w j) ≤ m (320230 + 183 * k + j)
      · rw [if_pos y, decide_eq_false (fun y2 : cnP m k w j => y2 y)]
        rfl
      · rw [if_neg y, decide_eq_true (show cnP m k w j from y)]
        rfl
  unfold MX12_runsOn_247
  refine it_k (fun j => (bN (hs (cnP m k w) j), bN (b0 || hs (shP m k w T) j), nI j)) 27 (by cases b0 <;> rfl) (fun j hj => ?_) ?_
  · show BX12_runsOn_247 h 73 (nI k) (nI (320230 + 183 * k)) (nI (320230 + 183 * k + 33)) (nI q) (nI l) (bN (hs (cnP m k w) j)) (bN (b0 || hs (shP m k w T) j)) (nI j) = _
    rw [st j hj, Bool.or_assoc]
    rfl
  · show BX12_runsOn_247 h 73 (nI k) (nI (320230 + 183 * k)) (nI (320230 + 183 * k + 33)) (nI q) (nI l) (bN (hs (cnP m k w) 27)) (bN (b0 || hs (shP m k w T) 27)) (nI 27) = _
    unfold BX12_runsOn_247
    simp only [ZL]
    rw [if_pos (by decide)]
end
