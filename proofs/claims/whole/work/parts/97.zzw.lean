/-! ahead: the reference's loop; the same answer -/
section
variable {tg : Nat → List Nat} {h h1 : Hp} {m M kk t : Nat → Int32} {ii f u : Int32} {k q r x i T d e : Nat}
theorem jb_le (I : MI M) : jbN M (Nn M 3) < 2147483648 := by
  have f3 := I.1.f.2.2.2.1.2
  have : ∀ j, j ≤ Nn M 3 → jbN M j ≤ 30 * j := fun j => by
    induction j with
    | zero => exact fun _ => Nat.le_refl _
    | succ j ih =>
      intro hj
      have h30 := ((I.2.2.2.1 j (by omega)).2.2.2.1.eq (by omega)).2
      have := ih (by omega)
      unfold jbN
      omega
  have := this _ (Nat.le_refl _)
  omega
theorem cu_jb (A : hs (cuP M) (Nn M 3) = true) : jbN M (Nn M 3) ≠ 0 := by
  obtain ⟨k, hk, hp⟩ := (hs_iff _).mp A
  have : ∀ j, k < j → j ≤ Nn M 3 → 0 < jbN M j := fun j => by
    induction j with
    | zero => exact fun h => absurd h (by omega)
    | succ j ih =>
      intro h1 h2
      unfold jbN
      by_cases z : k = j
      · have := hp.2
        rw [z] at this
        omega
      · have := ih (by omega) (by omega)
        omega
  have := this _ hk (Nat.le_refl _)
  omega
theorem r_a64 (ch : ∀ j, Nn m 0 + j ≤ 600 → MnM m j) (rr : ∀ j, Nn m 0 + j < 600 → ∀ h', RSt h' (miI m j) kk ii t u f → ∃ h2, MX12_minute h' 73 = some h2 ∧ Fr Rm h' h2 ∧ RSt h2 (miI m (j + 1)) kk ii t u f ∧ gI h2 73 0 = gI h' 73 0) : ∀ d j, Nn m 0 + j + d = 600 → ∀ z, RSt z (miI m j) kk ii t u f → ∃ J z2, it (fun q : Hp => BX12_ahead_64 q 73) z = MX12_ahead_90 z2 73 ∧ RSt z2 (miI m J) kk ii t u f ∧ Fr Rm z z2 ∧ gI z2 73 0 = gI z 73 0 ∧ j ≤ J ∧ Nn m 0 + J ≤ 600 ∧ (Nn m 0 + J = 600 ∨ jbN (miI m J) (Nn (miI m J) 3) = 0) ∧ ∀ l, j ≤ l → l < J → jbN (miI m l) (Nn (miI m l) 3) ≠ 0 := by
  have up : ∀ z : Hp, BX12_ahead_64 z 73 = up1 (MX12_ahead_90 z 73) → it (fun q : Hp => BX12_ahead_64 q 73) z = MX12_ahead_90 z 73 := fun z e0 => by
    rw [it_eq]
    show (match BX12_ahead_64 z 73 with | _ => _) = _
    rw [e0]
    cases MX12_ahead_90 z 73 <;> rfl
  intro d
  induction d with
  | zero =>
    intro j hj z R
    have d0 : gI z 74 0 = nI (Nn m 0 + j) := by rw [R.2.1]; exact (ch j (by omega)).2.1
    refine ⟨j, z, up z ?_, R, Fr.rfl, rfl, Nat.le_refl _, by omega, Or.inl (by omega), fun l h1 h2 => by omega⟩
    unfold BX12_ahead_64
    simp only [ZL]
    rw [gg_t (RS.f R.1).1, (RS.f R.1).2.1, gg_t (RS.f R.1).2.2.1, (RS.f R.1).2.2.2.1, gg_in (by omega) (by omega), nCl (by omega), d0, if_pos (nI_le (by omega) (by omega))]
  | succ d ih =>
    intro j hj z R
    have M := ch j (by omega)
    have d0 : gI z 74 0 = nI (Nn m 0 + j) := by rw [R.2.1]; exact M.2.1
    have rj := r_jobs R.1 R.2.1 M.1
    have jl := jb_le M.1
    by_cases y : jbN (miI m j) (Nn (miI m j) 3) = 0
    · refine ⟨j, z, up z ?_, R, Fr.rfl, rfl, Nat.le_refl _, by omega, Or.inr y, fun l h1 h2 => by omega⟩
      unfold BX12_ahead_64
      simp only [ZL]
      rw [gg_t (RS.f R.1).1, (RS.f R.1).2.1, gg_t (RS.f R.1).2.2.1, (RS.f R.1).2.2.2.1, gg_in (by omega) (by omega), nCl (by omega), d0, if_neg (nI_ge (by omega) (by omega)), rj, ob_some, y, if_pos (by decide)]
    · obtain ⟨z1, a1, a2, a3, a4⟩ := rr j (by omega) z R
      obtain ⟨J, z2, b1, b2, b3, b4, b5, b6, b7, b8⟩ := ih (j + 1) (by omega) z1 a3
      refine ⟨J, z2, ?_, b2, a2.trans b3, by rw [b4, a4], by omega, b6, b7, fun l h1 h2 => ?_⟩
      · rw [← b1]
        refine it_next ?_
        show BX12_ahead_64 z 73 = _
        unfold BX12_ahead_64
        simp only [ZL]
        rw [gg_t (RS.f R.1).1, (RS.f R.1).2.1, gg_t (RS.f R.1).2.2.1, (RS.f R.1).2.2.2.1, gg_in (by omega) (by omega), nCl (by omega), d0, if_neg (nI_ge (by omega) (by omega)), rj, ob_some, if_neg (nI_ge (Nat.pos_of_ne_zero y) jl), a1, ob_some]
      · by_cases w : l = j
        · rw [w]; exact y
        · exact b8 l (by omega) h2
/-- both loops answer alike -/
theorem ah_val (ch : ∀ j, Nn m 0 + j ≤ 600 → MnM m j) {J L : Nat} (c1 : Nn m 0 + J ≤ 600) (c2 : ∀ l, l < J → hs (cuP (miI m l)) (Nn (miI m l) 3) = true) (c3 : Nn m 0 + J = 600 ∨ hs (cuP (miI m J)) (Nn (miI m J) 3) = false) (r1 : Nn m 0 + L ≤ 600) (r2 : Nn m 0 + L = 600 ∨ jbN (miI m L) (Nn (miI m L) 3) = 0) (r3 : ∀ l, l < L → jbN (miI m l) (Nn (miI m l) 3) ≠ 0) : (if jbN (miI m J) (Nn (miI m J) 3) = 0 then miI m J 0 else -nI 1) = if jbN (miI m L) (Nn (miI m L) 3) = 0 then miI m L 0 else -nI 1 := by
  by_cases z : jbN (miI m J) (Nn (miI m J) 3) = 0
  · have e : L = J := by
      rcases Nat.lt_trichotomy L J with y | y | y
      · have := cu_jb (c2 L y)
        rcases r2 with w | w
        · omega
        · exact absurd w this
      · exact y
      · exact absurd z (r3 J y)
    rw [e]
  · rw [if_neg z]
    have : jbN (miI m L) (Nn (miI m L) 3) ≠ 0 := fun w => by
      rcases Nat.lt_trichotomy L J with y | y | y
      · exact cu_jb (c2 L y) w
      · rw [y] at w; exact z w
      · rcases c3 with v | v
        · omega
        · have idle : ∀ d, Nn m 0 + (J + d) ≤ 600 → hs (cuP (miI m (J + d))) (Nn (miI m (J + d)) 3) = false ∧ jbN (miI m (J + d)) (Nn (miI m (J + d)) 3) = jbN (miI m J) (Nn (miI m J) 3) := fun d => by
            induction d with
            | zero => exact fun _ => ⟨v, rfl⟩
            | succ d ih =>
              intro hd
              obtain ⟨y1, y2⟩ := ih (by omega)
              obtain ⟨-, u2, u3, u4⟩ := mi_idle (ch (J + d) (by omega)).1 y1
              refine ⟨u2, ?_⟩
              show jbN (miM (miI m (J + d))) (Nn (miM (miI m (J + d))) 3) = _
              rw [u3, u4, y2]
          have := (idle (L - J) (by omega)).2
          rw [show J + (L - J) = L by omega] at this
          rw [this] at w
          exact z w
    rw [if_neg this]
end
