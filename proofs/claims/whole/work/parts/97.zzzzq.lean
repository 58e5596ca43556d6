/-! correct: a run of pieces is added -/
section
variable {h h1 : Hp} {m : Nat → Int32} {p o q n w a k : Nat} {L C : Nat → Nat} {T : Nat → Nat → Nat}
theorem upL_s {f g : Nat → Nat} {i : Nat} : upL (apF f n g i) (n + i) (g i) = apF f n g (i + 1) := apF_s
theorem upT_s {f g : Nat → Nat → Nat} {i : Nat} : upT (apF f n g i) (n + i) (g i) = apF f n g (i + 1) := by
  rw [← apF_s]
  funext y l
  unfold upT
  by_cases z : y = n + i
  · rw [if_pos z, if_pos z]
  · rw [if_neg z, if_neg z]
theorem c_addBits (S : PtS h p) (N : PtN h p) (O : SrO h p o m q) (A : PI h h1 p n w L C T) (hL : ∀ y, y < n → L y ≤ 12) (hk : n + k ≤ 40) (hc : a + k ≤ Nn m (130 + 645 * q + 1)) : ∃ h2, MX5_addBits h1 p o (nI a) (nI (a + k)) = some h2 ∧ PI h h2 p (n + k) (w + lS (fun i => ctN m q (a + i)) k) (apF L n (fun i => Nn m (130 + 645 * q + 125 + (a + i))) k) (apF C n (fun i => ctN m q (a + i)) k) (apF T n (fun i l => Nn m (130 + 645 * q + 165 + 12 * (a + i) + l)) k) := by
  have J := O.2.2.1
  obtain ⟨-, b40⟩ := J.2.1.eq (by omega)
  have K : ∃ z, it (fun y : Int32 × Hp => BX5_addBits_3 y.2 p o (nI (a + k)) y.1) (nI a, h1) = some z ∧ PI h z p (n + k) (w + lS (fun i => ctN m q (a + i)) k) (apF L n (fun i => Nn m (130 + 645 * q + 125 + (a + i))) k) (apF C n (fun i => ctN m q (a + i)) k) (apF T n (fun i l => Nn m (130 + 645 * q + 165 + 12 * (a + i) + l)) k) := by
    refine it_cnt (fun i y => y.1 = nI (a + i) ∧ PI h y.2 p (n + i) (w + lS (fun i => ctN m q (a + i)) i) (apF L n (fun i => Nn m (130 + 645 * q + 125 + (a + i))) i) (apF C n (fun i => ctN m q (a + i)) i) (apF T n (fun i l => Nn m (130 + 645 * q + 165 + 12 * (a + i) + l)) i)) k (fun i y hi pp => ?_) (fun y pp => ?_) ⟨rfl, ?_⟩
    · obtain ⟨i1, g⟩ := y
      obtain ⟨p1, p2⟩ := pp
      replace p1 : i1 = nI (a + i) := p1
      replace p2 : PI h g p (n + i) (w + lS (fun i => ctN m q (a + i)) i) (apF L n (fun i => Nn m (130 + 645 * q + 125 + (a + i))) i) (apF C n (fun i => ctN m q (a + i)) i) (apF T n (fun i l => Nn m (130 + 645 * q + 165 + 12 * (a + i) + l)) i) := p2
      subst p1
      obtain ⟨h3, k1, k2⟩ := c_ad1 (x := a + i) (c := a + k) S N O p2 (by omega) (fun y hy => by
        unfold apF
        by_cases z : n ≤ y ∧ y < n + i
        · rw [if_pos z]
          exact ((J.2.2.2.2.2.2.1 (a + (y - n)) (by omega)).2.1.eq (by omega)).2
        · rw [if_neg z]
          exact hL y (by omega)) (by omega) (by omega) (by omega)
      refine ⟨(nI (a + (i + 1)), h3), k1, rfl, ?_⟩
      have e1 := upL_s (n := n) (i := i) (f := L) (g := fun i => Nn m (130 + 645 * q + 125 + (a + i)))
      have e2 := upL_s (n := n) (i := i) (f := C) (g := fun i => ctN m q (a + i))
      have e3 := upT_s (n := n) (i := i) (f := T) (g := fun i l => Nn m (130 + 645 * q + 165 + 12 * (a + i) + l))
      show PI h h3 p (n + (i + 1)) (w + (lS (fun i => ctN m q (a + i)) i + ctN m q (a + i))) _ _ _
      rw [← e1, ← e2, ← e3, ← Nat.add_assoc, ← Nat.add_assoc]
      exact k2
    · obtain ⟨i1, g⟩ := y
      obtain ⟨p1, p2⟩ := pp
      replace p1 : i1 = nI (a + k) := p1
      subst p1
      refine ⟨g, ?_, p2⟩
      show BX5_addBits_3 g p o (nI (a + k)) (nI (a + k)) = _
      unfold BX5_addBits_3
      rw [if_pos (nI_le (Nat.le_refl _) (by omega))]
    · rw [apF_0, apF_0, apF_0]
      exact A
  obtain ⟨z, k1, k2⟩ := K
  exact ⟨z, by unfold MX5_addBits MX5_addBits_3; exact k1, k2⟩
end
