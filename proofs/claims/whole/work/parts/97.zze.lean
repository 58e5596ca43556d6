/-! a part is set: the class -/
section
variable {tg : Nat → List Nat} {h h1 g : Hp} {m M : Nat → Int32} {r x k q n p b np cc : Nat} {c : Nat → Nat}
theorem c_putL (kb : kd g b = 0) (b6 : gI g b 6 = nI np) (a12 : kd g (gP g b 12) = 20 ∧ ln g (gP g b 12) = 41) (kp : kd g p = 4) (a3 : kd g (gP g p 3) = 20 ∧ ln g (gP g p 3) = 40) (a4 : kd g (gP g p 4) = 20 ∧ ln g (gP g p 4) = 40) (nb : ∀ y, y = b ∨ y = gP g b 12 ∨ y = p → Nq y (gP g p 3) ∧ Nq y (gP g p 4)) (n34 : Nq (gP g p 3) (gP g p 4)) (hn : n ≤ 40) (hnp : np ≤ 40) (c0 : c 0 = 0) (cn : c n = np) (cm : ∀ j, j < n → c j < c (j + 1) ∧ c (j + 1) ≤ np) (e12 : ∀ j, j < n → gI g (gP g b 12) (c j) = nI (c (j + 1) - 1)) : ∃ g2, MX0_putLines g b p (nI 0) (nI 0) = some g2 ∧ (Fr (fun y => y = gP g p 3 ∨ y = gP g p 4 ∨ y = p) g g2 ∧ (∀ y, gI g2 p y = if y = 9 then nI n else gI g p y) ∧ ∀ j, j < n → gI g2 (gP g p 3) j = nI (c (j + 1) - 1) ∧ gI g2 (gP g p 4) j = -nI 1) := by
  unfold MX0_putLines MX0_putLines_6
  refine it_cnt (fun j s => s.1 = nI j ∧ s.2.1 = nI (c j) ∧ Fr (fun y => y = gP g p 3 ∨ y = gP g p 4) g s.2.2 ∧ ∀ i, i < j → gI s.2.2 (gP g p 3) i = nI (c (i + 1) - 1) ∧ gI s.2.2 (gP g p 4) i = -nI 1) n (fun j s hj pp => ?_) (fun s pp => ?_) ⟨rfl, by rw [c0], Fr.rfl, fun i hi => absurd hi (by omega)⟩
  · obtain ⟨u, w, z⟩ := s
    obtain ⟨p1, p2, p3, p4⟩ := pp
    replace p1 : u = nI j := p1
    replace p2 : w = nI (c j) := p2
    replace p3 : Fr (fun y => y = gP g p 3 ∨ y = gP g p 4) g z := p3
    replace p4 : ∀ i, i < j → gI z (gP g p 3) i = nI (c (i + 1) - 1) ∧ gI z (gP g p 4) i = -nI 1 := p4
    subst p1 p2
    obtain ⟨m1, m2⟩ := cm j hj
    have keep : ∀ y, y = b ∨ y = gP g b 12 ∨ y = p → gI z y = gI g y := fun y hy => p3.2.2.2.2.2.2 _ (fun w => by
      obtain ⟨d1, d2⟩ := nb y hy
      rcases w with w | w
      · exact d1 w
      · exact d2 w)
    obtain ⟨z1, hz1⟩ : ∃ z1, z1 = sI z (gP g p 3) j (nI (c (j + 1) - 1)) := ⟨_, rfl⟩
    obtain ⟨z2, hz2⟩ : ∃ z2, z2 = sI z1 (gP g p 4) j (-nI 1) := ⟨_, rfl⟩
    have F2 : Fr (fun y => y = gP g p 3 ∨ y = gP g p 4) z z2 := by rw [hz2, hz1]; exact (Fr.sI (Or.inl rfl)).trans (Fr.sI (Or.inr rfl))
    have g12 : gI z2 (gP g b 12) (c j) = nI (c (j + 1) - 1) := by
      rw [F2.2.2.2.2.2.2 _ (fun w => by
        obtain ⟨d1, d2⟩ := nb _ (Or.inr (Or.inl rfl))
        rcases w with w | w
        · exact d1 w
        · exact d2 w), keep _ (Or.inr (Or.inl rfl))]
      exact e12 j hj
    refine ⟨(nI (j + 1), nI (c (j + 1)), z2), ?_, rfl, rfl, p3.trans F2, fun i hi => ?_⟩
    · show BX0_putLines_6 z b p (nI j) (nI (c j)) = _
      unfold BX0_putLines_6
      simp only [ZL]
      rw [p3.1, p3.2.1, p3.2.2.1, gg_t kb, keep b (Or.inl rfl), b6, if_neg (nI_ge (by omega) (by omega)), if_neg (nI_ge (by omega) (by omega)), gg_t kp, gg_t a12.1, a12.2, gg_in (by omega) (by omega), gg_t a3.1, a3.2, gg_in (by omega) (by omega), nCl (by omega), nCl (by omega), keep _ (Or.inr (Or.inl rfl)), e12 j hj, lt_eq, ← hz1, gg_t a4.1, a4.2, gg_in (by omega) (by omega), lt_eq, ← hz2, g12, nAdd, nAdd, show c (j + 1) - 1 + 1 = c (j + 1) by omega]
    · show gI z2 (gP g p 3) i = nI (c (i + 1) - 1) ∧ gI z2 (gP g p 4) i = -nI 1
      rw [hz2, gI_sI, if_neg n34.n, gI_sI, if_pos rfl, hz1, gI_sI, if_pos rfl, gI_sI, if_neg n34.symm.n, up_at, up_at]
      by_cases e : i = j
      · rw [if_pos e, if_pos e, e]; exact ⟨rfl, rfl⟩
      · rw [if_neg e, if_neg e]; exact p4 i (by omega)
  · obtain ⟨u, w, z⟩ := s
    obtain ⟨p1, p2, p3, p4⟩ := pp
    replace p1 : u = nI n := p1
    replace p2 : w = nI (c n) := p2
    replace p3 : Fr (fun y => y = gP g p 3 ∨ y = gP g p 4) g z := p3
    replace p4 : ∀ i, i < n → gI z (gP g p 3) i = nI (c (i + 1) - 1) ∧ gI z (gP g p 4) i = -nI 1 := p4
    subst p1 p2
    have keep : ∀ y, y = b ∨ y = gP g b 12 ∨ y = p → gI z y = gI g y := fun y hy => p3.2.2.2.2.2.2 _ (fun w => by
      obtain ⟨d1, d2⟩ := nb y hy
      rcases w with w | w
      · exact d1 w
      · exact d2 w)
    obtain ⟨d1, d2⟩ := nb p (Or.inr (Or.inr rfl))
    refine ⟨sI z p 9 (nI n), ?_, (p3.mono (fun y w => by rcases w with w | w; exact Or.inl w; exact Or.inr (Or.inl w))).trans (Fr.sI (Or.inr (Or.inr rfl))), fun y => ?_, fun i hi => ?_⟩
    · show BX0_putLines_6 z b p (nI n) (nI (c n)) = _
      unfold BX0_putLines_6 MX0_putLines_61
      rw [p3.1, gg_t kb, keep b (Or.inl rfl), b6, cn, if_pos (nI_le (Nat.le_refl _) (by omega)), gg_t kp, lt_eq, up1_some]
    · rw [gI_sI, if_pos rfl, up_at, keep p (Or.inr (Or.inr rfl))]
    · rw [gI_sI, if_neg d1.symm.n, gI_sI, if_neg d2.symm.n]
      exact p4 i hi
/-- the lines of the best way: their begins -/
noncomputable def lnC (m : Nat → Int32) (q : Nat) : Nat → Nat := chn (wyT m q (m 0)) 0
theorem lnC_f (I : MI m) (vq : vP m q) {v : Nat × Nat × Nat} (hv : wyT m q (m 0) 0 = some v) : 1 ≤ v.2.1 ∧ v.2.1 ≤ 40 ∧ lnC m q 0 = 0 ∧ lnC m q v.2.1 = nP m q ∧ (∀ j, j < v.2.1 → lnC m q j < lnC m q (j + 1) ∧ lnC m q (j + 1) ≤ nP m q ∧ ∃ w, wyT m q (m 0) (lnC m q j) = some w ∧ w.2.2 = lnC m q (j + 1)) ∧ ∀ j, j < v.2.1 → lsN m q (lnC m q (j + 1)) + wkN m q (lnC m q (j + 1) - 1) ≤ 400 + lsN m q (lnC m q j) + wkN m q (lnC m q j) := by
  have J := I.2.1 q vq
  have P := ps_q (q := q) I.w (m 0)
  obtain ⟨-, j40, j1⟩ := J.n
  have hv' : wyD m q (pme m q (m 0)) (ple m q (m 0)) (pmo m q (m 0)) (pco m q (m 0)) 0 = some v := hv
  obtain ⟨y1, y2, y3⟩ := wyD_b P J (Nat.zero_le _) hv'
  have hs : ∀ j, j < v.2.1 → ∃ w, wyT m q (m 0) (lnC m q j) = some w ∧ w.2.2 = lnC m q (j + 1) ∧ lnC m q j < w.2.2 ∧ w.2.2 ≤ nP m q ∧ lnC m q j < nP m q ∧ sdB m q (pme m q (m 0)) (ple m q (m 0)) (pmo m q (m 0)) (lnC m q j) (w.2.2 - 1) = true := fun j hj => chn_s P J (Nat.zero_le _) hv' hj
  refine ⟨(y3 (by omega)).2.2.2.1, by omega, rfl, chn_e P J (Nat.zero_le _) hv', fun j hj => ?_, fun j hj => ?_⟩
  · obtain ⟨w, w1, w2, w3, w4, w5, w6⟩ := hs j hj
    exact ⟨by omega, by omega, w, w1, w2⟩
  · obtain ⟨w, w1, w2, w3, w4, w5, w6⟩ := hs j hj
    have := sd_400 P I.1 J (fc_v I.1 vq).2 (by omega) (by omega) w6
    rwa [w2, show lnC m q (j + 1) - 1 + 1 = lnC m q (j + 1) by omega] at this
end
