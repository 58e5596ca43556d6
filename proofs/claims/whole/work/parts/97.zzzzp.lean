/-! correct: pieces of another part are added, the loops -/
def ctN (m : Nat → Int32) (q x : Nat) : Nat := if x + 1 = Nn m (130 + 645 * q + 1) ∨ m (130 + 645 * q + 85 + x) ≠ m (130 + 645 * q + 85 + (x + 1)) then 1 else 0
def apF {α : Type} (f : Nat → α) (n : Nat) (g : Nat → α) (k : Nat) : Nat → α := fun y => if n ≤ y ∧ y < n + k then g (y - n) else f y
theorem nar25 : ∀ x, x < 26 → vp_nar .byte (nI x) = nI x := by decide
section
variable {h h1 : Hp} {m : Nat → Int32} {p o q n w x a c k : Nat} {L C : Nat → Nat} {T : Nat → Nat → Nat}
theorem apF_0 {α : Type} {f g : Nat → α} : apF f n g 0 = f := by
  funext y
  unfold apF
  rw [if_neg (by omega)]
theorem apF_s {α : Type} {f g : Nat → α} : (fun y => if y = n + k then g k else apF f n g k y) = apF f n g (k + 1) := by
  funext y
  unfold apF
  by_cases z : y = n + k
  · rw [if_pos z, if_pos (show n ≤ y ∧ y < n + (k + 1) by omega), show y - n = k by omega]
  · rw [if_neg z]
    by_cases u : n ≤ y ∧ y < n + k
    · rw [if_pos u, if_pos (show n ≤ y ∧ y < n + (k + 1) by omega)]
    · rw [if_neg u, if_neg (show ¬ (n ≤ y ∧ y < n + (k + 1)) by omega)]
/-- where pieces come from -/
def SrO (h : Hp) (p o : Nat) (m : Nat → Int32) (q : Nat) : Prop := PtS h o ∧ PtV h o m q ∧ MIp m q ∧ ¬ PD h p o ∧ ¬ PD h p (gP h o 0) ∧ ¬ PD h p (gP h o 1) ∧ ¬ PD h p (gP h o 2)
theorem c_ad1 (S : PtS h p) (N : PtN h p) (O : SrO h p o m q) (A : PI h h1 p n w L C T) (hn : n < 40) (hL : ∀ y, y < n → L y ≤ 12) (hx : x < Nn m (130 + 645 * q + 1)) (xc : x < c) (c40 : c ≤ 40) : ∃ h3, BX5_addBits_3 h1 p o (nI c) (nI x) = some (.inl (nI (x + 1), h3)) ∧ PI h h3 p (n + 1) (w + ctN m q x) (upL L n (Nn m (130 + 645 * q + 125 + x))) (upL C n (ctN m q x)) (upT T n (fun l => Nn m (130 + 645 * q + 165 + 12 * x + l))) := by
  obtain ⟨oS, oV, J, d0, d1, d2, d3⟩ := O
  obtain ⟨a1, a2, a3, a4, a5, a6, a7, a8⟩ := id A
  obtain ⟨e1, b1⟩ := J.2.1.eq (by omega)
  obtain ⟨jL, jL1⟩ := (J.2.2.2.2.2.2.1 x hx).2.1.eq (by omega)
  have bg := PtV.bg oS oV J
  have f : ∀ y, ¬ PD h p y → gI h1 y = gI h y := fun y hy => a1.2.2.2.2.2.2 y hy
  have g5 : gI h1 o 5 = nI (Nn m (130 + 645 * q + 1)) := by rw [f o d0, oV.1]; exact e1
  obtain ⟨E, hE⟩ : ∃ E, E = lS L n := ⟨_, rfl⟩
  obtain ⟨lm, hlm⟩ : ∃ lm, lm = Nn m (130 + 645 * q + 125 + x) := ⟨_, rfl⟩
  rw [← hlm] at jL jL1
  have lb := lS_b n hL
  have ls1 : lsN m q (x + 1) = lsN m q x + lm := by rw [hlm]; rfl
  have lsb : ∀ y, y ≤ Nn m (130 + 645 * q + 1) → lsN m q y ≤ 12 * y := fun y => by
    induction y with
    | zero => intro _; exact Nat.le_refl 0
    | succ y ih =>
      intro hy
      have := ih (by omega)
      have := ((J.2.2.2.2.2.2.1 y (by omega)).2.1.eq (by omega)).2
      show lsN m q y + Nn m (130 + 645 * q + 125 + y) ≤ _
      omega
  have lx := lsb x (by omega)
  obtain ⟨o1, ⟨-, o2, o3⟩, ⟨-, o4, o5⟩, ⟨-, o6, o7⟩, -⟩ := id oS
  obtain ⟨s1, ⟨-, s2, s3⟩, ⟨-, s4, s5⟩, -⟩ := id S
  obtain ⟨n1, n2, n3, n4, n5, n6⟩ := id N
  have ct : gI h (gP h o 2) x = nI (ctN m q x) := by
    rw [(oV.2.2.2.2.2.2.1 x hx).2.1]
    unfold ctN
    by_cases z : x + 1 = Nn m (130 + 645 * q + 1) ∨ m (130 + 645 * q + 85 + x) ≠ m (130 + 645 * q + 85 + (x + 1))
    · rw [if_pos z, if_pos z]
    · rw [if_neg z, if_neg z]
  have c1 : ctN m q x ≤ 1 := by unfold ctN; split <;> omega
  have K : ∃ z, it (fun y : Int32 × Hp => BX5_addBits_51 y.2 p o (nI c) (nI x) (nI E) (nI lm) y.1) (nI 0, h1) = some z ∧ ∃ h3, z = .inl (nI (x + 1), h3) ∧ PI h h3 p (n + 1) (w + ctN m q x) (upL L n lm) (upL C n (ctN m q x)) (upT T n (fun l => Nn m (130 + 645 * q + 165 + 12 * x + l))) := by
    refine it_cnt (fun l y => y.1 = nI l ∧ Fr (fun z => z = gP h p 0) h1 y.2 ∧ (∀ j, j < E → gI y.2 (gP h p 0) j = gI h1 (gP h p 0) j) ∧ ∀ j, j < l → gI y.2 (gP h p 0) (E + j) = nI (Nn m (130 + 645 * q + 165 + 12 * x + j))) lm (fun l y hl pp => ?_) (fun y pp => ?_) ⟨rfl, Fr.rfl, fun _ _ => rfl, fun j hj => by omega⟩
    · obtain ⟨i1, g⟩ := y
      obtain ⟨p1, p2, p3, p4⟩ := pp
      replace p1 : i1 = nI l := p1
      replace p2 : Fr (fun z => z = gP h p 0) h1 g := p2
      replace p3 : ∀ j, j < E → gI g (gP h p 0) j = gI h1 (gP h p 0) j := p3
      replace p4 : ∀ j, j < l → gI g (gP h p 0) (E + j) = nI (Nn m (130 + 645 * q + 165 + 12 * x + j)) := p4
      subst p1
      have F2 : Fr (PD h p) h g := a1.trans (p2.mono (fun y hy => Or.inr (Or.inl hy)))
      have fg : ∀ y, ¬ PD h p y → gI g y = gI h y := fun y hy => F2.2.2.2.2.2.2 y hy
      have lv := PtV.lt oS oV J hx (i := l) (by rw [← hlm]; exact hl)
      have l25 := (((J.2.2.2.2.2.2.1 x hx).2.2.2 l (by rw [← hlm]; exact hl)).eq (by omega)).2
      refine ⟨(nI (l + 1), sI g (gP h p 0) (E + l) (nI (Nn m (130 + 645 * q + 165 + 12 * x + l)))), ?_, rfl, p2.trans (Fr.sI (S := fun z => z = gP h p 0) rfl), fun j hj => ?_, fun j hj => ?_⟩
      · show BX5_addBits_51 g p o (nI c) (nI x) (nI E) (nI lm) (nI l) = _
        unfold BX5_addBits_51
        simp only [ZL, F2.1, F2.2.1, F2.2.2.1]
        rw [if_neg (nI_ge hl (by omega)), gg_t s1, gg_t s2, s3, nAdd, if_neg (nI_ge (by omega) (by omega)), gg_t o1, gg_t o4, o5, gg_in (by omega) (by omega), nCl (by omega), fg _ d2, bg x (Nat.le_of_lt hx), nAdd, gg_t o2, o3, gg_in (by omega) (by omega), gg_in (by omega) (by omega), nCl (by omega), nCl (by omega), fg _ d1, lv, nar25 _ (by omega), lt_eq, nAdd]
      · show gI (sI g (gP h p 0) (E + l) _) (gP h p 0) j = _
        rw [gI_sI, if_pos rfl, up_at, if_neg (by omega)]
        exact p3 j hj
      · show gI (sI g (gP h p 0) (E + l) _) (gP h p 0) (E + j) = _
        rw [gI_sI, if_pos rfl, up_at]
        by_cases z : j = l
        · rw [z, if_pos rfl]
        · rw [if_neg (by omega)]
          exact p4 j (by omega)
    · obtain ⟨i1, g⟩ := y
      obtain ⟨p1, p2, p3, p4⟩ := pp
      replace p1 : i1 = nI lm := p1
      replace p2 : Fr (fun z => z = gP h p 0) h1 g := p2
      replace p3 : ∀ j, j < E → gI g (gP h p 0) j = gI h1 (gP h p 0) j := p3
      replace p4 : ∀ j, j < lm → gI g (gP h p 0) (E + j) = nI (Nn m (130 + 645 * q + 165 + 12 * x + j)) := p4
      subst p1
      have F1 : Fr (PD h p) h1 g := p2.mono (fun y hy => Or.inr (Or.inl hy))
      have F2 : Fr (PD h p) h g := a1.trans F1
      have fg : ∀ y, ¬ PD h p y → gI g y = gI h y := fun y hy => F2.2.2.2.2.2.2 y hy
      rw [hE] at p3 p4
      obtain ⟨h3, k1, k2⟩ := pi_bit (e := lm) (c := ctN m q x) (u := fun l => Nn m (130 + 645 * q + 165 + 12 * x + l)) S N A hn hL jL1 c1 F1 (fun y hy => p2.2.2.2.2.2.2 y hy) p3 p4
      refine ⟨.inl (nI (x + 1), h3), ?_, h3, rfl, k2⟩
      show BX5_addBits_51 g p o (nI c) (nI x) (nI E) (nI lm) (nI lm) = _
      unfold BX5_addBits_51 MX5_addBits_102
      simp only [ZL, F2.1, F2.2.1, F2.2.2.1]
      rw [if_pos (nI_le (Nat.le_refl _) (by omega)), gg_t o1, gg_t o6, o7, gg_in (by omega) (by omega), gg_t s1, nAdd, nCl (by omega), fg _ d3, ct, hE, k1, ob_some, nAdd, up1_some]
  obtain ⟨z, k1, h3, rfl, k3⟩ := K
  refine ⟨h3, ?_, by rw [← hlm]; exact k3⟩
  have bx := bg x (Nat.le_of_lt hx)
  have bx1 := bg (x + 1) hx
  unfold BX5_addBits_3 MX5_addBits_51
  simp only [ZL, a1.1, a1.2.1, a1.2.2.1]
  rw [if_neg (nI_ge xc (by omega)), gg_t o1, g5, if_neg (nI_ge hx (by omega)), gg_t s1, gg_t s4, a4, s5, gg_in (by omega) (by omega), nCl (by omega), gg_t o4, o5, nAdd, gg_in (by omega) (by omega), gg_in (by omega) (by omega), nCl (by omega), nCl (by omega), f _ d2, bx, bx1, ls1, nSub (by omega), Nat.add_sub_cancel_left, lt_eq, a6 n (Nat.le_refl _), ← hE]
  exact k1
end
