/-! copy is added: the class's part -/
/-- the letters of the first x pieces -/
def lT (f : Nat → Int32) (o : Nat) : Nat → Nat
  | 0 => 0
  | x + 1 => lT f o x + Nn f (o + x)
theorem lT_c {f g : Nat → Int32} {o : Nat} : ∀ x, (∀ y, y < x → f (o + y) = g (o + y)) → lT f o x = lT g o x
  | 0, _ => rfl
  | x + 1, h => by
    show lT f o x + Nn f (o + x) = lT g o x + Nn g (o + x)
    rw [lT_c x (fun y hy => h y (by omega))]
    unfold Nn
    rw [h x (by omega)]
theorem lT_b {f : Nat → Int32} {o : Nat} : ∀ x, (∀ y, y < x → Nn f (o + y) ≤ 12) → lT f o x ≤ 12 * x
  | 0, _ => Nat.le_refl 0
  | x + 1, h => by
    have := lT_b x (fun y hy => h y (by omega))
    have := h x (by omega)
    show lT f o x + Nn f (o + x) ≤ _
    omega
theorem lT_m {f : Nat → Int32} {o x : Nat} : ∀ d, lT f o x ≤ lT f o (x + d)
  | 0 => Nat.le_refl _
  | d + 1 => Nat.le_trans (lT_m d) (Nat.le_add_right _ _)
theorem lT_x {f : Nat → Int32} {o x y : Nat} (h : x < y) : lT f o x + Nn f (o + x) ≤ lT f o y := by
  obtain ⟨d, rfl⟩ : ∃ d, y = x + 1 + d := ⟨y - (x + 1), by omega⟩
  exact lT_m (x := x + 1) d
/-- the part and its rows -/
def PD (h : Hp) (p : Nat) (y : Nat) : Prop := y = p ∨ y = gP h p 0 ∨ y = gP h p 1 ∨ y = gP h p 2
def PtN (h : Hp) (p : Nat) : Prop := p ≠ gP h p 0 ∧ p ≠ gP h p 1 ∧ p ≠ gP h p 2 ∧ gP h p 0 ≠ gP h p 1 ∧ gP h p 0 ≠ gP h p 2 ∧ gP h p 1 ≠ gP h p 2
/-- what is added so far: cp pieces closed of tp, cw words -/
def AtI (h h1 : Hp) (p B0 W0 E0 o cp cw tpn : Nat) (bh : Bool) (W Ln Lt : Nat → Int32) : Prop := Fr (PD h p) h h1 ∧ (∀ j, j ≠ 5 → j ≠ 6 → gI h1 p j = gI h p j) ∧ gI h1 p 5 = nI (B0 + cp) ∧ gI h1 p 6 = nI (W0 + cw) ∧ (∀ j, j ≤ B0 → gI h1 (gP h p 1) j = gI h (gP h p 1) j) ∧ (∀ j, j < B0 → gI h1 (gP h p 2) j = gI h (gP h p 2) j) ∧ (∀ j, j < E0 → gI h1 (gP h p 0) j = gI h (gP h p 0) j) ∧ (∀ j, zO (gI h1 (gP h p 2) j)) ∧
  (∀ x, x ≤ cp → gI h1 (gP h p 1) (B0 + x) = nI (E0 + lT Ln o x)) ∧ (∀ x, x < cp → gI h1 (gP h p 2) (B0 + x) = if x + 1 < tpn then (if W (o + x) = W (o + (x + 1)) then nI 0 else nI 1) else (if bh = true then nI 0 else nI 1)) ∧
  ∀ x, x < tpn → ∀ l, l < Nn Ln (o + x) → gI h1 (gP h p 0) (E0 + lT Ln o x + l) = Lt (12 * (o + x) + l)
section
variable {h h1 h2 : Hp} {p B0 W0 E0 o cp cw tpn w c run cl E i t X : Nat} {bh : Bool} {W Ln Lt : Nat → Int32} {b : Nat → Nat}
/-- a piece begins -/
theorem at_new (N : PtN h p) (A : AtI h h1 p B0 W0 E0 o cp cw cp bh W Ln Lt) (hL : ∀ x, x < cp → Nn Ln (o + x) ≤ 12) (hW : ∀ x, x + 1 = cp → (W (o + x) = nI w ↔ bh = true)) : AtI h (sI h1 (gP h p 0) (E0 + lT Ln o cp) (nI (c - 97))) p B0 W0 E0 o cp cw (cp + 1) false (va_up W (o + cp) (nI w)) (va_up Ln (o + cp) (nI 1)) (va_up Lt (12 * (o + cp)) (nI (c - 97))) := by
  obtain ⟨a1, a2, a3, a4, a5, a6, a7, a8, a9, a10, a11⟩ := A
  obtain ⟨n1, n2, n3, n4, n5, n6⟩ := N
  have lt' : ∀ x, x ≤ cp → lT (va_up Ln (o + cp) (nI 1)) o x = lT Ln o x := fun x hx => lT_c x (fun y hy => by rw [up_at, if_neg (by omega)])
  refine ⟨a1.trans (Fr.sI (Or.inr (Or.inl rfl))), ?_, ?_, ?_, ?_, ?_, ?_, ?_, ?_, ?_, ?_⟩
  · intro j h5 h6
    rw [gI_sI, if_neg n1]; exact a2 j h5 h6
  · rw [gI_sI, if_neg n1]; exact a3
  · rw [gI_sI, if_neg n1]; exact a4
  · intro j hj
    rw [gI_sI, if_neg (fun e => n4 e.symm)]; exact a5 j hj
  · intro j hj
    rw [gI_sI, if_neg (fun e => n5 e.symm)]; exact a6 j hj
  · intro j hj
    rw [gI_sI, if_pos rfl, up_at, if_neg (by omega)]; exact a7 j hj
  · intro j
    rw [gI_sI, if_neg (fun e => n5 e.symm)]; exact a8 j
  · intro x hx
    rw [gI_sI, if_neg (fun e => n4 e.symm), lt' x hx]; exact a9 x hx
  · intro x hx
    rw [gI_sI, if_neg (fun e => n5 e.symm), a10 x hx, if_pos (show x + 1 < cp + 1 by omega), up_at, if_neg (show ¬ o + x = o + cp by omega), up_at]
    by_cases z : x + 1 < cp
    · rw [if_pos z, if_neg (show ¬ o + (x + 1) = o + cp by omega)]
    · have xc : x + 1 = cp := by omega
      rw [if_neg z, if_pos (show o + (x + 1) = o + cp by omega)]
      have := hW x xc
      by_cases y : bh = true
      · rw [if_pos y, if_pos (this.mpr y)]
      · rw [if_neg y, if_neg (fun e => y (this.mp e))]
  · intro x hx l hl
    rw [lt' x (by omega), gI_sI, if_pos rfl, up_at, up_at]
    unfold Nn at hl
    rw [up_at] at hl
    by_cases z : x = cp
    · subst z
      rw [if_pos rfl, nCl (by omega)] at hl
      have l0 : l = 0 := by omega
      subst l0
      rw [if_pos (show E0 + lT Ln o x + 0 = E0 + lT Ln o x from rfl), if_pos (show 12 * (o + x) + 0 = 12 * (o + x) from rfl)]
    · rw [if_neg (show ¬ o + x = o + cp by omega)] at hl
      have xl : x < cp := by omega
      have := lT_x (f := Ln) (o := o) xl
      have hl' : l < Nn Ln (o + x) := hl
      have := hL x xl
      rw [if_neg (by omega), if_neg (by omega)]
      exact a11 x xl l hl'
/-- a piece goes on -/
theorem at_on (N : PtN h p) (A : AtI h h1 p B0 W0 E0 o cp cw (cp + 1) false W Ln Lt) (hL : ∀ x, x < cp → Nn Ln (o + x) ≤ 12) (hr : Ln (o + cp) = nI run) (r12 : run < 12) : AtI h (sI h1 (gP h p 0) (E0 + lT Ln o cp + run) (nI (c - 97))) p B0 W0 E0 o cp cw (cp + 1) false W (va_up Ln (o + cp) (nI (run + 1))) (va_up Lt (12 * (o + cp) + run) (nI (c - 97))) := by
  obtain ⟨a1, a2, a3, a4, a5, a6, a7, a8, a9, a10, a11⟩ := A
  obtain ⟨n1, n2, n3, n4, n5, n6⟩ := N
  have lt' : ∀ x, x ≤ cp → lT (va_up Ln (o + cp) (nI (run + 1))) o x = lT Ln o x := fun x hx => lT_c x (fun y hy => by rw [up_at, if_neg (by omega)])
  refine ⟨a1.trans (Fr.sI (Or.inr (Or.inl rfl))), ?_, ?_, ?_, ?_, ?_, ?_, ?_, ?_, ?_, ?_⟩
  · intro j h5 h6
    rw [gI_sI, if_neg n1]; exact a2 j h5 h6
  · rw [gI_sI, if_neg n1]; exact a3
  · rw [gI_sI, if_neg n1]; exact a4
  · intro j hj
    rw [gI_sI, if_neg (fun e => n4 e.symm)]; exact a5 j hj
  · intro j hj
    rw [gI_sI, if_neg (fun e => n5 e.symm)]; exact a6 j hj
  · intro j hj
    rw [gI_sI, if_pos rfl, up_at, if_neg (by omega)]; exact a7 j hj
  · intro j
    rw [gI_sI, if_neg (fun e => n5 e.symm)]; exact a8 j
  · intro x hx
    rw [gI_sI, if_neg (fun e => n4 e.symm), lt' x hx]; exact a9 x hx
  · intro x hx
    rw [gI_sI, if_neg (fun e => n5 e.symm)]; exact a10 x hx
  · intro x hx l hl
    rw [lt' x (by omega), gI_sI, if_pos rfl, up_at, up_at]
    unfold Nn at hl
    rw [up_at] at hl
    by_cases z : x = cp
    · subst z
      rw [if_pos rfl, nCl (by omega)] at hl
      by_cases y : l = run
      · subst y
        rw [if_pos rfl, if_pos rfl]
      · rw [if_neg (by omega), if_neg (by omega)]
        exact a11 x hx l (by unfold Nn; rw [hr, nCl (by omega)]; omega)
    · rw [if_neg (show ¬ o + x = o + cp by omega)] at hl
      have xl : x < cp := by omega
      have := lT_x (f := Ln) (o := o) xl
      have hl' : l < Nn Ln (o + x) := hl
      have := hL x xl
      rw [if_neg (by omega), if_neg (by omega)]
      exact a11 x hx l hl'
/-- a piece ends -/
theorem at_bit (N : PtN h p) (A : AtI h h1 p B0 W0 E0 o cp cw (cp + 1) false W Ln Lt) (hr : Ln (o + cp) = nI run) (r12 : run ≤ 12) (hcl : cl ≤ 1) : AtI h (sI (sI (sI (sI h1 (gP h p 2) (B0 + cp) (nI cl)) p 5 (nI (B0 + cp + 1))) (gP h p 1) (B0 + cp + 1) (nI (E0 + lT Ln o cp + run))) p 6 (nI (W0 + cw + cl))) p B0 W0 E0 o (cp + 1) (cw + cl) (cp + 1) (decide (cl = 0)) W Ln Lt := by
  obtain ⟨a1, a2, a3, a4, a5, a6, a7, a8, a9, a10, a11⟩ := A
  obtain ⟨n1, n2, n3, n4, n5, n6⟩ := N
  have gp : ∀ j, gI (sI (sI (sI (sI h1 (gP h p 2) (B0 + cp) (nI cl)) p 5 (nI (B0 + cp + 1))) (gP h p 1) (B0 + cp + 1) (nI (E0 + lT Ln o cp + run))) p 6 (nI (W0 + cw + cl))) p j = if j = 6 then nI (W0 + cw + cl) else if j = 5 then nI (B0 + cp + 1) else gI h1 p j := fun j => by
    rw [gI_sI, if_pos rfl, up_at, gI_sI, if_neg n2, gI_sI, if_pos rfl, up_at, gI_sI, if_neg n3]
  have g0 : gI (sI (sI (sI (sI h1 (gP h p 2) (B0 + cp) (nI cl)) p 5 (nI (B0 + cp + 1))) (gP h p 1) (B0 + cp + 1) (nI (E0 + lT Ln o cp + run))) p 6 (nI (W0 + cw + cl))) (gP h p 0) = gI h1 (gP h p 0) := by
    rw [gI_sI, if_neg (fun e => n1 e.symm), gI_sI, if_neg n4, gI_sI, if_neg (fun e => n1 e.symm), gI_sI, if_neg n5]
  have g1 : ∀ j, gI (sI (sI (sI (sI h1 (gP h p 2) (B0 + cp) (nI cl)) p 5 (nI (B0 + cp + 1))) (gP h p 1) (B0 + cp + 1) (nI (E0 + lT Ln o cp + run))) p 6 (nI (W0 + cw + cl))) (gP h p 1) j = if j = B0 + cp + 1 then nI (E0 + lT Ln o cp + run) else gI h1 (gP h p 1) j := fun j => by
    rw [gI_sI, if_neg (show ¬ gP h p 1 = p from fun e => n2 e.symm), gI_sI, if_pos rfl, gI_sI, if_neg (show ¬ gP h p 1 = p from fun e => n2 e.symm), gI_sI, if_neg n6, up_at]
  have g2 : ∀ j, gI (sI (sI (sI (sI h1 (gP h p 2) (B0 + cp) (nI cl)) p 5 (nI (B0 + cp + 1))) (gP h p 1) (B0 + cp + 1) (nI (E0 + lT Ln o cp + run))) p 6 (nI (W0 + cw + cl))) (gP h p 2) j = if j = B0 + cp then nI cl else gI h1 (gP h p 2) j := fun j => by
    rw [gI_sI, if_neg (fun e => n3 e.symm), gI_sI, if_neg (fun e => n6 e.symm), gI_sI, if_neg (fun e => n3 e.symm), gI_sI, if_pos rfl, up_at]
  refine ⟨(((a1.trans (Fr.sI (Or.inr (Or.inr (Or.inr rfl))))).trans (Fr.sI (Or.inl rfl))).trans (Fr.sI (Or.inr (Or.inr (Or.inl rfl))))).trans (Fr.sI (Or.inl rfl)), ?_, ?_, ?_, ?_, ?_, ?_, ?_, ?_, ?_, ?_⟩
  · intro j h5 h6
    rw [gp, if_neg h6, if_neg h5]; exact a2 j h5 h6
  · rw [gp, if_neg (by decide), if_pos rfl]
    rfl
  · rw [gp, if_pos rfl, Nat.add_assoc]
  · intro j hj
    rw [g1, if_neg (by omega)]; exact a5 j hj
  · intro j hj
    rw [g2, if_neg (by omega)]; exact a6 j hj
  · intro j hj
    rw [g0]; exact a7 j hj
  · intro j
    rw [g2]
    by_cases z : j = B0 + cp
    · rw [if_pos z]
      rcases (show cl = 0 ∨ cl = 1 by omega) with rfl | rfl
      · exact Or.inl rfl
      · exact Or.inr rfl
    · rw [if_neg z]; exact a8 j
  · intro x hx
    rw [g1]
    by_cases z : x = cp + 1
    · subst z
      rw [if_pos (show B0 + (cp + 1) = B0 + cp + 1 from rfl)]
      show _ = nI (E0 + (lT Ln o cp + Nn Ln (o + cp)))
      unfold Nn
      rw [hr, nCl (by omega), Nat.add_assoc]
    · rw [if_neg (by omega)]; exact a9 x (by omega)
  · intro x hx
    rw [g2]
    by_cases z : x = cp
    · subst z
      rw [if_pos rfl, if_neg (by omega)]
      rcases (show cl = 0 ∨ cl = 1 by omega) with rfl | rfl
      · rfl
      · rfl
    · rw [if_neg (by omega), a10 x (by omega), if_pos (show x + 1 < cp + 1 by omega), if_pos (show x + 1 < cp + 1 by omega)]
  · intro x hx l hl
    rw [g0]; exact a11 x hx l hl
/-- the class closes a piece -/
theorem c_addBit {B : Nat} (S : PtS h p) (F : Fr (PD h p) h h1) (N : PtN h p) (h5 : gI h1 p 5 = nI B) (h6 : gI h1 p 6 = nI w) (hB : B < 40) (hE : E ≤ 480) (hcl : cl ≤ 1) : MX5_addBit h1 p (nI E) (nI cl) = some (sI (sI (sI (sI h1 (gP h p 2) B (nI cl)) p 5 (nI (B + 1))) (gP h p 1) (B + 1) (nI E)) p 6 (nI (w + cl))) := by
  obtain ⟨n1, n2, n3, n4, n5, n6⟩ := N
  obtain ⟨s1, ⟨-, s2, s3⟩, ⟨-, s4, s5⟩, ⟨-, s6, s7⟩, -⟩ := S
  have e2 : gI (sI h1 (gP h p 2) B (nI cl)) p 5 = nI B := by rw [gI_sI, if_neg n3]; exact h5
  have e3 : gI (sI (sI h1 (gP h p 2) B (nI cl)) p 5 (nI (B + 1))) p 5 = nI (B + 1) := by rw [gI_sI, if_pos rfl, up_at, if_pos rfl]
  have e4 : gI (sI (sI (sI h1 (gP h p 2) B (nI cl)) p 5 (nI (B + 1))) (gP h p 1) (B + 1) (nI E)) p 6 = nI w := by rw [gI_sI, if_neg n2, gI_sI, if_pos rfl, up_at, if_neg (by decide), gI_sI, if_neg n3]; exact h6
  have k63 : ∀ g : Hp, kd g = kd h → ∀ v : Int32, MX5_addBit_63 g p (nI w) v = some (sI g p 6 (nI w + v)) := fun g e v => by
    unfold MX5_addBit_63
    rw [gg_t (by rw [e]; exact s1), lt_eq]
  have nar : vp_nar .boolean (nI cl) = nI cl := by
    rcases (show cl = 0 ∨ cl = 1 by omega) with rfl | rfl
    · exact vB0
    · exact vB1
  unfold MX5_addBit
  simp only [ZL, F.1, F.2.1, F.2.2.1]
  rw [gg_t s1, h5, if_neg (nI_ge (by omega) (by omega)), gg_t s2, s3, if_pos (nI_le hE (by omega)), gg_t s6, s7, gg_in (by omega) (by omega), nCl (by omega), nar, lt_eq, e2, nAdd, lt_eq, gg_t s4, e3, s5, gg_in (by omega) (by omega), nCl (by omega), lt_eq, e4, k63 _ (by simp only [kd_sI]; exact F.1), k63 _ (by simp only [kd_sI]; exact F.1), nAdd, nAdd]
  rcases (show cl = 0 ∨ cl = 1 by omega) with rfl | rfl
  · rw [if_pos rfl]
  · rw [if_neg (by decide)]
end
