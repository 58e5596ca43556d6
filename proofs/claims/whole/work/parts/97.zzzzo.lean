/-! correct: pieces of another part are added -/
def lS (L : Nat → Nat) : Nat → Nat
  | 0 => 0
  | x + 1 => lS L x + L x
theorem lS_c {L K : Nat → Nat} : ∀ x, (∀ y, y < x → L y = K y) → lS L x = lS K x
  | 0, _ => rfl
  | x + 1, h => by
    show lS L x + L x = lS K x + K x
    rw [lS_c x (fun y hy => h y (by omega)), h x (by omega)]
theorem lS_b {L : Nat → Nat} : ∀ x, (∀ y, y < x → L y ≤ 12) → lS L x ≤ 12 * x
  | 0, _ => Nat.le_refl 0
  | x + 1, h => by
    have := lS_b x (fun y hy => h y (by omega))
    have := h x (by omega)
    show lS L x + L x ≤ _
    omega
theorem lS_m {L : Nat → Nat} {x : Nat} : ∀ d, lS L x ≤ lS L (x + d)
  | 0 => Nat.le_refl _
  | d + 1 => Nat.le_trans (lS_m d) (Nat.le_add_right _ _)
theorem lS_x {L : Nat → Nat} {x y : Nat} (h : x < y) : lS L x + L x ≤ lS L y := by
  obtain ⟨d, rfl⟩ : ∃ d, y = x + 1 + d := ⟨y - (x + 1), by omega⟩
  exact lS_m (x := x + 1) d
/-- a part under construction holds n pieces of these lengths, ends and letters -/
def PI (h h1 : Hp) (p n w : Nat) (L C : Nat → Nat) (T : Nat → Nat → Nat) : Prop := Fr (PD h p) h h1 ∧ (∀ j, j ≠ 5 → j ≠ 6 → gI h1 p j = gI h p j) ∧ (∀ j, zO (gI h1 (gP h p 2) j)) ∧ gI h1 p 5 = nI n ∧ gI h1 p 6 = nI w ∧ (∀ x, x ≤ n → gI h1 (gP h p 1) x = nI (lS L x)) ∧ (∀ x, x < n → gI h1 (gP h p 2) x = nI (C x)) ∧ ∀ x, x < n → ∀ l, l < L x → gI h1 (gP h p 0) (lS L x + l) = nI (T x l)
section
variable {h h1 h2 : Hp} {p n w a c e : Nat} {L C : Nat → Nat} {T : Nat → Nat → Nat} {u : Nat → Nat}
/-- what a part holds with one piece more -/
def upL (f : Nat → Nat) (n v : Nat) : Nat → Nat := fun x => if x = n then v else f x
def upT (T : Nat → Nat → Nat) (n : Nat) (u : Nat → Nat) : Nat → Nat → Nat := fun x l => if x = n then u l else T x l
/-- letters are written, then the piece is closed -/
theorem pi_bit (S : PtS h p) (N : PtN h p) (A : PI h h1 p n w L C T) (hn : n < 40) (hL : ∀ x, x < n → L x ≤ 12) (he : e ≤ 12) (hc : c ≤ 1) (F : Fr (PD h p) h1 h2) (f1 : ∀ y, y ≠ gP h p 0 → gI h2 y = gI h1 y) (f2 : ∀ j, j < lS L n → gI h2 (gP h p 0) j = gI h1 (gP h p 0) j) (f3 : ∀ l, l < e → gI h2 (gP h p 0) (lS L n + l) = nI (u l)) : ∃ h3, MX5_addBit h2 p (nI (lS L n + e)) (nI c) = some h3 ∧ PI h h3 p (n + 1) (w + c) (upL L n e) (upL C n c) (upT T n u) := by
  obtain ⟨a1, a2, a3, a4, a5, a6, a7, a8⟩ := A
  obtain ⟨n1, n2, n3, n4, n5, n6⟩ := id N
  have lb := lS_b n hL
  have g5 : gI h2 p 5 = nI n := by rw [f1 p n1]; exact a4
  have g6 : gI h2 p 6 = nI w := by rw [f1 p n1]; exact a5
  have K := c_addBit (cl := c) S (a1.trans F) N g5 g6 hn (show lS L n + e ≤ 480 by omega) hc
  obtain ⟨h3, hh3⟩ : ∃ h3, h3 = sI (sI (sI (sI h2 (gP h p 2) n (nI c)) p 5 (nI (n + 1))) (gP h p 1) (n + 1) (nI (lS L n + e))) p 6 (nI (w + c)) := ⟨_, rfl⟩
  rw [← hh3] at K
  have sl : ∀ x, x ≤ n → lS (upL L n e) x = lS L x := fun x hx => lS_c x (fun y hy => by unfold upL; rw [if_neg (by omega)])
  have gp : ∀ j, gI h3 p j = if j = 6 then nI (w + c) else if j = 5 then nI (n + 1) else gI h2 p j := fun j => by
    rw [hh3, gI_sI, if_pos rfl, gI_sI, if_neg n2, gI_sI, if_pos rfl, gI_sI, if_neg n3, up_at, up_at]
  have g0 : gI h3 (gP h p 0) = gI h2 (gP h p 0) := by
    rw [hh3, gI_sI, if_neg (show ¬ gP h p 0 = p from fun e => n1 e.symm), gI_sI, if_neg n4, gI_sI, if_neg (show ¬ gP h p 0 = p from fun e => n1 e.symm), gI_sI, if_neg n5]
  have g1 : ∀ j, gI h3 (gP h p 1) j = if j = n + 1 then nI (lS L n + e) else gI h2 (gP h p 1) j := fun j => by
    rw [hh3, gI_sI, if_neg (show ¬ gP h p 1 = p from fun e => n2 e.symm), gI_sI, if_pos rfl, gI_sI, if_neg (show ¬ gP h p 1 = p from fun e => n2 e.symm), gI_sI, if_neg n6, up_at]
  have g2 : ∀ j, gI h3 (gP h p 2) j = if j = n then nI c else gI h2 (gP h p 2) j := fun j => by
    rw [hh3, gI_sI, if_neg (show ¬ gP h p 2 = p from fun e => n3 e.symm), gI_sI, if_neg (show ¬ gP h p 2 = gP h p 1 from fun e => n6 e.symm), gI_sI, if_neg (show ¬ gP h p 2 = p from fun e => n3 e.symm), gI_sI, if_pos rfl, up_at]
  refine ⟨h3, K, ?_, fun j j5 j6 => ?_, fun j => ?_, ?_, ?_, fun x hx => ?_, fun x hx => ?_, fun x hx l hl => ?_⟩
  · rw [hh3]
    exact ((((a1.trans F).trans (Fr.sI (Or.inr (Or.inr (Or.inr rfl))))).trans (Fr.sI (Or.inl rfl))).trans (Fr.sI (Or.inr (Or.inr (Or.inl rfl))))).trans (Fr.sI (Or.inl rfl))
  · rw [gp, if_neg j6, if_neg j5, f1 p n1]; exact a2 j j5 j6
  · rw [g2]
    by_cases z : j = n
    · rw [if_pos z]
      rcases (show c = 0 ∨ c = 1 by omega) with rfl | rfl
      · exact Or.inl rfl
      · exact Or.inr rfl
    · rw [if_neg z, f1 _ (fun e => n5 e.symm)]; exact a3 j
  · rw [gp, if_neg (by decide), if_pos rfl]
  · rw [gp, if_pos rfl]
  · rw [g1]
    by_cases z : x = n + 1
    · rw [if_pos z, z]
      show _ = nI (lS (upL L n e) n + upL L n e n)
      rw [sl n (Nat.le_refl _)]
      unfold upL
      rw [if_pos rfl]
    · rw [if_neg z, f1 _ (fun e => n4 e.symm), sl x (by omega)]; exact a6 x (by omega)
  · rw [g2]
    unfold upL
    by_cases z : x = n
    · rw [if_pos z, if_pos z]
    · rw [if_neg z, if_neg z, f1 _ (fun e => n5 e.symm)]; exact a7 x (by omega)
  · rw [g0, sl x (by omega)]
    unfold upL at hl
    unfold upT
    by_cases z : x = n
    · rw [if_pos z] at hl
      rw [if_pos z, z]
      exact f3 l hl
    · rw [if_neg z] at hl
      have xl : x < n := by omega
      have := lS_x (L := L) xl
      rw [if_neg z, f2 _ (by omega)]
      exact a8 x xl l hl
end
