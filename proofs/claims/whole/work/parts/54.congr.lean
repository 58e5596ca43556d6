/-! the same cells, the same state -/
def sm (h h' : Hp) (a : Nat) : Prop := kd h' a = kd h a ∧ ln h' a = ln h a ∧ gI h' a = gI h a ∧ gP h' a = gP h a
/-- t's own cells: those whose name ends so; and no cell at all -/
def Un (tg : Nat → List Nat) (t : List Nat) (b : Nat) : Prop := b = 0 ∨ t <:+ tg b
theorem Un.p {tg : Nat → List Nat} {h : Hp} {t : List Nat} {b k : Nat} (O : Own tg h) (ht : ¬ t <:+ [3]) (u : Un tg t b) (hb : tg b = [3] → b = 3) (h3 : tg 3 = [3]) : Un tg t (gP h b k) := by
  obtain ⟨-, -, -, o1, o2, -⟩ := O
  by_cases z : gP h b k = 0
  · exact Or.inl z
  · rcases u with rfl | u
    · exact absurd (o1 k) z
    · by_cases q : b = 3
      · subst q
        rw [h3] at u
        exact absurd u ht
      · refine Or.inr ?_
        rw [o2 b k z (fun e => absurd e q)]
        exact u.trans (List.suffix_cons _ _)
section
variable {h h' : Hp} {m : Nat → Int32}
theorem PtS.congr {p : Nat} (S : PtS h p) (e0 : sm h h' p) (e1 : ∀ k, sm h h' (gP h p k)) : PtS h' p := by
  unfold PtS ar at S ⊢
  simp only [e0.1, e0.2.1, e0.2.2.1, e0.2.2.2, (e1 _).1, (e1 _).2.1, (e1 _).2.2.1, (e1 _).2.2.2]
  exact S
theorem StyS.congr {p : Nat} (S : StyS h p) (e0 : sm h h' p) (e1 : ∀ k, sm h h' (gP h p k)) : StyS h' p := by
  unfold StyS ar at S ⊢
  simp only [e0.1, e0.2.1, e0.2.2.1, e0.2.2.2, (e1 _).1, (e1 _).2.1, (e1 _).2.2.1, (e1 _).2.2.2]
  exact S
theorem MaS.congr {p : Nat} (S : MaS h p) (e0 : sm h h' p) (e1 : ∀ k, sm h h' (gP h p k)) : MaS h' p := by
  unfold MaS ar at S ⊢
  simp only [e0.1, e0.2.1, e0.2.2.1, e0.2.2.2, (e1 _).1, (e1 _).2.1, (e1 _).2.2.1, (e1 _).2.2.2]
  exact S
theorem SlS.congr {p : Nat} (S : SlS h p) (e0 : sm h h' p) (e1 : ∀ k, sm h h' (gP h p k)) : SlS h' p := by
  unfold SlS at S ⊢
  simp only [e0.1, e0.2.1, e0.2.2.1, e0.2.2.2, (e1 _).1, (e1 _).2.1, (e1 _).2.2.1, (e1 _).2.2.2]
  exact S
theorem BrS.congr {p : Nat} (S : BrS h p) (e0 : sm h h' p) (e1 : ∀ k, sm h h' (gP h p k)) : BrS h' p := by
  unfold BrS ar at S ⊢
  simp only [e0.1, e0.2.1, e0.2.2.1, e0.2.2.2, (e1 _).1, (e1 _).2.1, (e1 _).2.2.1, (e1 _).2.2.2]
  exact S
theorem PtV.congr {p q : Nat} (S : PtV h p m q) (e0 : sm h h' p) (e1 : ∀ k, sm h h' (gP h p k)) : PtV h' p m q := by
  unfold PtV at S ⊢
  simp only [e0.1, e0.2.1, e0.2.2.1, e0.2.2.2, (e1 _).1, (e1 _).2.1, (e1 _).2.2.1, (e1 _).2.2.2]
  exact S
theorem MaV.congr {p q : Nat} (S : MaV h p m q) (e0 : sm h h' p) (e1 : ∀ k, sm h h' (gP h p k)) : MaV h' p m q := by
  unfold MaV at S ⊢
  simp only [e0.1, e0.2.1, e0.2.2.1, e0.2.2.2, (e1 _).1, (e1 _).2.1, (e1 _).2.2.1, (e1 _).2.2.2]
  exact S
theorem SlV.congr {p q : Nat} (S : SlV h p m q) (e0 : sm h h' p) (e1 : ∀ k, sm h h' (gP h p k)) : SlV h' p m q := by
  unfold SlV at S ⊢
  simp only [e0.1, e0.2.1, e0.2.2.1, e0.2.2.2, (e1 _).1, (e1 _).2.1, (e1 _).2.2.1, (e1 _).2.2.2]
  exact S
theorem StyV.congr {p q : Nat} (S : StyV h p m q) (e0 : sm h h' p) (e1 : ∀ k, sm h h' (gP h p k)) : StyV h' p m q := by
  unfold StyV at S ⊢
  simp only [e0.1, e0.2.1, e0.2.2.1, e0.2.2.2, (e1 _).1, (e1 _).2.1, (e1 _).2.2.1, (e1 _).2.2.2]
  exact S
/-- what lies under r is the same -/
def sm3 (h h' : Hp) (r : Nat) : Prop := sm h h' r ∧ (∀ k, sm h h' (gP h r k)) ∧ (∀ k j, sm h h' (gP h (gP h r k) j)) ∧ ∀ k j i, sm h h' (gP h (gP h (gP h r k) j) i)
theorem RmS.congr {r : Nat} (S : RmS h r) (e : sm3 h h' r) : RmS h' r := by
  obtain ⟨e0, e1, e2, e3⟩ := e
  unfold RmS ar at S ⊢
  simp only [e0.1, e0.2.1, e0.2.2.1, e0.2.2.2, (e1 _).1, (e1 _).2.1, (e1 _).2.2.1, (e1 _).2.2.2, (e2 _ _).1, (e2 _ _).2.1, (e2 _ _).2.2.1, (e2 _ _).2.2.2]
  obtain ⟨a1, a2, a3, a4, a5, a6, a7, a8, a9, a10, a11, a12, a13, a14, ⟨b1, b2, b3⟩, ⟨b4, b5⟩, c1, c2, c3, c4⟩ := S
  exact ⟨a1, a2, a3, a4, a5, a6, a7, a8, a9, a10, a11, a12, a13, a14, ⟨b1, b2.congr (e1 _) (e2 _), b3⟩, ⟨b4, b5.congr (e1 _) (e2 _)⟩, fun q hq => (c1 q hq).congr (e2 _ _) (e3 _ _), fun q hq => (c2 q hq).congr (e2 _ _) (e3 _ _), fun q hq => (c3 q hq).congr (e2 _ _) (e3 _ _), fun q hq => (c4 q hq).congr (e2 _ _) (e3 _ _)⟩
theorem RmV.congr {r : Nat} (S : RmV h r m) (e : sm3 h h' r) : RmV h' r m := by
  obtain ⟨e0, e1, e2, e3⟩ := e
  unfold RmV at S ⊢
  simp only [e0.1, e0.2.1, e0.2.2.1, e0.2.2.2, (e1 _).1, (e1 _).2.1, (e1 _).2.2.1, (e1 _).2.2.2]
  obtain ⟨a1, a2, a3, a4, a5, a6, a7, c1, c2, c3, c4, d⟩ := S
  exact ⟨a1, a2, a3, a4, a5, a6, a7, fun q hq => ⟨(c1 q hq).1, (c1 q hq).2.congr (e2 _ _) (e3 _ _)⟩, fun q hq => ⟨(c2 q hq).1, (c2 q hq).2.congr (e2 _ _) (e3 _ _)⟩, fun q hq => ⟨(c3 q hq).1, (c3 q hq).2.congr (e2 _ _) (e3 _ _)⟩, fun q hq => ⟨(c4 q hq).1, (c4 q hq).2.congr (e2 _ _) (e3 _ _)⟩, d⟩
theorem DkS.congr {r : Nat} (S : DkS h r) (e : sm3 h h' r) : DkS h' r := by
  obtain ⟨e0, e1, e2, e3⟩ := e
  unfold DkS ar at S ⊢
  simp only [e0.1, e0.2.1, e0.2.2.1, e0.2.2.2, (e1 _).1, (e1 _).2.1, (e1 _).2.2.1, (e1 _).2.2.2, (e2 _ _).1, (e2 _ _).2.1, (e2 _ _).2.2.1, (e2 _ _).2.2.2]
  exact S
theorem DkV.congr {r : Nat} (S : DkV h r m) (e : sm3 h h' r) : DkV h' r m := by
  obtain ⟨e0, e1, e2, e3⟩ := e
  unfold DkV at S ⊢
  simp only [e0.1, e0.2.1, e0.2.2.1, e0.2.2.2, (e1 _).1, (e1 _).2.1, (e1 _).2.2.1, (e1 _).2.2.2, (e2 _ _).1, (e2 _ _).2.1, (e2 _ _).2.2.1, (e2 _ _).2.2.2]
  exact S
end
/-- what is under r is the same, where all cells of r's name are -/
theorem sm3.of {tg : Nat → List Nat} {h h' : Hp} {r : Nat} {t : List Nat} (O : Own tg h) (h3 : tg 3 = [3]) (hb : ∀ b, tg b = [3] → b = 3) (ht : ¬ t <:+ [3]) (hr : t <:+ tg r) (H : ∀ b, Un tg t b → sm h h' b) : sm3 h h' r := by
  have u0 : Un tg t r := Or.inr hr
  have up : ∀ b k, Un tg t b → Un tg t (gP h b k) := fun b k u => u.p O ht (hb b) h3
  exact ⟨H _ u0, fun k => H _ (up _ k u0), fun k j => H _ (up _ j (up _ k u0)), fun k j i => H _ (up _ i (up _ j (up _ k u0)))⟩
