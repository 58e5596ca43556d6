/-! new objects: those of the class -/
def mkF (ss : List (Nat × Nat × Nat)) : List En := ss.map (fun s => (s.1, s.2.1, s.2.2, [], fun _ => 0))
def ss0 : List (Nat × Nat × Nat) := [(13, 22, 41), (12, 20, 41), (11, 20, 41), (10, 20, 41), (9, 20, 41), (8, 20, 41)]
def nm0 : Nat → Int32 := (va_up (va_up (va_up (va_up (va_up (va_up (va_up (va_up (fun _ => 0) 0 (0)) 1 (-1)) 2 (0)) 3 (0)) 4 (0)) 5 (0)) 6 (0)) 7 (0))
def ss9 : List (Nat × Nat × Nat) := [(8, 22, 64), (7, 22, 12), (6, 20, 256), (5, 20, 12), (4, 20, 12), (3, 20, 12), (2, 20, 12)]
def nm9 : Nat → Int32 := (va_up (va_up (fun _ => 0) 0 (0)) 1 (0))
def ss4 : List (Nat × Nat × Nat) := [(10, 22, 30), (9, 20, 30), (8, 20, 30), (7, 20, 30), (0, 20, 27)]
def nm4 : Nat → Int32 := (va_up (va_up (va_up (va_up (va_up (va_up (fun _ => 0) 1 (0)) 2 (0)) 3 (0)) 4 (0)) 5 (0)) 6 (0))
def ss5 : List (Nat × Nat × Nat) := [(4, 20, 40), (3, 20, 40), (2, 22, 40), (1, 20, 41), (0, 21, 480)]
def nm5 : Nat → Int32 := (va_up (va_up (va_up (va_up (va_up (va_up (va_up (fun _ => 0) 5 (0)) 6 (0)) 7 (0)) 8 (0)) 9 (0)) 10 (0)) 11 (0))
def ss8 : List (Nat × Nat × Nat) := [(1, 21, 32), (0, 21, 32)]
def nm8 : Nat → Int32 := (va_up (va_up (va_up (va_up (va_up (va_up (va_up (va_up (va_up (va_up (va_up (va_up (va_up (fun _ => 0) 2 (0)) 3 (0)) 4 (0)) 5 (-1)) 6 (0)) 7 (0)) 8 (0)) 9 (0)) 10 (0)) 11 (-1)) 12 (-1)) 13 (0)) 14 (0))
section
variable {tg tg0 : Nat → List Nat} {h h0 : Hp} {p a b : Nat} {T : List Nat}
theorem mki0 (B : Bl tg0 h0 tg h p 0 T [] (fun _ => 0) a b) : ∃ r, MX0_init h p = some r ∧ ∃ tg', Bl tg0 h0 tg' r p 0 T (mkF ss0) nm0 (a + 6) (b + 246) := by
  unfold MX0_init
  rw [gn_ne B.p0]
  rw [gg_t (bl_kd B)]
  refine Bl.numK B fun h B => ?_
  refine Bl.numK B fun h B => ?_
  refine Bl.numK B fun h B => ?_
  refine Bl.numK B fun h B => ?_
  refine Bl.numK B fun h B => ?_
  refine Bl.numK B fun h B => ?_
  refine Bl.numK B fun h B => ?_
  refine Bl.numK B fun h B => ?_
  refine Bl.arrK B (by simp) fun tg h B => ?_
  refine Bl.arrK B (by simp) fun tg h B => ?_
  refine Bl.arrK B (by simp) fun tg h B => ?_
  refine Bl.arrK B (by simp) fun tg h B => ?_
  refine Bl.arrK B (by simp) fun tg h B => ?_
  refine Bl.arrK B (by simp) fun tg h B => ?_
  exact ⟨_, Eq.refl _, _, B.cg (by omega) (by omega)⟩
theorem mki9 (B : Bl tg0 h0 tg h p 8 T [] (fun _ => 0) a b) : ∃ r, MX9_init h p = some r ∧ ∃ tg', Bl tg0 h0 tg' r p 8 T (mkF ss9) nm9 (a + 7) (b + 380) := by
  unfold MX9_init
  rw [gn_ne B.p0]
  rw [gg_t (bl_kd B)]
  refine Bl.numK B fun h B => ?_
  refine Bl.numK B fun h B => ?_
  refine Bl.arrK B (by simp) fun tg h B => ?_
  refine Bl.arrK B (by simp) fun tg h B => ?_
  refine Bl.arrK B (by simp) fun tg h B => ?_
  refine Bl.arrK B (by simp) fun tg h B => ?_
  refine Bl.arrK B (by simp) fun tg h B => ?_
  refine Bl.arrK B (by simp) fun tg h B => ?_
  refine Bl.arrK B (by simp) fun tg h B => ?_
  exact ⟨_, Eq.refl _, _, B.cg (by omega) (by omega)⟩
theorem mki4 (B : Bl tg0 h0 tg h p 3 T [] (fun _ => 0) a b) : ∃ r, MX4_init h p = some r ∧ ∃ tg', Bl tg0 h0 tg' r p 3 T (mkF ss4) nm4 (a + 5) (b + 147) := by
  unfold MX4_init
  rw [gn_ne B.p0]
  refine Bl.arrK B (by simp) fun tg h B => ?_
  refine Bl.numK B fun h B => ?_
  refine Bl.numK B fun h B => ?_
  refine Bl.numK B fun h B => ?_
  refine Bl.numK B fun h B => ?_
  refine Bl.numK B fun h B => ?_
  refine Bl.numK B fun h B => ?_
  refine Bl.arrK B (by simp) fun tg h B => ?_
  refine Bl.arrK B (by simp) fun tg h B => ?_
  refine Bl.arrK B (by simp) fun tg h B => ?_
  refine Bl.arrK B (by simp) fun tg h B => ?_
  exact ⟨_, Eq.refl _, _, B.cg (by omega) (by omega)⟩
theorem mki5 (B : Bl tg0 h0 tg h p 4 T [] (fun _ => 0) a b) : ∃ r, MX5_init h p = some r ∧ ∃ tg', Bl tg0 h0 tg' r p 4 T (mkF ss5) nm5 (a + 5) (b + 641) := by
  unfold MX5_init
  rw [gn_ne B.p0]
  refine Bl.arrK B (by simp) fun tg h B => ?_
  refine Bl.arrK B (by simp) fun tg h B => ?_
  refine Bl.arrK B (by simp) fun tg h B => ?_
  refine Bl.arrK B (by simp) fun tg h B => ?_
  refine Bl.arrK B (by simp) fun tg h B => ?_
  refine Bl.numK B fun h B => ?_
  refine Bl.numK B fun h B => ?_
  refine Bl.numK B fun h B => ?_
  refine Bl.numK B fun h B => ?_
  refine Bl.numK B fun h B => ?_
  refine Bl.numK B fun h B => ?_
  refine Bl.numK B fun h B => ?_
  exact ⟨_, Eq.refl _, _, B.cg (by omega) (by omega)⟩
theorem mki8 (B : Bl tg0 h0 tg h p 7 T [] (fun _ => 0) a b) : ∃ r, MX8_init h p = some r ∧ ∃ tg', Bl tg0 h0 tg' r p 7 T (mkF ss8) nm8 (a + 2) (b + 64) := by
  unfold MX8_init
  rw [gn_ne B.p0]
  refine Bl.arrK B (by simp) fun tg h B => ?_
  refine Bl.arrK B (by simp) fun tg h B => ?_
  refine Bl.numK B fun h B => ?_
  refine Bl.numK B fun h B => ?_
  refine Bl.numK B fun h B => ?_
  refine Bl.numK B fun h B => ?_
  refine Bl.numK B fun h B => ?_
  refine Bl.numK B fun h B => ?_
  refine Bl.numK B fun h B => ?_
  refine Bl.numK B fun h B => ?_
  refine Bl.numK B fun h B => ?_
  refine Bl.numK B fun h B => ?_
  refine Bl.numK B fun h B => ?_
  refine Bl.numK B fun h B => ?_
  refine Bl.numK B fun h B => ?_
  exact ⟨_, Eq.refl _, _, B.cg (by omega) (by omega)⟩
end
section
variable {h : Hp} {p K : Nat} {ss : List (Nat × Nat × Nat)} {s : Nat × Nat × Nat} {nm : Nat → Int32}
theorem nob_ar (N : Nob h p K (mkF ss) nm) (f k n : Nat) (hs : (f, k, n) ∈ ss) : ar h p f k n ∧ (∀ j, gI h (gP h p f) j = 0) ∧ ∀ j, gP h (gP h p f) j = 0 := by
  obtain ⟨q1, q2, q3, q4, q5, q6, q7⟩ := N.2.2.2.1 (f, k, n, [], fun _ => 0) (List.mem_map.mpr ⟨(f, k, n), hs, Eq.refl _⟩)
  have q1 : p < gP h p f := q1
  exact ⟨⟨by omega, q3, q4 (Eq.refl _)⟩, fun j => by rw [q5], fun j => q7 j (fun s hs => absurd hs (List.not_mem_nil))⟩
theorem nob_ma (N : Nob h p 3 (mkF ss4) nm4) : MaS h p := by
  obtain ⟨b0, -, -⟩ := nob_ar N 0 20 27 (by simp [ss4])
  obtain ⟨b7, -, -⟩ := nob_ar N 7 20 30 (by simp [ss4])
  obtain ⟨b8, -, -⟩ := nob_ar N 8 20 30 (by simp [ss4])
  obtain ⟨b9, -, -⟩ := nob_ar N 9 20 30 (by simp [ss4])
  obtain ⟨b10, c10, -⟩ := nob_ar N 10 22 30 (by simp [ss4])
  exact ⟨N.1, b0, b7, b8, b9, b10, by rw [N.2.2.1]; exact Or.inl (Eq.refl _), fun j => by rw [c10 j]; exact Or.inl (Eq.refl _)⟩
theorem nob_pt (N : Nob h p 4 (mkF ss5) nm5) : PtS h p := by
  obtain ⟨b0, -, -⟩ := nob_ar N 0 21 480 (by simp [ss5])
  obtain ⟨b1, c1, -⟩ := nob_ar N 1 20 41 (by simp [ss5])
  obtain ⟨b2, c2, -⟩ := nob_ar N 2 22 40 (by simp [ss5])
  obtain ⟨b3, -, -⟩ := nob_ar N 3 20 40 (by simp [ss5])
  obtain ⟨b4, -, -⟩ := nob_ar N 4 20 40 (by simp [ss5])
  exact ⟨N.1, b0, b1, b2, b3, b4, by rw [c1 0]; exact Eq.refl _, by rw [N.2.2.1]; exact Or.inl (Eq.refl _), by rw [N.2.2.1]; exact Or.inl (Eq.refl _), fun j => by rw [c2 j]; exact Or.inl (Eq.refl _)⟩
theorem nob_sl (N : Nob h p 7 (mkF ss8) nm8) : SlS h p ∧ ln h (gP h p 0) = 32 := by
  obtain ⟨b0, -, -⟩ := nob_ar N 0 21 32 (by simp [ss8])
  obtain ⟨b1, -, -⟩ := nob_ar N 1 21 32 (by simp [ss8])
  exact ⟨⟨N.1, ⟨b0.1, b0.2.1⟩, ⟨b1.1, b1.2.1⟩, b0.2.2.trans b1.2.2.symm, Or.inl b0.2.2, by rw [N.2.2.1]; exact Or.inl (Eq.refl _)⟩, b0.2.2⟩
theorem nob_sy (N : Nob h p 8 (mkF ss9) nm9) : StyS h p ∧ gI h p 1 = nI 0 ∧ gI h p 0 = nI 0 := by
  obtain ⟨b2, -, -⟩ := nob_ar N 2 20 12 (by simp [ss9])
  obtain ⟨b3, -, -⟩ := nob_ar N 3 20 12 (by simp [ss9])
  obtain ⟨b4, -, -⟩ := nob_ar N 4 20 12 (by simp [ss9])
  obtain ⟨b5, -, -⟩ := nob_ar N 5 20 12 (by simp [ss9])
  obtain ⟨b6, -, -⟩ := nob_ar N 6 20 256 (by simp [ss9])
  obtain ⟨b7, -, -⟩ := nob_ar N 7 22 12 (by simp [ss9])
  obtain ⟨b8, -, -⟩ := nob_ar N 8 22 64 (by simp [ss9])
  exact ⟨⟨N.1, b2, b3, b4, b5, b6, b7, b8⟩, by rw [N.2.2.1]; exact Eq.refl _, by rw [N.2.2.1]; exact Eq.refl _⟩
end
