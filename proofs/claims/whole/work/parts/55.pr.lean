/-! A CALL ON BOTH SIDES -/
/-- the reference's side: its memory m, the image k (i: is there one), the tape t of n bytes, the fault f -/
def RSt (h : Hp) (m k : Nat → Int32) (i : Int32) (t : Nat → Int32) (n f : Int32) : Prop := RS h ∧ gI h 74 = m ∧ gI h 75 = k ∧ gI h 73 4 = i ∧ gI h 77 = t ∧ gI h 73 6 = n ∧ gI h 73 9 = f
/-- an image is there, or none -/
def Img (h : Hp) (k : Nat → Int32) (i : Int32) : Prop := (i = nI 0 ∧ gP h 1 9 = 0 ∧ gP h 1 10 = 0) ∨ (i = nI 1 ∧ gP h 1 9 ≠ 0 ∧ gP h 1 10 ≠ 0 ∧ RmS h (gP h 1 9) ∧ RmV h (gP h 1 9) k ∧ DkS h (gP h 1 10) ∧ DkV h (gP h 1 10) k ∧ MI k)
/-- a byte as the class has it -/
def bS (b : Nat) : Int32 := if b < 128 then nI b else -nI (256 - b)
def TpV (h : Hp) (t : Nat → Int32) (n f : Int32) : Prop := gI h 1 1 = n ∧ (∃ l, l ≤ 400 ∧ n = nI l) ∧ gI h 1 2 = f ∧ ∀ j, j < 400 → gI h 2 j = bS (Nn t j) ∧ oN t j 255
/-- the class's side -/
def CSt (tg : Nat → List Nat) (h : Hp) (m k : Nat → Int32) (i : Int32) (t : Nat → Int32) (n f : Int32) : Prop :=
  Own tg h ∧ XS h ∧ XS2 h ∧ RmS h 19 ∧ RmV h 19 m ∧ DkS h 48 ∧ DkV h 48 m ∧ MI m ∧ TpV h t n f ∧ Img h k i ∧ (gP h 1 11 ≠ 0 → RmS h (gP h 1 11))
/-- the reference's cells (and the law's row) are as they were -/
def Rp (h h1 : Hp) : Prop := ∀ b, 73 ≤ b → b ≤ 109 → sm h h1 b
def Rc (b : Nat) : Prop := 73 ≤ b ∧ b ≤ 108
def Ou (h1 h' : Hp) : Prop := h' = h1 ∨ ∃ v, h' = sI h1 109 0 v
def Ag (cm : Nat → Nat) (o : Int32 ⊕ Nat) (b th : Int32) : Prop := match o with
  | .inl v => th = nI 0 ∧ v = b
  | .inr k => th = nI (cm k) ∧ 1 ≤ cm k ∧ cm k ≤ 4
/-- what it may make: told apart -/
def Pr (cm : Nat → Nat) (G : Hp → Hp → Prop) (h : Hp) (X : Option ((Int32 ⊕ Nat) × Hp)) (Y : Hp → Option (Int32 × Hp)) : Prop :=
  ∃ o h1 tg m k i t n f, X = some (o, h1) ∧ CSt tg h1 m k i t n f ∧ Rp h h1 ∧ G h h1 ∧ ∀ h', Ou h1 h' → ∃ b h2, Y h' = some (b, h2) ∧ Fr Rc h' h2 ∧ RSt h2 m k i t n f ∧ Ag cm o b (gI h2 73 0)
/-- nothing is made but an exception -/
def Gq (h h1 : Hp) : Prop := ln h1 = ln h ∧ gP h1 = gP h ∧ nc h ≤ nc h1 ∧ nc h1 ≤ nc h + 1 ∧ ns h ≤ ns h1 ∧ ns h1 ≤ ns h + 6 ∧ sz h1 = sz h
theorem Gq.rfl {h : Hp} : Gq h h := ⟨Eq.refl _, Eq.refl _, Nat.le_refl _, Nat.le_succ _, Nat.le_refl _, Nat.le_add_right _ _, Eq.refl _⟩
theorem Gq.bmp {h : Hp} : Gq h (bmp h 1 6) := ⟨Eq.refl _, Eq.refl _, Nat.le_succ _, Nat.le_refl _, Nat.le_add_right _ _, Nat.le_refl _, Eq.refl _⟩
theorem Rp.rfl {h : Hp} : Rp h h := fun _ _ _ => ⟨Eq.refl _, Eq.refl _, Eq.refl _, Eq.refl _⟩
theorem Rp.bmp {h : Hp} {c n : Nat} : Rp h (bmp h c n) := fun _ _ _ => ⟨Eq.refl _, Eq.refl _, Eq.refl _, Eq.refl _⟩
section
variable {tg : Nat → List Nat} {h h' : Hp} {m k t : Nat → Int32} {i n f : Int32}
theorem CSt.bmp {c q : Nat} (C : CSt tg h m k i t n f) : CSt tg (bmp h c q) m k i t n f := C
theorem RSt.ou (R : RSt h m k i t n f) (o : Ou h h') : RSt h' m k i t n f := by
  rcases o with rfl | ⟨v, rfl⟩
  · exact R
  · obtain ⟨r, r1, r2, r3, r4, r5, r6⟩ := R
    refine ⟨r.sI, ?_, ?_, ?_, ?_, ?_, ?_⟩ <;> (rw [gI_sI, if_neg (by omega)]; assumption)
theorem RSt.rp {h1 : Hp} (R : RSt h m k i t n f) (r : Rp h h1) : RSt h1 m k i t n f := by
  obtain ⟨R0, r1, r2, r3, r4, r5, r6⟩ := R
  have e : ∀ b, 73 ≤ b → b ≤ 109 → gI h1 b = gI h b := fun b h1 h2 => (r b h1 h2).2.2.1
  refine ⟨R0.of (fun b h1 h2 => (r b h1 (by omega)).1) (fun b h1 h2 => (r b h1 (by omega)).2.1) (r 73 (by omega) (by omega)).2.2.2, ?_, ?_, ?_, ?_, ?_, ?_⟩ <;> (rw [e _ (by omega) (by omega)]; assumption)
/-- thrown is written -/
theorem RSt.th {v : Int32} (R : RSt h m k i t n f) : RSt (sI h 73 0 v) m k i t n f := by
  obtain ⟨R0, r1, r2, r3, r4, r5, r6⟩ := R
  refine ⟨R0.sI, ?_, ?_, ?_, ?_, ?_, ?_⟩
  · rw [gI_sI, if_neg (by omega)]; exact r1
  · rw [gI_sI, if_neg (by omega)]; exact r2
  · rw [gI_sI, if_pos rfl, up_at, if_neg (by omega)]; exact r3
  · rw [gI_sI, if_neg (by omega)]; exact r4
  · rw [gI_sI, if_pos rfl, up_at, if_neg (by omega)]; exact r5
  · rw [gI_sI, if_pos rfl, up_at, if_neg (by omega)]; exact r6
theorem th_get {v : Int32} : gI (sI h 73 0 v) 73 0 = v := by rw [gI_sI, if_pos rfl, up_at, if_pos rfl]
theorem th_fr {v : Int32} : Fr Rc h (sI h 73 0 v) := Fr.sI (S := Rc) ⟨by omega, by omega⟩
/-- a call that changes nothing on either side -/
theorem Pr.same {cm : Nat → Nat} {X : Option ((Int32 ⊕ Nat) × Hp)} {Y : Hp → Option (Int32 × Hp)} (C : CSt tg h m k i t n f) (v : Int32) (hX : X = some (.inl v, h)) (hY : ∀ h', Ou h h' → ∃ h2, Y h' = some (v, h2) ∧ Fr Rc h' h2 ∧ RSt h2 m k i t n f ∧ gI h2 73 0 = nI 0) : Pr cm Gq h X Y :=
  ⟨.inl v, h, tg, m, k, i, t, n, f, hX, C, Rp.rfl, Gq.rfl, fun h' o => by
    obtain ⟨h2, e1, e2, e3, e4⟩ := hY h' o
    exact ⟨v, h2, e1, e2, e3, e4, Eq.refl _⟩⟩
/-- a call that throws on both sides -/
theorem Pr.thr {cm : Nat → Nat} {X : Option ((Int32 ⊕ Nat) × Hp)} {Y : Hp → Option (Int32 × Hp)} (C : CSt tg h m k i t n f) (R : RSt h m k i t n f) (E c : Nat) (hc : cm E = c) (h1 : 1 ≤ c) (h4 : c ≤ 4) (hX : X = some (.inr E, bmp h 1 6)) (hY : ∀ h', RSt h' m k i t n f → ∃ b, Y h' = some (b, sI h' 73 0 (nI c))) : Pr cm Gq h X Y :=
  ⟨.inr E, bmp h 1 6, tg, m, k, i, t, n, f, hX, C.bmp, Rp.bmp, Gq.bmp, fun h' o => by
    have R1 : RSt h' m k i t n f := RSt.ou (h := bmp h 1 6) R o
    obtain ⟨b, e⟩ := hY h' R1
    exact ⟨b, _, e, th_fr, R1.th, by rw [th_get, hc], by omega, by omega⟩⟩
/-- a call that reads alone -/
theorem Pr.get {cm : Nat → Nat} {X : Option ((Int32 ⊕ Nat) × Hp)} {Y : Hp → Option (Int32 × Hp)} (C : CSt tg h m k i t n f) (R : RSt h m k i t n f) (v : Int32) (hX : X = some (.inl v, h)) (hY : ∀ h', RSt h' m k i t n f → Y h' = some (v, sI h' 73 0 (nI 0))) : Pr cm Gq h X Y :=
  Pr.same C v hX (fun h' o => ⟨_, hY h' (R.ou o), th_fr, (R.ou o).th, th_get⟩)
end
