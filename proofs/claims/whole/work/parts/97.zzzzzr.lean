/-! correct: a part that is set, the class up to its end -/
section
variable {tg : Nat → List Nat} {h h1 h2 g g1 : Hp} {m M M1 M2 M3 : Nat → Int32} {p q f op n b cc ol nl sm : Nat} {w : Int32} {c : Nat → Nat} {D : Nat → Prop}
theorem pt_cl (C : Cy h g p 13 [9] [4, 3]) (hp : PtS h p) : PtS g p := by
  obtain ⟨a0, a1, a2, a3, a4, a5, a6, a7, a8, a9⟩ := id hp
  exact hp.of C.1.1 C.1.2.1 C.1.2.2.1 (by rw [C.2.2.2.1 1 (by simp) a2.1]; exact a6) (by rw [C.2.2.1 10 (by simp)]; exact a7) (by rw [C.2.2.1 11 (by simp)]; exact a8) (fun b => by rw [C.2.2.2.1 2 (by simp) a3.1]; exact a9 b)
theorem pt_cc (C : Cy h g p 13 [6, 5] [2, 1, 0]) (hp : PtS h p) (hq : PtS h 13) : PtS g p := by
  obtain ⟨a0, a1, a2, a3, a4, a5, a6, a7, a8, a9⟩ := id hp
  obtain ⟨b0, b1, b2, b3, b4, b5, b6, b7, b8, b9⟩ := id hq
  unfold PtS ar
  rw [C.1.2.2.1, C.1.1, C.1.2.1, C.2.2.2.2 1 (by simp) 0, if_pos (by rw [a2.2.2]; omega), C.2.2.1 10 (by simp), C.2.2.1 11 (by simp)]
  exact ⟨a0, a1, a2, a3, a4, a5, b6, a7, a8, fun l => cyz (C.2.2.2.2 2 (by simp) l) (b9 l) (a9 l)⟩
/-- the part says what the spare part said -/
theorem tk_all (S13 : PtS h 13) (Sp : PtS h p) (A : AP h p 13) (C1 : Cy h g p 13 [6, 5] [2, 1, 0]) (C2 : Cy g g1 p 13 [9] [4, 3]) (X : PtX h 13 M2 q) (J : MIx M2 q) (v7 : gI h p 7 = M3 (70 + q / 5)) (v8 : gI h p 8 = M3 (90 + q / 5)) (v10 : gI h p 10 = M3 (130 + 645 * q + 2)) (v11 : gI h p 11 = M3 (130 + 645 * q + 3)) (e0 : M3 (130 + 645 * q) = M2 (130 + 645 * q)) (e1 : M3 (130 + 645 * q + 1) = M2 (130 + 645 * q + 1)) (ep : ∀ y, 130 + 645 * q + 85 ≤ y → y < 130 + 645 * q + 645 → M3 y = M2 y) (u3 : M3 (130 + 645 * q + 3) = nI 1) (e4 : M3 (130 + 645 * q + 4) = nI nl) (n40 : nl ≤ 40) (c9 : gI h 13 9 = nI nl) (c3 : ∀ j, j < nl → gI h (gP h 13 3) j = M3 (130 + 645 * q + 5 + j)) (c4 : ∀ j, j < nl → gI h (gP h 13 4) j = M3 (130 + 645 * q + 45 + j) - nI 1) : PtS g1 p ∧ PtV g1 p M3 q ∧ gI g1 p 9 = nI nl ∧ (∀ y, y = 13 ∨ (∃ j, y = gP h 13 j) → gI g1 y = gI h y) := by
  have Spg := pt_cc C1 Sp S13
  have eP1 : gP g = gP h := C1.1.2.2.1
  have eP2 : gP g1 = gP g := C2.1.2.2.1
  have n13 : ∀ y, y = 13 ∨ (∃ j, y = gP h 13 j) → ¬ (y = p ∨ ∃ k, gP h p k ≠ 0 ∧ y = gP h p k) := fun y hy z => by
    obtain ⟨a1, a2, a3, a4⟩ := A
    rcases z with z | ⟨k, hk, z⟩
    · rcases hy with hy | ⟨j, hy⟩
      · exact a2 (by rw [← z, hy])
      · exact a3 j (by rw [← z, hy])
    · obtain ⟨-, d2, d3, -⟩ := a4 k hk
      rcases hy with hy | ⟨j, hy⟩
      · exact d2 (by rw [← z, hy])
      · exact d3 j (by rw [← z, hy])
  have k1 : ∀ y, y = 13 ∨ (∃ j, y = gP h 13 j) → gI g y = gI h y := fun y hy => C1.1.2.2.2.2.2.2 y (n13 y hy)
  have k2 : ∀ y, y = 13 ∨ (∃ j, y = gP h 13 j) → gI g1 y = gI h y := fun y hy => by
    rw [C2.1.2.2.2.2.2.2 y (by rw [eP1]; exact n13 y hy)]
    exact k1 y hy
  obtain ⟨a0, a1, a2, a3, a4, a5, a6, a7, a8, a9⟩ := id Sp
  have bg := PtX.bg S13 X J
  have ll := ls_leX J
  obtain ⟨-, nn40, -⟩ := J.n
  obtain ⟨w5, w6, w7, w8, -, -, wb, -, -⟩ := X
  have c2 : ∀ j, j ≠ 9 → gI g1 p j = gI g p j := fun j hj => C2.2.2.1 j (by simp; exact hj)
  have c1 : ∀ j, j ≠ 5 → j ≠ 6 → gI g p j = gI h p j := fun j h5 h6 => C1.2.2.1 j (by simp; exact ⟨h6, h5⟩)
  have ar2 : ∀ k, k ≤ 2 → gP h p k ≠ 0 → gI g1 (gP h p k) = gI g (gP h p k) := fun k hk hz => by
    have := C2.2.2.2.1 k (by simp; omega) (by rw [eP1]; exact hz)
    rw [eP1] at this
    exact this
  have p9 : gI g1 p 9 = nI nl := by
    rw [C2.2.1 9 (by simp), k1 13 (Or.inl rfl)]
    exact c9
  have x0 : ∀ l, l < 480 → gI g1 (gP h p 0) l = gI h (gP h 13 0) l := fun l hl => by
    have := cy_at C1 (k := 0) (by simp) a1.2.2 hl
    rw [eP1] at this
    rw [ar2 0 (by omega) a1.1, this]
  have x1 : ∀ l, l < 41 → gI g1 (gP h p 1) l = gI h (gP h 13 1) l := fun l hl => by
    have := cy_at C1 (k := 1) (by simp) a2.2.2 hl
    rw [eP1] at this
    rw [ar2 1 (by omega) a2.1, this]
  have x2 : ∀ l, l < 40 → gI g1 (gP h p 2) l = gI h (gP h 13 2) l := fun l hl => by
    have := cy_at C1 (k := 2) (by simp) a3.2.2 hl
    rw [eP1] at this
    rw [ar2 2 (by omega) a3.1, this]
  have x3 : ∀ l, l < 40 → gI g1 (gP h p 3) l = gI h (gP h 13 3) l := fun l hl => by
    have := cy_at C2 (k := 3) (by simp) (by rw [C1.1.2.1, eP1]; exact a4.2.2) hl
    rw [eP2, eP1] at this
    rw [this, k1 _ (Or.inr ⟨3, rfl⟩)]
  have x4 : ∀ l, l < 40 → gI g1 (gP h p 4) l = gI h (gP h 13 4) l := fun l hl => by
    have := cy_at C2 (k := 4) (by simp) (by rw [C1.1.2.1, eP1]; exact a5.2.2) hl
    rw [eP2, eP1] at this
    rw [this, k1 _ (Or.inr ⟨4, rfl⟩)]
  refine ⟨pt_cl C2 Spg, ?_, p9, k2⟩
  unfold PtV
  rw [p9, c2 5 (by omega), c2 6 (by omega), c2 7 (by omega), c2 8 (by omega), c2 10 (by omega), c2 11 (by omega), C1.2.1 5 (by simp), C1.2.1 6 (by simp), c1 7 (by omega) (by omega), c1 8 (by omega) (by omega), c1 10 (by omega) (by omega), c1 11 (by omega) (by omega), eP2, eP1, e0, e1, Nn.c e1]
  have n4 : Nn M3 (130 + 645 * q + 4) = nl := by unfold Nn; rw [e4, nCl (by omega)]
  refine ⟨w5, w6, v7, v8, v10, v11, fun b hb => ?_, by rw [if_pos u3, e4], fun _ l hl => ?_⟩
  · have hb' : b < nP M2 q := hb
    obtain ⟨y1, y2, y3⟩ := wb b hb
    have i12 := (J.bt hb').2.2.2.1
    rw [x1 b (by omega), x1 (b + 1) (by omega), x2 b (by omega), ep (130 + 645 * q + 85 + b) (by omega) (by omega), ep (130 + 645 * q + 85 + (b + 1)) (by omega) (by omega), ep (130 + 645 * q + 125 + b) (by omega) (by omega), Nn.c (ep (130 + 645 * q + 125 + b) (by omega) (by omega))]
    refine ⟨y1, y2, fun i hi => ?_⟩
    have e := bg b (by omega)
    have e2 := ll b (by omega)
    rw [x0 _ (by rw [e, nCl (by omega)]; omega), ep _ (by omega) (by omega)]
    exact y3 i hi
  · rw [n4] at hl
    rw [x3 l (by omega), x4 l (by omega)]
    exact ⟨c3 l hl, c4 l hl⟩
end
