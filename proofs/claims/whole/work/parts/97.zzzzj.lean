/-! story: the pair -/
section
variable {tg : Nat → List Nat} {h h' h0 g : Hp} {m k t : Nat → Int32} {i n f fl : Int32} {e p : Nat} {b : Nat → Nat} {s0 s : TX} {v w : Int32}
/-- the tape is taken -/
theorem r_use (R : RSt h' m k i t n f) : ∃ hu, MX12_use h' 73 = some hu ∧ Fr Rc h' hu ∧ RSt hu m k i t (nI 0) f ∧ gI hu 73 7 = n ∧ gI hu 73 8 = nI 0 ∧ ∀ y, y ≠ 73 → gI hu y = gI h' y := by
  obtain ⟨r0, r1, r2, r3, r4, r5, r6⟩ := R
  have f73 : ∀ (g : Hp) (j : Nat) (x : Int32), Fr Rc g (sI g 73 j x) := fun g j x => Fr.sI (S := Rc) ⟨by omega, by omega⟩
  refine ⟨sI (sI (sI h' 73 7 n) 73 6 (nI 0)) 73 8 (nI 0), ?_, ((f73 _ _ _).trans (f73 _ _ _)).trans (f73 _ _ _), ⟨r0.sI.sI.sI, ?_, ?_, ?_, ?_, ?_, ?_⟩, ?_, ?_, fun y hy => ?_⟩
  · unfold MX12_use
    simp only [ZL]
    rw [gg_t (RS.f r0).1, r5, lt_eq, lt_eq, lt_eq]
  · rw [gI_sI, if_neg (by decide), gI_sI, if_neg (by decide), gI_sI, if_neg (by decide)]; exact r1
  · rw [gI_sI, if_neg (by decide), gI_sI, if_neg (by decide), gI_sI, if_neg (by decide)]; exact r2
  · rw [gI_sI, if_pos rfl, up_at, if_neg (by decide), gI_sI, if_pos rfl, up_at, if_neg (by decide), gI_sI, if_pos rfl, up_at, if_neg (by decide)]; exact r3
  · rw [gI_sI, if_neg (by decide), gI_sI, if_neg (by decide), gI_sI, if_neg (by decide)]; exact r4
  · rw [gI_sI, if_pos rfl, up_at, if_neg (by decide), gI_sI, if_pos rfl, up_at, if_pos rfl]
  · rw [gI_sI, if_pos rfl, up_at, if_neg (by decide), gI_sI, if_pos rfl, up_at, if_neg (by decide), gI_sI, if_pos rfl, up_at, if_neg (by decide)]; exact r6
  · rw [gI_sI, if_pos rfl, up_at, if_neg (by decide), gI_sI, if_pos rfl, up_at, if_neg (by decide), gI_sI, if_pos rfl, up_at, if_pos rfl]
  · rw [gI_sI, if_pos rfl, up_at, if_pos rfl]
  · rw [gI_sI, if_neg hy, gI_sI, if_neg hy, gI_sI, if_neg hy]
/-- the state behind reading -/
theorem fq_st (R : RSt h0 m k i t n f) (F : FQ h0 g) (h9 : gI g 73 9 = fl) : RSt g m k i t n fl ∧ Fr Rc h0 g ∧ gI g 73 0 = gI h0 73 0 := by
  obtain ⟨r0, r1, r2, r3, r4, r5, r6⟩ := R
  have f := fun b hb => F.1.2.2.2.2.2.2 b hb
  refine ⟨⟨r0.fr F.1, by rw [f 74 (by omega)]; exact r1, by rw [f 75 (by omega)]; exact r2, by rw [F.2 4 (by omega) (by omega) (by omega)]; exact r3, by rw [f 77 (by omega)]; exact r4, by rw [F.2 6 (by omega) (by omega) (by omega)]; exact r5, h9⟩, F.1.mono (fun y hy => ?_), F.2 0 (by omega) (by omega) (by omega)⟩
  unfold Rc
  omega
/-- thrown in the middle -/
theorem Pr.mid {cm : Nat → Nat} {X : Option ((Int32 ⊕ Nat) × Hp)} {Y : Hp → Option (Int32 × Hp)} {h3 : Hp} {t3 : Nat → Int32} {n3 f3 : Int32} (C : CSt tg h m k i t n f) (R : RSt h m k i t n f) (F : Fr (fun b => b = 1 ∨ b = 2) h h3) (C3 : CSt tg h3 m k i t3 n3 f3) (E c : Nat) (hc : cm E = c) (h1 : 1 ≤ c) (h4 : c ≤ 4) (hX : X = some (.inr E, bmp h3 1 6)) (hY : ∀ h', RSt h' m k i t n f → (∀ y, 78 ≤ y → y ≤ 82 → gI h' y = gI h y) → ∃ v h2, Y h' = some (v, h2) ∧ Fr Rc h' h2 ∧ RSt h2 m k i t3 n3 f3 ∧ gI h2 73 0 = nI c) : Pr cm Gm h X Y := by
  subst hc
  have rp0 : Rp h h3 := F.rp (fun y hy => by omega)
  have rp : Rp h (bmp h3 1 6) := rp0
  have g0 : Gm h3 (bmp h3 1 6) := Gq.bmp.gm
  refine ⟨.inr E, bmp h3 1 6, tg, m, k, i, t3, n3, f3, hX, C3.bmp, rp, ⟨?_, ?_⟩, fun h' o => ?_⟩
  · rw [← mu_fr F]
    exact g0.1
  · rw [← F.2.2.2.1]
    exact g0.2
  · have e : ∀ y, 78 ≤ y → y ≤ 82 → gI h' y = gI h y := fun y y1 y2 => by
      have e3 : gI (bmp h3 1 6) y = gI h y := (rp y (by omega) (by omega)).2.2.1
      rcases o with rfl | ⟨x, rfl⟩
      · exact e3
      · rw [gI_sI, if_neg (by omega)]; exact e3
    obtain ⟨x, h2, a1, a2, a3, a4⟩ := hY h' ((R.rp rp).ou o) e
    exact ⟨x, h2, a1, a2, a3, a4, h1, h4⟩
end
