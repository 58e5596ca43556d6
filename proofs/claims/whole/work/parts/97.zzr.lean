/-! minutes -/
noncomputable def miM (m : Nat → Int32) : Nat → Int32 := loM (min 7 (Nn m 7)) (Nn m 0) (hdM m) (Nn m 3)
noncomputable def miI (m : Nat → Int32) : Nat → (Nat → Int32)
  | 0 => m
  | j + 1 => miM (miI m j)
section
variable {tg : Nat → List Nat} {h h1 : Hp} {m k t kk : Nat → Int32} {i n f ii u : Int32} {r x : Nat}
theorem c_minute (K : Rt tg h r x) (hr : r ≤ sz h) (h9 : 109 ≤ sz h) (S : RmS h r) (V : RmV h r m) (I : MI m) (n600 : Nn m 0 < 600) : (∃ tg' g, MX7_passMinute h r = some g ∧ Rx tg h tg' g (fun y => y = x) ∧ cst g + rmP g r ≤ cst h + rmP h r ∧ RmS g r ∧ RmV g r (miM m)) ∧ MI (miM m) ∧ miM m 0 = nI (Nn m 0 + 1) ∧ (∀ y, y < 130 ∨ (326582 ≤ y ∧ y < 337180) ∨ 337220 ≤ y → y ≠ 4 → y ≠ 0 → y ≠ 7 → miM m y = m y) ∧ ∀ h', RSt h' m kk ii t u f → ∃ h2, MX12_minute h' 73 = some h2 ∧ Fr Rm h' h2 ∧ RSt h2 (miM m) kk ii t u f ∧ gI h2 73 0 = gI h' 73 0 := by
  obtain ⟨f7, f7'⟩ := I.1.f.2.2.2.2.2.2.2
  have H := hdM_hd (m := m) (by omega)
  have hde : (min 7 (Nn m 7) = Nn m 7 ∧ (if Nn m 7 = 8 then 1 else 0) = 0 ∧ Nn m 7 < 8) ∨ (min 7 (Nn m 7) = 7 ∧ (if Nn m 7 = 8 then 1 else 0) = 1 ∧ Nn m 7 = 8) := by
    by_cases z : Nn m 7 = 8
    · rw [if_pos z]; exact Or.inr ⟨by omega, rfl, z⟩
    · rw [if_neg z]; exact Or.inl ⟨by omega, rfl, by omega⟩
  obtain ⟨g, a1, a2, a3, a4, a5⟩ := c_head K S V I n600 hde H
  obtain ⟨H0, h0, h7, -⟩ := H
  have Kg := K.fr a2
  have zs : sz g = sz h := a2.2.2.2.1
  have n3 : Nn (hdM m) 3 = Nn m 3 := Nn.c (H0 3 (by omega) (by omega) (by omega))
  have e7 : Nn (hdM m) 7 = min 7 (Nn m 7) + 1 := by unfold Nn at h7 ⊢; rw [h7, nCl (by omega)]
  obtain ⟨b1, tg', g2, b2, b3, b4, b5, b6, b7, b8⟩ := c_loS (T := Nn m 0) (i := min 7 (Nn m 7)) Kg (by omega) (by omega) a3 a4 a5 h0 (by omega) e7 (by omega)
  have em : loM (min 7 (Nn m 7)) (Nn m 0) (hdM m) (Nn (hdM m) 3) = miM m := by rw [n3]; rfl
  rw [em] at b6 b7 b8
  have R1 : Rx tg h tg g (fun y => y = x) := Rx.fr (W := fun y => y = x) K.1 a2 (fun b hb => ⟨hb.1, x, rfl, by
    rcases hb.2 with w | w | w
    · rw [w]; exact List.suffix_refl _
    · rw [w]; exact List.suffix_append [12] [x]
    · rw [w]; exact List.suffix_append [13] [x]⟩)
  have mp := rmP_fr (r := r) a2
  refine ⟨⟨tg', g2, by rw [a1, b2], R1.trans b3, by omega, b5, b6⟩, b7, ?_, fun y h1 h2 h3 h4 => ?_, fun h' R' => ?_⟩
  · rw [b8 0 (by omega) (by omega), h0]
  · rw [b8 y h1 h2]
    exact H0 y h3 h4 (by omega)
  · obtain ⟨z, c1, c2, c3⟩ := r_head R' I
    obtain ⟨z2, d1, d2, d3, d4⟩ := r_loop (i := min 7 (Nn m 7)) (T := Nn m 0) c3 (fun j hj => by
      obtain ⟨tg1, g1, L⟩ := b1 j hj
      exact ⟨L.2.2.2.2.1, L.2.2.2.1.stm, L.2.2.2.2.2⟩) h0 (by omega) e7 (by omega)
    rw [em] at d3
    exact ⟨z2, by rw [c1, d1], (f74_rc c2).trans d2, d3, by rw [d4, f74_73 c2]⟩
end
