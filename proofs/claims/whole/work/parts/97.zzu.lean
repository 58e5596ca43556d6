/-! ahead: whether something can run -/
abbrev cuP (m : Nat → Int32) (k : Nat) : Prop := m (320230 + 183 * k + 28) = nI 0 ∧ 0 < Nn m (320230 + 183 * k + 29)
section
variable {tg : Nat → List Nat} {h h1 : Hp} {m M kk t : Nat → Int32} {ii f w : Int32} {c n k q r x i T d e : Nat}
theorem c_canRun (S : RmS h r) (V : RmV h r m) (I : MI m) : MX7_canRun h r = some ((if hs (cuP m) (Nn m 3) = true then nI 1 else nI 0), h) := by
  obtain ⟨f3, f3'⟩ := I.1.f.2.2.2.1
  have g9 : gI h r 9 = nI (Nn m 3) := V.2.2.2.1.trans f3
  have st : ∀ j, j < Nn m 3 → BX7_canRun_2 h r (nI j) = if m (320230 + 183 * j + 28) = nI 0 then (if Nn m (320230 + 183 * j + 29) ≤ 0 then some (.inl (nI (j + 1), h)) else some (.inr (nI 1, h))) else some (.inl (nI (j + 1), h)) := fun j hj => by
    obtain ⟨c0, cV⟩ := V.2.2.2.2.2.2.2.2.1 j hj
    have cS := S.2.2.2.2.2.2.2.2.2.2.2.2.2.2.2.2.2.2.1 j c0
    have ow := c_ownMachine S (by omega : j < 4) c0
    obtain ⟨e29, h30⟩ := (I.2.2.2.1 j hj).2.2.2.1.eq (by omega)
    unfold BX7_canRun_2
    simp only [ZL, nAdd]
    rw [gg_t S.1, g9, if_neg (nI_ge hj (by omega)), ow, b2_some, gg_t cS.1, cV.2.2.1, cV.2.2.2.1, e29]
    by_cases z : m (320230 + 183 * j + 28) = nI 0
    · rw [if_pos z, if_pos z]
      by_cases y : Nn m (320230 + 183 * j + 29) ≤ 0
      · rw [if_pos (nI_le y (by omega)), if_pos y]
      · rw [if_neg (nI_ge (by omega) (by omega)), if_neg y]
    · rw [if_neg z, if_neg z]
  have key := it_ex (f := fun q : Int32 × Hp => BX7_canRun_2 q.2 r q.1) (cuP m) (fun j => (nI j, h)) (Nn m 3) (r0 := (nI 0, h)) (r1 := (nI 1, h)) (fun j hj hn => by
    show BX7_canRun_2 h r (nI j) = _
    rw [st j hj]
    by_cases z : m (320230 + 183 * j + 28) = nI 0
    · rw [if_pos z, if_pos (Nat.le_of_not_lt (fun y => hn ⟨z, y⟩))]
    · rw [if_neg z]) (fun j hj hp => by
    show BX7_canRun_2 h r (nI j) = _
    rw [st j hj, if_pos hp.1, if_neg (Nat.not_le_of_lt hp.2)]) (by
    show BX7_canRun_2 h r (nI (Nn m 3)) = _
    unfold BX7_canRun_2
    simp only [ZL]
    rw [gg_t S.1, g9, if_pos (nI_le (Nat.le_refl _) (by omega))])
  unfold MX7_canRun MX7_canRun_2
  refine key.trans ?_
  split <;> rfl
/-- an idle minute -/
theorem mi_idle (I : MI m) (A : hs (cuP m) (Nn m 3) = false) : miM m = hdM m ∧ hs (cuP (miM m)) (Nn (miM m) 3) = false ∧ Nn (miM m) 3 = Nn m 3 ∧ jbN (miM m) (Nn m 3) = jbN m (Nn m 3) := by
  obtain ⟨f3, f3'⟩ := I.1.f.2.2.2.1
  obtain ⟨f7, f7'⟩ := I.1.f.2.2.2.2.2.2.2
  obtain ⟨H0, -⟩ := hdM_hd (m := m) (by omega)
  have nh : ∀ k, k < Nn m 3 → ¬ cuP m k := fun k hk hp => by
    rw [(hs_iff (P := cuP m) _).mpr ⟨k, hk, hp⟩] at A
    exact absurd A (by decide)
  have K : ∀ k, k < Nn m 3 → ∀ y, y < 183 → hdM m (320230 + 183 * k + y) = m (320230 + 183 * k + y) := fun k hk y hy => H0 _ (by omega) (by omega) (by omega)
  have n3 : Nn (hdM m) 3 = Nn m 3 := Nn.c (H0 3 (by omega) (by omega) (by omega))
  have id : miM m = hdM m := lo_idle (n := Nn m 3) (fun k hk => by
    rw [K k hk 28 (by omega), Nn.c (K k hk 29 (by omega))]
    by_cases z : m (320230 + 183 * k + 28) = nI 0
    · exact Or.inr (Nat.eq_zero_of_not_pos (fun y => nh k hk ⟨z, y⟩))
    · exact Or.inl z) _ (Nat.le_refl _)
  refine ⟨id, ?_, by rw [id]; exact n3, ?_⟩
  · rw [id, n3]
    refine Bool.eq_false_iff.mpr (fun z => ?_)
    obtain ⟨k, hk, hp⟩ := (hs_iff _).mp z
    refine nh k hk ⟨?_, ?_⟩
    · rw [← K k hk 28 (by omega)]; exact hp.1
    · rw [← Nn.c (K k hk 29 (by omega))]; exact hp.2
  · rw [id]
    have : ∀ j, j ≤ Nn m 3 → jbN (hdM m) j = jbN m j := fun j => by
      induction j with
      | zero => exact fun _ => rfl
      | succ j ih =>
        intro hj
        unfold jbN
        rw [ih (by omega), Nn.c (K j (by omega) 29 (by omega))]
    exact this _ (Nat.le_refl _)
end
