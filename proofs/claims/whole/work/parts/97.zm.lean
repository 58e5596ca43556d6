/-! all of a room is taken: own ones, frames -/
def OW (tg : Nat → List Nat) (h : Hp) (tg' : Nat → List Nat) (h' : Hp) (r x F j c : Nat) : Prop := Rx tg h tg' h' (fun y => y = x) ∧ cst h' + rmP h' r ≤ cst h + rmP h r ∧ Of tg h h' r x F j ∧ RmS h' r ∧ c = gP h' (gP h r F) j ∧ c ≠ 0
section
variable {tg tg' tg1 tg2 : Nat → List Nat} {h h' h1 h2 : Hp} {m : Nat → Int32} {r x F j c p KK a b : Nat} {fs : List En} {nm : Nat → Int32}
theorem ow_new2 (K : Rt tg h r x) (hr : r ≤ sz h) (S : RmS h r) (B : Bl tg h tg1 h1 p KK (j :: tg (gP h r F)) fs nm a b) (hA : gP h r F ≠ 0) (hn : gP h (gP h r F) j = 0) (hF : (F = 10 ∧ j < 300 ∧ KK = 7 ∧ fs = mkF ss8 ∧ nm = nm8 ∧ a = 3 ∧ b = 79) ∨ (F = 5 ∧ j < 100 ∧ KK = 4 ∧ fs = mkF ss5 ∧ nm = nm5 ∧ a = 6 ∧ b = 653) ∨ (F = 2 ∧ j < 10 ∧ KK = 8 ∧ fs = mkF ss9 ∧ nm = nm9 ∧ a = 8 ∧ b = 389) ∨ (F = 8 ∧ j < 4 ∧ KK = 3 ∧ fs = mkF ss4 ∧ nm = nm4 ∧ a = 6 ∧ b = 158)) : Fl tg h tg1 (sP h1 (gP h r F) j p) (gP h r F) j p ∧ Rx tg h tg1 (sP h1 (gP h r F) j p) (fun y => y = x) ∧ cst (sP h1 (gP h r F) j p) + rmP (sP h1 (gP h r F) j p) r = cst h + rmP h r ∧ RmS (sP h1 (gP h r F) j p) r := by
  have h9 := B.2.2.1
  obtain ⟨X, NB, e1, e2⟩ := B.fl (K.le) hA
  obtain ⟨h2, hh2⟩ : ∃ h2, h2 = sP h1 (gP h r F) j p := ⟨_, rfl⟩
  rw [← hh2] at X NB e1 e2 ⊢
  have tA := K.a hA
  have sh : (F = 5 → PtS h2 p) ∧ (F = 2 → StyS h2 p) ∧ (F = 8 → MaS h2 p) ∧ (F = 10 → SlS h2 p ∧ ln h2 (gP h2 p 0) = 32) := by
    rcases hF with ⟨z, -, z1, z2, z3, -⟩ | ⟨z, -, z1, z2, z3, -⟩ | ⟨z, -, z1, z2, z3, -⟩ | ⟨z, -, z1, z2, z3, -⟩
    · rw [z1, z2, z3] at NB
      exact ⟨fun y => by omega, fun y => by omega, fun y => by omega, fun _ => nob_sl NB⟩
    · rw [z1, z2, z3] at NB
      exact ⟨fun _ => nob_pt NB, fun y => by omega, fun y => by omega, fun y => by omega⟩
    · rw [z1, z2, z3] at NB
      exact ⟨fun y => by omega, fun _ => (nob_sy NB).1, fun y => by omega, fun y => by omega⟩
    · rw [z1, z2, z3] at NB
      exact ⟨fun y => by omega, fun y => by omega, fun _ => nob_ma NB, fun y => by omega⟩
  have pf := rmP_fl K hr X hA hn (by
    rcases hF with ⟨z, z0, -⟩ | ⟨z, z0, -⟩ | ⟨z, z0, -⟩ | ⟨z, z0, -⟩
    · exact Or.inl ⟨z, z0, (sh.2.2.2 z).2⟩
    · exact Or.inr (Or.inl ⟨z, z0⟩)
    · exact Or.inr (Or.inr (Or.inl ⟨z, z0⟩))
    · exact Or.inr (Or.inr (Or.inr ⟨z, z0⟩)))
  refine ⟨X, Rx.fl X (x := x) rfl (by rw [tA]; exact List.suffix_append [F] [x]) hA, ?_, S.fl K hr (by omega) X hA ⟨sh.1, sh.2.1, sh.2.2.1, fun z => (sh.2.2.2 z).1⟩⟩
  unfold cst
  rw [e1, e2]
  rcases hF with ⟨z, -, -, -, -, z1, z2⟩ | ⟨z, -, -, -, -, z1, z2⟩ | ⟨z, -, -, -, -, z1, z2⟩ | ⟨z, -, -, -, -, z1, z2⟩
  · rw [if_pos z] at pf
    omega
  · rw [if_neg (by omega), if_pos z] at pf
    omega
  · rw [if_neg (by omega), if_neg (by omega), if_pos z] at pf
    omega
  · rw [if_neg (by omega), if_neg (by omega), if_neg (by omega)] at pf
    omega
theorem OW.old (K : Rt tg h r x) (S : RmS h r) (hz : gP h (gP h r F) j ≠ 0) : OW tg h tg h r x F j (gP h (gP h r F) j) := ⟨Rx.rfl K.1, Nat.le_refl _, Of.rfl, S, rfl, hz⟩
theorem OW.new (K : Rt tg h r x) (hr : r ≤ sz h) (X : Fl tg h tg' h' (gP h r F) j p) (hA : gP h r F ≠ 0) (R1 : Rx tg h tg' h' (fun y => y = x)) (e : cst h' + rmP h' r = cst h + rmP h r) (S' : RmS h' r) : OW tg h tg' h' r x F j p := by
  obtain ⟨-, -, p0, -, x5, x6, x7⟩ := id X
  exact ⟨R1, Nat.le_of_eq e, ⟨fun b hb _ hn => x5 b hb hn, (X.cells K hr hA).1.2.2.2, x6, fun l hl => by rw [x7, if_neg hl]⟩, S', by rw [x7, if_pos rfl], by omega⟩
theorem own2 (K : Rt tg h r x) (hr : r ≤ sz h) (h9 : 109 ≤ sz h) (S : RmS h r) (hj : j < 10) : ∃ tg' h' c, MX7_ownStyle h r (nI j) = some (c, h') ∧ OW tg h tg' h' r x 2 j c := by
  obtain ⟨a1, a2, a3⟩ := S.2.2.1
  by_cases z : gP h (gP h r 2) j = 0
  · obtain ⟨g, k1, tg1, B⟩ := mki9 (Bl.start (K := 8) (n := 9) (T := j :: tg (gP h r 2)) K.1 h9)
    obtain ⟨X, R1, e, S'⟩ := ow_new2 (F := 2) K hr S B a1 z (Or.inr (Or.inr (Or.inl ⟨rfl, hj, rfl, rfl, rfl, rfl, rfl⟩)))
    refine ⟨tg1, _, _, ?_, OW.new K hr X a1 R1 e S'⟩
    have ka : kd g (gP h r 2) = 25 := (B.2.2.2.1 _ K.le).1.1.trans a2
    have la : ln g (gP h r 2) = 10 := (B.2.2.2.1 _ K.le).1.2.1.trans a3
    have gk : kd (sP g (gP h r 2) j (sz h + 1)) r = 6 := (B.2.2.2.1 _ hr).1.1.trans S.1
    have gr : gP (sP g (gP h r 2) j (sz h + 1)) r = gP h r := by
      obtain ⟨s0, -⟩ := X.cells K hr a1
      exact s0.2.2.2
    unfold MX7_ownStyle MX7_ownStyle_40
    rw [if_neg (nI_pos (by omega)), gg_t S.1, gg_t a2, a3, if_pos (nI_lt hj (by omega)), gg_in (by omega) (by omega), nCl (by omega), if_pos z, lt_eq, k1, ob_some, gg_t ka, gg_t (bl_kd B), la, gg_in (by omega) (by omega), lt_eq, gg_t gk, gr, gg_t (show kd (sP g (gP h r 2) j (sz h + 1)) (gP h r 2) = 25 from ka), show ln (sP g (gP h r 2) j (sz h + 1)) (gP h r 2) = 10 from la, gg_in (by omega) (by omega), sP_gP, if_pos ⟨rfl, rfl⟩]
  · refine ⟨tg, h, gP h (gP h r 2) j, ?_, OW.old K S z⟩
    unfold MX7_ownStyle MX7_ownStyle_40
    rw [if_neg (nI_pos (by omega)), gg_t S.1, gg_t a2, a3, if_pos (nI_lt hj (by omega)), gg_in (by omega) (by omega), nCl (by omega), if_neg z, gg_t S.1, gg_t a2, gg_in (by omega) (by omega)]
theorem own5 (K : Rt tg h r x) (hr : r ≤ sz h) (h9 : 109 ≤ sz h) (S : RmS h r) (hj : j < 100) : ∃ tg' h' c, MX7_ownPart h r (nI j) = some (c, h') ∧ OW tg h tg' h' r x 5 j c := by
  obtain ⟨a1, a2, a3⟩ := S.2.2.2.1
  by_cases z : gP h (gP h r 5) j = 0
  · obtain ⟨g, k1, tg1, B⟩ := mki5 (Bl.start (K := 4) (n := 12) (T := j :: tg (gP h r 5)) K.1 h9)
    obtain ⟨X, R1, e, S'⟩ := ow_new2 (F := 5) K hr S B a1 z (Or.inr (Or.inl ⟨rfl, hj, rfl, rfl, rfl, rfl, rfl⟩))
    refine ⟨tg1, _, _, ?_, OW.new K hr X a1 R1 e S'⟩
    have ka : kd g (gP h r 5) = 26 := (B.2.2.2.1 _ K.le).1.1.trans a2
    have la : ln g (gP h r 5) = 100 := (B.2.2.2.1 _ K.le).1.2.1.trans a3
    have gk : kd (sP g (gP h r 5) j (sz h + 1)) r = 6 := (B.2.2.2.1 _ hr).1.1.trans S.1
    have gr : gP (sP g (gP h r 5) j (sz h + 1)) r = gP h r := by
      obtain ⟨s0, -⟩ := X.cells K hr a1
      exact s0.2.2.2
    unfold MX7_ownPart MX7_ownPart_43
    rw [if_neg (nI_pos (by omega)), gg_t S.1, gg_t a2, a3, if_pos (nI_lt hj (by omega)), gg_in (by omega) (by omega), nCl (by omega), if_pos z, lt_eq, k1, ob_some, gg_t ka, gg_t (bl_kd B), la, gg_in (by omega) (by omega), lt_eq, gg_t gk, gr, gg_t (show kd (sP g (gP h r 5) j (sz h + 1)) (gP h r 5) = 26 from ka), show ln (sP g (gP h r 5) j (sz h + 1)) (gP h r 5) = 100 from la, gg_in (by omega) (by omega), sP_gP, if_pos ⟨rfl, rfl⟩]
  · refine ⟨tg, h, gP h (gP h r 5) j, ?_, OW.old K S z⟩
    unfold MX7_ownPart MX7_ownPart_43
    rw [if_neg (nI_pos (by omega)), gg_t S.1, gg_t a2, a3, if_pos (nI_lt hj (by omega)), gg_in (by omega) (by omega), nCl (by omega), if_neg z, gg_t S.1, gg_t a2, gg_in (by omega) (by omega)]
theorem own8 (K : Rt tg h r x) (hr : r ≤ sz h) (h9 : 109 ≤ sz h) (S : RmS h r) (hj : j < 4) : ∃ tg' h' c, MX7_ownMachine h r (nI j) = some (c, h') ∧ OW tg h tg' h' r x 8 j c := by
  obtain ⟨a1, a2, a3⟩ := S.2.2.2.2.2.1
  by_cases z : gP h (gP h r 8) j = 0
  · obtain ⟨g, k1, tg1, B⟩ := mki4 (Bl.start (K := 3) (n := 11) (T := j :: tg (gP h r 8)) K.1 h9)
    obtain ⟨X, R1, e, S'⟩ := ow_new2 (F := 8) K hr S B a1 z (Or.inr (Or.inr (Or.inr ⟨rfl, hj, rfl, rfl, rfl, rfl, rfl⟩)))
    refine ⟨tg1, _, _, ?_, OW.new K hr X a1 R1 e S'⟩
    have ka : kd g (gP h r 8) = 27 := (B.2.2.2.1 _ K.le).1.1.trans a2
    have la : ln g (gP h r 8) = 4 := (B.2.2.2.1 _ K.le).1.2.1.trans a3
    have gk : kd (sP g (gP h r 8) j (sz h + 1)) r = 6 := (B.2.2.2.1 _ hr).1.1.trans S.1
    have gr : gP (sP g (gP h r 8) j (sz h + 1)) r = gP h r := by
      obtain ⟨s0, -⟩ := X.cells K hr a1
      exact s0.2.2.2
    unfold MX7_ownMachine MX7_ownMachine_43
    rw [if_neg (nI_pos (by omega)), gg_t S.1, gg_t a2, a3, if_pos (nI_lt hj (by omega)), gg_in (by omega) (by omega), nCl (by omega), if_pos z, lt_eq, k1, ob_some, gg_t ka, gg_t (bl_kd B), la, gg_in (by omega) (by omega), lt_eq, gg_t gk, gr, gg_t (show kd (sP g (gP h r 8) j (sz h + 1)) (gP h r 8) = 27 from ka), show ln (sP g (gP h r 8) j (sz h + 1)) (gP h r 8) = 4 from la, gg_in (by omega) (by omega), sP_gP, if_pos ⟨rfl, rfl⟩]
  · refine ⟨tg, h, gP h (gP h r 8) j, ?_, OW.old K S z⟩
    unfold MX7_ownMachine MX7_ownMachine_43
    rw [if_neg (nI_pos (by omega)), gg_t S.1, gg_t a2, a3, if_pos (nI_lt hj (by omega)), gg_in (by omega) (by omega), nCl (by omega), if_neg z, gg_t S.1, gg_t a2, gg_in (by omega) (by omega)]
theorem own10 (K : Rt tg h r x) (hr : r ≤ sz h) (h9 : 109 ≤ sz h) (S : RmS h r) (hj : j < 300) : ∃ tg' h' c, MX7_ownSlug h r (nI j) = some (c, h') ∧ OW tg h tg' h' r x 10 j c := by
  obtain ⟨a1, a2, a3⟩ := S.2.2.2.2.2.2.1
  by_cases z : gP h (gP h r 10) j = 0
  · obtain ⟨g, k1, tg1, B⟩ := mki8 (Bl.start (K := 7) (n := 15) (T := j :: tg (gP h r 10)) K.1 h9)
    obtain ⟨X, R1, e, S'⟩ := ow_new2 (F := 10) K hr S B a1 z (Or.inl ⟨rfl, hj, rfl, rfl, rfl, rfl, rfl⟩)
    refine ⟨tg1, _, _, ?_, OW.new K hr X a1 R1 e S'⟩
    have ka : kd g (gP h r 10) = 28 := (B.2.2.2.1 _ K.le).1.1.trans a2
    have la : ln g (gP h r 10) = 300 := (B.2.2.2.1 _ K.le).1.2.1.trans a3
    have gk : kd (sP g (gP h r 10) j (sz h + 1)) r = 6 := (B.2.2.2.1 _ hr).1.1.trans S.1
    have gr : gP (sP g (gP h r 10) j (sz h + 1)) r = gP h r := by
      obtain ⟨s0, -⟩ := X.cells K hr a1
      exact s0.2.2.2
    unfold MX7_ownSlug MX7_ownSlug_43
    rw [if_neg (nI_pos (by omega)), gg_t S.1, gg_t a2, a3, if_pos (nI_lt hj (by omega)), gg_in (by omega) (by omega), nCl (by omega), if_pos z, lt_eq, k1, ob_some, gg_t ka, gg_t (bl_kd B), la, gg_in (by omega) (by omega), lt_eq, gg_t gk, gr, gg_t (show kd (sP g (gP h r 10) j (sz h + 1)) (gP h r 10) = 28 from ka), show ln (sP g (gP h r 10) j (sz h + 1)) (gP h r 10) = 300 from la, gg_in (by omega) (by omega), sP_gP, if_pos ⟨rfl, rfl⟩]
  · refine ⟨tg, h, gP h (gP h r 10) j, ?_, OW.old K S z⟩
    unfold MX7_ownSlug MX7_ownSlug_43
    rw [if_neg (nI_pos (by omega)), gg_t S.1, gg_t a2, a3, if_pos (nI_lt hj (by omega)), gg_in (by omega) (by omega), nCl (by omega), if_neg z, gg_t S.1, gg_t a2, gg_in (by omega) (by omega)]
end
