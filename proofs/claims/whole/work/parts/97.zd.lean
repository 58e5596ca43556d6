/-! a machine is added -/
section
variable {tg tg' tg1 : Nat → List Nat} {h h' h1 : Hp} {m M k t : Nat → Int32} {i n f : Int32} {p KK F j r x a b N nn bk c : Nat} {fs : List En} {nm : Nat → Int32}
/-- a new object of the room: what stays -/
theorem ow_new (K : Rt tg h r x) (hr : r ≤ sz h) (S : RmS h r) (V : RmV h r m) (B : Bl tg h tg1 h1 p KK (j :: tg (gP h r F)) fs nm a b) (hA : gP h r F ≠ 0) (hn : gP h (gP h r F) j = 0) (hF : (F = 10 ∧ j < 300 ∧ KK = 7 ∧ fs = mkF ss8 ∧ nm = nm8 ∧ a = 3 ∧ b = 79) ∨ (F = 5 ∧ j < 100 ∧ KK = 4 ∧ fs = mkF ss5 ∧ nm = nm5 ∧ a = 6 ∧ b = 653) ∨ (F = 2 ∧ j < 10 ∧ KK = 8 ∧ fs = mkF ss9 ∧ nm = nm9 ∧ a = 8 ∧ b = 389) ∨ (F = 8 ∧ j < 4 ∧ KK = 3 ∧ fs = mkF ss4 ∧ nm = nm4 ∧ a = 6 ∧ b = 158)) : Fl tg h tg1 (sP h1 (gP h r F) j p) (gP h r F) j p ∧ Rx tg h tg1 (sP h1 (gP h r F) j p) (fun y => y = x) ∧ cst (sP h1 (gP h r F) j p) + rmP (sP h1 (gP h r F) j p) r = cst h + rmP h r ∧ RmS (sP h1 (gP h r F) j p) r ∧ RmV (sP h1 (gP h r F) j p) r m := by
  have h9 := B.2.2.1
  obtain ⟨X, NB, e1, e2⟩ := B.fl (K.le) hA
  obtain ⟨h2, hh2⟩ : ∃ h2, h2 = sP h1 (gP h r F) j p := ⟨_, rfl⟩
  rw [← hh2] at X NB e1 e2 ⊢
  have tA := K.a hA
  have sh : (F = 5 → PtS h2 p) ∧ (F = 2 → StyS h2 p) ∧ (F = 8 → MaS h2 p) ∧ (F = 10 → SlS h2 p ∧ ln h2 (gP h2 p 0) = 32) := by
    rcases hF with ⟨z, -, z1, z2, z3, -⟩ | ⟨z, -, z1, z2, z3, -⟩ | ⟨z, -, z1, z2, z3, -⟩ | ⟨z, -, z1, z2, z3, -⟩
    · rw [z1, z2, z3] at NB
      exact ⟨fun y => by omega, fun y => by omega, fun y => by omega, fun _ => nob_sl NB⟩
    · rw [z1, z2, z3] at NB
      exact ⟨fun _ => nob_pt NB, fun y => by omega, fun y => by omega, fun y => by omega⟩
    · rw [z1, z2, z3] at NB
      exact ⟨fun y => by omega, fun _ => (nob_sy NB).1, fun y => by omega, fun y => by omega⟩
    · rw [z1, z2, z3] at NB
      exact ⟨fun y => by omega, fun y => by omega, fun _ => nob_ma NB, fun y => by omega⟩
  have pf := rmP_fl K hr X hA hn (by
    rcases hF with ⟨z, z0, -⟩ | ⟨z, z0, -⟩ | ⟨z, z0, -⟩ | ⟨z, z0, -⟩
    · exact Or.inl ⟨z, z0, (sh.2.2.2 z).2⟩
    · exact Or.inr (Or.inl ⟨z, z0⟩)
    · exact Or.inr (Or.inr (Or.inl ⟨z, z0⟩))
    · exact Or.inr (Or.inr (Or.inr ⟨z, z0⟩)))
  refine ⟨X, Rx.fl X (x := x) rfl (by rw [tA]; exact List.suffix_append [F] [x]) hA, ?_, S.fl K hr (by omega) X hA ⟨sh.1, sh.2.1, sh.2.2.1, fun z => (sh.2.2.2 z).1⟩, V.fl K hr (by omega) X hA hn⟩
  unfold cst
  rw [e1, e2]
  rcases hF with ⟨z, -, -, -, -, z1, z2⟩ | ⟨z, -, -, -, -, z1, z2⟩ | ⟨z, -, -, -, -, z1, z2⟩ | ⟨z, -, -, -, -, z1, z2⟩
  · rw [if_pos z] at pf
    omega
  · rw [if_neg (by omega), if_pos z] at pf
    omega
  · rw [if_neg (by omega), if_neg (by omega), if_pos z] at pf
    omega
  · rw [if_neg (by omega), if_neg (by omega), if_neg (by omega)] at pf
    omega
/-- what an own one leaves -/
def Ow (tg : Nat → List Nat) (h : Hp) (tg' : Nat → List Nat) (h' : Hp) (r x F j c : Nat) : Prop := Rx tg h tg' h' (fun y => y = x) ∧ cst h' + rmP h' r = cst h + rmP h r ∧ (∀ y, y ≤ sz h → y ≠ gP h r F → sm h h' y) ∧ gP h' r = gP h r ∧ c = gP h' (gP h r F) j ∧ c ≠ 0 ∧ ∀ l, l ≠ j → gP h' (gP h r F) l = gP h (gP h r F) l
theorem Ow.old (O : Own tg h) (hz : gP h (gP h r F) j ≠ 0) : Ow tg h tg h r x F j (gP h (gP h r F) j) := ⟨Rx.rfl O, rfl, fun _ _ _ => ⟨Eq.refl _, Eq.refl _, Eq.refl _, Eq.refl _⟩, rfl, rfl, hz, fun _ _ => rfl⟩
theorem Ow.new (K : Rt tg h r x) (hr : r ≤ sz h) (X : Fl tg h tg' h' (gP h r F) j p) (hA : gP h r F ≠ 0) (R1 : Rx tg h tg' h' (fun y => y = x)) (e : cst h' + rmP h' r = cst h + rmP h r) : Ow tg h tg' h' r x F j p := by
  obtain ⟨-, -, p0, -, x5, -, x7⟩ := id X
  exact ⟨R1, e, x5, (X.cells K hr hA).1.2.2.2, by rw [x7, if_pos rfl], by omega, fun l hl => by rw [x7, if_neg hl]⟩
theorem c_ownMa (K : Rt tg h r x) (hr : r ≤ sz h) (h9 : 109 ≤ sz h) (S : RmS h r) (V : RmV h r m) (hj : j < 4) : ∃ tg' h' c, MX7_ownMachine h r (nI j) = some (c, h') ∧ Ow tg h tg' h' r x 8 j c ∧ RmS h' r ∧ RmV h' r m := by
  obtain ⟨a1, a2, a3⟩ := S.2.2.2.2.2.1
  by_cases z : gP h (gP h r 8) j = 0
  · obtain ⟨g, k1, tg1, B⟩ := mki4 (Bl.start (K := 3) (n := 11) (T := j :: tg (gP h r 8)) K.1 h9)
    obtain ⟨X, R1, e, S', V'⟩ := ow_new (F := 8) K hr S V B a1 z (Or.inr (Or.inr (Or.inr ⟨rfl, hj, rfl, rfl, rfl, rfl, rfl⟩)))
    refine ⟨tg1, _, _, ?_, Ow.new K hr X a1 R1 e, S', V'⟩
    have ka : kd g (gP h r 8) = 27 := (B.2.2.2.1 _ K.le).1.1.trans a2
    have la : ln g (gP h r 8) = 4 := (B.2.2.2.1 _ K.le).1.2.1.trans a3
    have gk : kd (sP g (gP h r 8) j (sz h + 1)) r = 6 := (B.2.2.2.1 _ hr).1.1.trans S.1
    have gr : gP (sP g (gP h r 8) j (sz h + 1)) r = gP h r := by
      obtain ⟨s0, -⟩ := X.cells K hr a1
      exact s0.2.2.2
    unfold MX7_ownMachine MX7_ownMachine_43
    rw [if_neg (nI_pos (by omega)), gg_t S.1, gg_t a2, a3, if_pos (nI_lt hj (by omega)), gg_in (by omega) (by omega), nCl (by omega), if_pos z, lt_eq, k1, ob_some, gg_t ka, gg_t (bl_kd B), la, gg_in (by omega) (by omega), lt_eq, gg_t gk, gr, gg_t (show kd (sP g (gP h r 8) j (sz h + 1)) (gP h r 8) = 27 from ka), show ln (sP g (gP h r 8) j (sz h + 1)) (gP h r 8) = 4 from la, gg_in (by omega) (by omega), sP_gP, if_pos ⟨rfl, rfl⟩]
  · exact ⟨tg, h, _, c_ownMachine S hj z, Ow.old K.1 z, S, V⟩
theorem c_emptyMa (cS : MaS h c) (nq : c ≠ gP h c 0) (v1 v2 : Int32) : ∃ h1, MX4_empty h c v1 v2 = some h1 ∧ Fr (fun b => b = c ∨ b = gP h c 0) h h1 ∧ (∀ j, j < 27 → gI h1 (gP h c 0) j = v1) ∧ gI h1 c 1 = v2 ∧ (∀ j, 2 ≤ j → j ≤ 6 → gI h1 c j = nI 0) := by
  obtain ⟨A, hA⟩ : ∃ A, A = gP h c 0 := ⟨_, rfl⟩
  obtain ⟨s1, ⟨s2, s2a, s2b⟩, -⟩ := cS
  rw [← hA] at nq s2 s2a s2b ⊢
  unfold MX4_empty MX4_empty_2
  have K0 : ∃ z, it (fun q : Int32 × Hp => BX4_empty_2 q.2 c v1 v2 q.1) (nI 0, h) = some z ∧ (Fr (fun b => b = c ∨ b = A) h z ∧ (∀ j, j < 27 → gI z A j = v1) ∧ gI z c 1 = v2 ∧ (∀ j, 2 ≤ j → j ≤ 6 → gI z c j = nI 0)) := by
    refine it_cnt (fun j s => s.1 = nI j ∧ Fr (fun b => b = A) h s.2 ∧ ∀ l, l < j → gI s.2 A l = v1) 27 (fun j s hj pp => ?_) (fun s pp => ?_) ⟨rfl, Fr.rfl, fun l hl => absurd hl (by omega)⟩
    · obtain ⟨u, g⟩ := s
      obtain ⟨p1, p2, p3⟩ := pp
      replace p1 : u = nI j := p1
      replace p2 : Fr (fun b => b = A) h g := p2
      replace p3 : ∀ l, l < j → gI g A l = v1 := p3
      subst p1
      refine ⟨(nI (j + 1), sI g A j v1), ?_, rfl, frs p2, fun l hl => ?_⟩
      · show BX4_empty_2 g c v1 v2 (nI j) = _
        have nl : ¬ nI 27 ≤ nI j := nI_ge hj (by omega)
        have kc : kd g c = 3 := by rw [p2.1]; exact s1
        have kA : kd g A = 20 := by rw [p2.1]; exact s2a
        have lA : ln g A = 27 := by rw [p2.2.1]; exact s2b
        have eA : gP g c 0 = A := by rw [p2.2.2.1]; exact hA.symm
        unfold BX4_empty_2
        simp only [ZL]
        rw [if_neg nl, gg_t kc, eA, gg_t kA, lA, gg_in (by omega) (by omega), lt_eq, nCl (by omega), nAdd]
      · show gI (sI g A j v1) A l = v1
        rw [gI2]
        by_cases z : l = j
        · rw [if_pos ⟨rfl, z⟩]
        · rw [if_neg (fun q => z q.2)]
          exact p3 l (by omega)
    · obtain ⟨u, g⟩ := s
      obtain ⟨p1, p2, p3⟩ := pp
      replace p1 : u = nI 27 := p1
      replace p2 : Fr (fun b => b = A) h g := p2
      replace p3 : ∀ l, l < 27 → gI g A l = v1 := p3
      subst p1
      have kc : kd g c = 3 := by rw [p2.1]; exact s1
      have e21 : MX4_empty_21 g c v2 = some (sI (sI (sI (sI (sI (sI g c 1 v2) c 2 (nI 0)) c 3 (nI 0)) c 4 (nI 0)) c 5 (nI 0)) c 6 (nI 0)) := by
        unfold MX4_empty_21
        rw [gg_t kc, lt_eq, lt_eq, lt_eq, lt_eq, lt_eq, lt_eq]
        simp only [ZL]
      obtain ⟨z, hz⟩ : ∃ z, z = sI (sI (sI (sI (sI (sI g c 1 v2) c 2 (nI 0)) c 3 (nI 0)) c 4 (nI 0)) c 5 (nI 0)) c 6 (nI 0) := ⟨_, rfl⟩
      rw [← hz] at e21
      refine ⟨z, ?_, ?_, fun j hj => ?_, ?_, fun j h2 h6 => ?_⟩
      · show BX4_empty_2 g c v1 v2 (nI 27) = _
        unfold BX4_empty_2
        simp only [ZL]
        rw [if_pos (nI_le (Nat.le_refl _) (by omega)), e21, up1_some]
      · have s : ∀ {g0 : Hp} {l : Nat} {v : Int32}, Fr (fun b => b = c ∨ b = A) h g0 → Fr (fun b => b = c ∨ b = A) h (sI g0 c l v) := fun q => q.trans (Fr.sI (S := fun b => b = c ∨ b = A) (Or.inl rfl))
        rw [hz]
        exact s (s (s (s (s (s (p2.mono (fun b q => Or.inr q)))))))
      · rw [hz]
        simp (disch := omega) only [gI2, i0]
        exact p3 j hj
      · rw [hz]
        simp (disch := omega) only [gI2, i0, i1, and_self, if_true]
      · rw [hz]
        rcases (show j = 2 ∨ j = 3 ∨ j = 4 ∨ j = 5 ∨ j = 6 by omega) with rfl | rfl | rfl | rfl | rfl
        all_goals simp (disch := omega) only [gI2, i0, i1, and_self, if_true]
  obtain ⟨z, k1, k2, k3, k4, k5⟩ := K0
  exact ⟨z, by simp only [ZL]; exact k1, k2, k3, k4, k5⟩
/-- the memory with one machine more -/
def mcM (m : Nat → Int32) (N nn j : Nat) : Nat → Int32 := fun y => if 320230 + 183 * N ≤ y ∧ y < 320230 + 183 * N + j then nI nn else m y
def mcN (m : Nat → Int32) (N nn bk : Nat) : Nat → Int32 := va_up (va_up (mcM m N nn 27) (320230 + 183 * N + 27) (nI bk)) 3 (nI (N + 1))
theorem mcN_f (N4 : N < 4) : (∀ y, y ≠ 3 → (y < 320230 + 183 * N ∨ 320230 + 183 * N + 28 ≤ y) → mcN m N nn bk y = m y) ∧ mcN m N nn bk 3 = nI (N + 1) ∧ (∀ j, j < 27 → mcN m N nn bk (320230 + 183 * N + j) = nI nn) ∧ mcN m N nn bk (320230 + 183 * N + 27) = nI bk := by
  unfold mcN mcM
  refine ⟨fun y h1 h2 => ?_, ?_, fun j hj => ?_, ?_⟩
  · rw [up_at, if_neg h1, up_at, if_neg (by omega), if_neg (by omega)]
  · rw [up_at, if_pos rfl]
  · rw [up_at, if_neg (by omega), up_at, if_neg (by omega), if_pos (by omega)]
  · rw [up_at, if_neg (by omega), up_at, if_pos rfl]
theorem mc_mi (I : MI m) (hN : N = Nn m 3) (N4 : N < 4) (hn : nn ≤ 40) (hb : bk ≤ 9) (H : ∀ y, y ≠ 3 → (y < 320230 + 183 * N ∨ 320230 + 183 * N + 28 ≤ y) → M y = m y) (H3 : M 3 = nI (N + 1)) (Hn : ∀ j, j < 27 → M (320230 + 183 * N + j) = nI nn) (Hb : M (320230 + 183 * N + 27) = nI bk) : MI M := by
  obtain ⟨B, Ip, Is, Im, Ih, Iy, Iz, Iq⟩ := I
  obtain ⟨⟨-, f0⟩, ⟨-, f1⟩, ⟨-, f2⟩, ⟨-, f3⟩, ⟨-, f4⟩, -⟩ := B.f
  have L : ∀ y, y ≠ 3 → y < 320230 → M y = m y := fun y h1 h2 => H y h1 (by omega)
  have U : ∀ y, 320962 ≤ y → M y = m y := fun y h1 => H y (by omega) (by omega)
  have n3 : Nn M 3 = N + 1 := by unfold Nn; rw [H3, nCl (by omega)]
  have vpm : ∀ q, vP M q → vP m q := fun q hq => hq.c (L 1 (by omega) (by omega)).symm (fun _ => (L _ (by omega) (by have := hq.1; omega)).symm)
  have vpM : ∀ q, vP m q → vP M q := fun q hq => hq.c (L 1 (by omega) (by omega)) (fun _ => L _ (by omega) (by have := hq.1; omega))
  have z29 : M (320230 + 183 * N + 29) = nI 0 := by
    rw [H _ (by omega) (by omega)]
    exact Iz.2 N (by omega) N4 29 (by omega) (by omega)
  have N29 : Nn M (320230 + 183 * N + 29) = 0 := by unfold Nn; rw [z29, nCl (by omega)]
  refine ⟨?_, fun q hq => ?_, fun s hs => ?_, fun k hk => ?_, ?_, fun y hy => ?_, ?_, Iq.mc (fun x hx => L x (by omega) (by omega)) Ip (L 4 (by omega) (by omega)) Is (fun s hs x hx => L _ (by omega) (by omega))⟩
  · obtain ⟨b0, b1, b2, b3, b4, b5, b6, b7, b8, b9⟩ := B
    refine ⟨b0.c (L 0 (by omega) (by omega)), b1.c (L 1 (by omega) (by omega)), b2.c (L 2 (by omega) (by omega)), ⟨N + 1, by omega, H3⟩, b4.c (L 4 (by omega) (by omega)), b5.c (L 5 (by omega) (by omega)), b6.c (L 6 (by omega) (by omega)), by rw [L 7 (by omega) (by omega), Nn.c (L 0 (by omega) (by omega))]; exact b7, fun j hj => ?_, fun s hs => ?_⟩
    · have e := L (16 + j) (by omega) (by omega)
      exact ⟨(b8 j hj).1.c e, by rw [Nn.c e]; exact (b8 j hj).2⟩
    · rw [Nn.c (L 1 (by omega) (by omega))] at hs
      obtain ⟨c1, c2, c3, c4⟩ := b9 s hs
      exact ⟨c1.c (L _ (by omega) (by omega)), c2.c (L _ (by omega) (by omega)), c3.c (L _ (by omega) (by omega)), by rw [Nn.c (L (110 + s) (by omega) (by omega))]; exact c4⟩
  · have hq' := vpm q hq
    have hb := hq.1
    have hI := Ip q hq'
    refine hI.mc fun x hx => ?_
    rcases hx with rfl | ⟨h1, h2⟩ | ⟨l, hl, hz, h1, h2⟩
    · exact L _ (by omega) (by omega)
    · exact L _ (by omega) (by omega)
    · obtain ⟨x3, hx3, e3⟩ := hI.2.2.2.2.1
      have hset : m (130 + 645 * q + 3) = nI 1 := by
        rcases (show x3 = 0 ∨ x3 = 1 by omega) with rfl | rfl
        · have := hI.2.2.2.2.2.2.2.2.2.2.1 e3
          unfold Nn at hl
          rw [this, nCl (by omega)] at hl
          omega
        · exact e3
      obtain ⟨-, -, -, c3⟩ := hI.2.2.2.2.2.2.2.2.2.2.2 hset
      obtain ⟨-, -, -, d4⟩ := c3 l hl
      have := (d4 hz).1
      exact L _ (by omega) (by omega)
  · rw [Nn.c (L 4 (by omega) (by omega))] at hs
    obtain ⟨a0, a1, a2, a3, a4, a5, a6, a7, a8, a9, a10, a11, a12, a13, a14, a15, a16⟩ := Is s hs
    have e : ∀ x, x < 852 → M (64630 + 852 * s + x) = m (64630 + 852 * s + x) := fun x hx => L _ (by omega) (by omega)
    have e0 : M (64630 + 852 * s) = m (64630 + 852 * s) := e 0 (by omega)
    have e9 := (a11.eq (by omega)).2
    refine ⟨a0.c e0, by rw [Nn.c e0]; exact vpM _ a1, a2.c (e _ (by omega)), by rw [Nn.c (e 1 (by omega)), n3]; omega, a4.c (e _ (by omega)), by rw [Nn.c (e 2 (by omega)), Nn.c (L 0 (by omega) (by omega))]; exact a5, by rw [Nn.c (e 2 (by omega))]; exact a6, a7.c (e _ (by omega)), a8.c (e _ (by omega)), a9.c (e _ (by omega)), a10.c (e _ (by omega)), a11.c (e _ (by omega)), a12.c (e _ (by omega)), a13.c (e _ (by omega)), fun j hj => ?_, fun hz => ?_, fun hz => ?_⟩
    · rw [Nn.c (e 9 (by omega))] at hj
      have h1 := e (12 + j) (by omega)
      have h2 := e (432 + j) (by omega)
      rw [← Nat.add_assoc] at h1 h2
      exact ⟨(a14 j hj).1.c h1, (a14 j hj).2.c h2⟩
    · rw [e 4 (by omega)] at hz
      rw [e 5 (by omega), e 6 (by omega)]
      exact a15 hz
    · rw [e 4 (by omega)] at hz
      obtain ⟨c1, c2, c3, c4, c5, c6⟩ := a16 hz
      have hb := c3.1
      have c1b := (c1.eq (by omega)).2
      rw [Nn.c (e 6 (by omega)), Nn.c (e 5 (by omega)), L (130 + 645 * Nn m (64630 + 852 * s + 6) + 3) (by omega) (by omega), Nn.c (L (130 + 645 * Nn m (64630 + 852 * s + 6) + 4) (by omega) (by omega)), L (130 + 645 * Nn m (64630 + 852 * s + 6) + 45 + Nn m (64630 + 852 * s + 5)) (by omega) (by omega)]
      exact ⟨c1.c (e 5 (by omega)), c2.c (e 6 (by omega)), vpM _ c3, c4, c5, c6⟩
  · rw [n3] at hk
    by_cases z : k = N
    · subst z
      refine ⟨fun j hj => ⟨nn, hn, Hn j hj⟩, ⟨bk, hb, Hb⟩, ⟨0, by omega, by rw [H _ (by omega) (by omega)]; exact Iz.2 k (by omega) N4 28 (by omega) (by omega)⟩, ⟨0, by omega, z29⟩, fun j hj => ?_⟩
      rw [N29] at hj
      exact absurd hj (by omega)
    · have hk' : k < Nn m 3 := by omega
      have e : ∀ y, 320230 + 183 * k ≤ y → y < 320230 + 183 * k + 183 → M y = m y := fun y h1 h2 => H y (by omega) (by omega)
      obtain ⟨a0, a1, a2, a3, a4⟩ := Im k hk'
      have h30 := (a3.eq (by omega)).2
      refine ⟨fun j hj => (a0 j hj).c (e _ (by omega) (by omega)), a1.c (e _ (by omega) (by omega)), a2.c (e _ (by omega) (by omega)), a3.c (e _ (by omega) (by omega)), fun j hj => ?_⟩
      rw [Nn.c (e (320230 + 183 * k + 29) (by omega) (by omega))] at hj
      obtain ⟨c1, c2, c3', c4, c5, c6, c7, c8⟩ := a4 j hj
      have jb := c2.1
      have o : ∀ x, x < 5 → M (320230 + 183 * k + 33 + 5 * j + x) = m (320230 + 183 * k + 33 + 5 * j + x) := fun x hx => e _ (by omega) (by omega)
      have e0 : M (320230 + 183 * k + 33 + 5 * j) = m (320230 + 183 * k + 33 + 5 * j) := o 0 (by omega)
      rw [Nn.c e0, Nn.c (o 1 (by omega)), Nn.c (o 2 (by omega)), o 1 (by omega), o 4 (by omega), L (130 + 645 * Nn m (320230 + 183 * k + 33 + 5 * j) + 2) (by omega) (by omega), L (130 + 645 * Nn m (320230 + 183 * k + 33 + 5 * j) + 3) (by omega) (by omega), Nn.c (L (130 + 645 * Nn m (320230 + 183 * k + 33 + 5 * j) + 4) (by omega) (by omega)), n3, e0]
      refine ⟨c1.c e0, vpM _ c2, c3'.c (o 1 (by omega)), c4.c (o 2 (by omega)), c5.c (o 3 (by omega)), c6.c (o 4 (by omega)), c7, fun hf => ?_⟩
      obtain ⟨d1, d2, d3, d4⟩ := c8 hf
      refine ⟨d1, d2, d3, fun k' hk2 j' hj' h4 h0 => ?_⟩
      by_cases zk : k' = N
      · subst zk
        rw [N29] at hj'
        exact absurd hj' (by omega)
      · have hk3 : k' < Nn m 3 := by omega
        have e' : ∀ y, 320230 + 183 * k' ≤ y → y < 320230 + 183 * k' + 183 → M y = m y := fun y h1 h2 => H y (by omega) (by omega)
        have h30' := ((Im k' hk3).2.2.2.1.eq (by omega)).2
        rw [Nn.c (e' (320230 + 183 * k' + 29) (by omega) (by omega))] at hj'
        rw [e' _ (by omega) (by omega)] at h4 h0
        exact d4 k' hk3 j' hj' h4 h0
  · obtain ⟨i1, i2, i3, i4⟩ := Ih
    obtain ⟨-, -, -, -, -, ⟨-, f5⟩, ⟨-, f6⟩, ⟨-, f7⟩⟩ := B.f
    refine ⟨fun p hp => ?_, fun e he p hp => ?_, fun i hi => ?_, fun t ht => ?_⟩
    · obtain ⟨c1, c2, c3, c4, c5⟩ := i1 p hp
      exact ⟨c1.c (U _ (by omega)), by rw [Nn.c (U (327382 + 185 * p) (by omega))]; exact c2, c3.c (U _ (by omega)), by rw [Nn.c (U (327382 + 185 * p + 1) (by omega))]; exact c4, c5.c (U _ (by omega))⟩
    · rw [Nn.c (L 6 (by omega) (by omega))] at he
      exact (i2 e he p hp).c (U _ (by omega))
    · rw [Nn.c (L 7 (by omega) (by omega))] at hi
      rw [Nn.c (L 7 (by omega) (by omega)), Nn.c (L 0 (by omega) (by omega)), U _ (by omega)]
      exact i3 i hi
    · rw [Nn.c (L 5 (by omega) (by omega))] at ht
      obtain ⟨c1, c2, c3, c4⟩ := i4 t ht
      exact ⟨c1.c (U _ (by omega)), c2.c (U _ (by omega)), c3.c (U _ (by omega)), c4.c (U _ (by omega))⟩
  · rw [Nn.c (L 2 (by omega) (by omega))] at hy
    exact (Iy y hy).mc fun x hx => U _ (by omega)
  · refine ⟨fun q hq h5 => ?_, fun k h1 h2 j h3 h4 => ?_⟩
    · rw [Nn.c (L 1 (by omega) (by omega))] at h5
      rw [L _ (by omega) (by omega), L _ (by omega) (by omega), L _ (by omega) (by omega)]
      exact Iz.1 q hq h5
    · rw [n3] at h1
      rw [H _ (by omega) (by omega)]
      exact Iz.2 k (by omega) h2 j h3 h4
/-- the count of machines goes up -/
theorem rv_c3 (K : Rt tg h r x) (I : MI m) (V : RmV h r m) (hN : N = Nn m 3) (N4 : N < 4) (hz : gP h (gP h r 8) N ≠ 0) (W : MaV h (gP h (gP h r 8) N) M N) (H : ∀ y, y ≠ 3 → (y < 320230 + 183 * N ∨ 320230 + 183 * N + 183 ≤ y) → M y = m y) (H3 : M 3 = nI (N + 1)) (z29 : M (320230 + 183 * N + 29) = nI 0) : RmV (sI h r 9 (nI (N + 1))) r M := by
  obtain ⟨B, Ip, Is, Im, Ih, Iy, Iz, Iq⟩ := I
  obtain ⟨⟨-, f0⟩, ⟨-, f1⟩, ⟨-, f2⟩, ⟨-, f3⟩, ⟨-, f4⟩, -⟩ := B.f
  obtain ⟨a1, a2, a3, a4, a5, a6, a7, c1, c2, c3, c4, d⟩ := V
  have L : ∀ y, y ≠ 3 → y < 320230 → M y = m y := fun y h1 h2 => H y h1 (by omega)
  have U : ∀ y, 320962 ≤ y → M y = m y := fun y h1 => H y (by omega) (by omega)
  have n3 : Nn M 3 = N + 1 := by unfold Nn; rw [H3, nCl (by omega)]
  have r0 := K.2.2.2.2
  have k1 : ∀ k, gP h r k ≠ r := fun k e => by
    have := K.a (k := k) (by rw [e]; exact r0)
    rw [e, K.2.2.1] at this
    have := congrArg List.length this
    simp at this
  have k2 : ∀ k j, gP h (gP h r k) j ≠ r := fun k j e => by
    have := K.o (k := k) (j := j) (by rw [e]; exact r0)
    rw [e, K.2.2.1] at this
    have := congrArg List.length this
    simp at this
  have k3 : ∀ k j l, gP h (gP h (gP h r k) j) l ≠ r := fun k j l e => by
    have := K.q (k := k) (j := j) (i := l) (by rw [e]; exact r0)
    rw [e, K.2.2.1] at this
    have := congrArg List.length this
    simp at this
  have s1 := fun k => sI_sm (h := h) (a := r) (j := 9) (v := nI (N + 1)) (k1 k)
  have s2 := fun k j => sI_sm (h := h) (a := r) (j := 9) (v := nI (N + 1)) (k2 k j)
  have s3 := fun k j l => sI_sm (h := h) (a := r) (j := 9) (v := nI (N + 1)) (k3 k j l)
  have g : ∀ l, l ≠ 9 → gI (sI h r 9 (nI (N + 1))) r l = gI h r l := fun l hl => by rw [gI2, if_neg (fun q => hl q.2)]
  unfold RmV
  rw [show gP (sI h r 9 (nI (N + 1))) = gP h from rfl, g 0 (by omega), g 7 (by omega), g 3 (by omega), g 11 (by omega), (s1 1).2.2.1, (s1 6).2.2.1, (s1 12).2.2.1, (s1 13).2.2.1, Nn.c (L 1 (by omega) (by omega)), Nn.c (L 2 (by omega) (by omega)), Nn.c (L 4 (by omega) (by omega)), Nn.c (L 7 (by omega) (by omega)), Nn.c (L 0 (by omega) (by omega)), n3, L 0 (by omega) (by omega), L 1 (by omega) (by omega), L 2 (by omega) (by omega), L 4 (by omega) (by omega)]
  refine ⟨a1, a2, a3, by rw [gI2, if_pos ⟨rfl, rfl⟩, H3], a5, fun j hj => by rw [L _ (by omega) (by omega)]; exact a6 j hj, fun s hs => by rw [L _ (by omega) (by omega)]; exact a7 s hs, fun q hq => ?_, fun k hk => ?_, fun s hs1 => ?_, fun y hy => ?_, ?_⟩
  · have hb := hq.1
    have hq' : vP m q := hq.c (L 1 (by omega) (by omega)).symm (fun _ => (L _ (by omega) (by omega)).symm)
    refine ⟨(c1 q hq').1, ((c1 q hq').2.congr (s2 5 q) (s3 5 q)).mc (fun y hy => ?_) (Ip q hq')⟩
    rcases hy with rfl | rfl | ⟨h1, h2⟩ <;> exact L _ (by omega) (by omega)
  · by_cases z : k = N
    · subst z
      exact ⟨hz, W.congr (s2 8 k) (s3 8 k)⟩
    · have hk' : k < Nn m 3 := by omega
      obtain ⟨-, -, -, i3, ij⟩ := Im k hk'
      refine ⟨(c2 k hk').1, ((c2 k hk').2.congr (s2 8 k) (s3 8 k)).mc (fun y hy => ?_) i3⟩
      rcases hy with ⟨h1, h2⟩ | ⟨j, hj, hx⟩
      · exact H _ (by omega) (by omega)
      · have hb := (ij j hj).2.1.1
        rcases hx with rfl | rfl <;> exact L _ (by omega) (by omega)
  · have hi := Is s hs1
    have hb := hi.2.1.1
    refine ⟨(c3 s hs1).1, ((c3 s hs1).2.congr (s2 10 s) (s3 10 s)).mc (fun y hy => ?_) hi.2.2.2.2.2.2.2.2.2.2.2.1⟩
    rcases hy with ⟨h1, h2⟩ | rfl <;> exact L _ (by omega) (by omega)
  · exact ⟨(c4 y hy).1, ((c4 y hy).2.congr (s2 2 y) (s3 2 y)).mc (fun x hx => U _ (by omega)) (Iy y hy).2.1⟩
  · have := rows.mc (h := h) (r := r) (m' := M) B ⟨L 0 (by omega) (by omega), L 4 (by omega) (by omega), L 7 (by omega) (by omega)⟩ (fun x h1 h2 => U x (by omega)) (fun s hs => ⟨L _ (by omega) (by omega), L _ (by omega) (by omega)⟩) d
    rw [Nn.c (L 4 (by omega) (by omega)), Nn.c (L 7 (by omega) (by omega)), Nn.c (L 0 (by omega) (by omega))] at this
    exact this
end
