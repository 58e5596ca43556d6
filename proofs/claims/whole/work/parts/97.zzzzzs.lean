/-! correct: a part that is set, the class's end -/
section
variable {tg : Nat → List Nat} {h h1 h2 g g1 : Hp} {m M M1 M2 M3 : Nat → Int32} {p q f op n b cc ol nl sn : Nat} {w : Int32} {c : Nat → Nat} {D : Nat → Prop}
theorem cw_c (O : Own tg h) (X : XS h) (X2 : XS2 h) (K : Rt tg h 19 5) (S : RmS h 19) (V : RmV h 19 m) (I : MI m) (vq : vP m q) (u3 : m (130 + 645 * q + 3) = nI 1) (hp : p = gP h (gP h 19 5) q) (p0 : p ≠ 0) (PX : PtX h 13 M2 q) (c9 : gI h 13 9 = nI nl) (c3 : ∀ j, j < nl → gI h (gP h 13 3) j = M2 (130 + 645 * q + 5 + j)) (c4 : ∀ j, j < nl → gI h (gP h 13 4) j = M2 (130 + 645 * q + 45 + j) - nI 1) (P2 : MIp M2 q) (Q2 : MIq1 M2 q) (e3 : M2 (130 + 645 * q + 3) = nI 1) (e4 : M2 (130 + 645 * q + 4) = nI nl) (n40 : nl ≤ 40) (hM : ∀ y, (y < 130 + 645 * q + 1 ∨ 130 + 645 * q + 645 ≤ y ∨ y = 130 + 645 * q + 2 ∨ y = 130 + 645 * q + 3) → M2 y = m y) (h45o : ∀ l, l < op → M2 (130 + 645 * q + 45 + l) = m (130 + 645 * q + 45 + l)) (h45 : ∀ l, op ≤ l → l < nl → M2 (130 + 645 * q + 45 + l) = nI 0) (J : ∀ k, k < Nn m 3 → ∀ j, j < Nn m (320230 + 183 * k + 29) → Nn m (320230 + 183 * k + 33 + 5 * j) ≠ q) (eol : ol = Nn m (130 + 645 * q + 4)) (ho : op < ol) (hn : op ≤ nl) (hsm : sn = fsB (tEq m M2 q ol nl) (min ol nl - op) 0) (hM3 : M3 = laM m M2 q op ol nl sn ol) (Z : Int32 → Hp → Option (Int32 × Hp)) : ∃ g, (gg (kd h 19 = 6) <| b2 (MX7_countSame h 19 p 13 (nI op)) fun (t31 : Int32) (h30 : Hp) => gg (kd h30 19 = 6) <| Option.bind (MX7_movePlaces h30 19 p 13 (nI op) t31) fun (h34 : Hp) => gg (kd h34 p = 4) <| Option.bind (MX5_takeCopy h34 p 13) fun (h37 : Hp) => gg (kd h37 p = 4) <| Option.bind (MX5_takeLines h37 p 13) fun (h40 : Hp) => Z t31 h40) = Z (nI sn) g ∧ kd g p = 4 ∧ gI g p 9 = nI nl ∧ Fr (fun b => b ≠ 0 ∧ ([5] <:+ tg b ∨ [4] <:+ tg b)) h g ∧ RmS g 19 ∧ RmV g 19 M3 ∧ PtS g 13 ∧ MI M3 ∧ sn ≤ nl - op := by
  have q1 := vq.1
  obtain ⟨-, f4⟩ := I.1.f.2.2.2.2.1
  have J0 := I.2.1 q vq
  obtain ⟨e4', l40⟩ := J0.2.2.2.2.2.1.eq (by omega)
  have nn4 : Nn M2 (130 + 645 * q + 4) = nl := by unfold Nn; rw [e4, nCl (by omega)]
  rw [← eol] at e4' l40
  have B2 : MIb M2 := I.1.mc (fun x hx => hM x (by omega))
  obtain ⟨f1, f2, f3⟩ := fsB_p (B := tEq m M2 q ol nl) (min ol nl - op) 0
  rw [← hsm] at f1 f2 f3
  obtain ⟨tp, p3, t13, N13, pd, np, nq, -, tq, A, -⟩ := sp_nm O X X2 S hp p0
  have P13 : PtS h 13 := X2.2.2.2.2.2.2.2.2.2.2.2.2.2
  have z13 : ∀ j, j ≤ 4 → gP h 13 j ≠ 0 := fun j hj => by
    obtain ⟨-, s2, s3, s4, s5, s6, -⟩ := P13
    rcases (show j = 0 ∨ j = 1 ∨ j = 2 ∨ j = 3 ∨ j = 4 by omega) with rfl | rfl | rfl | rfl | rfl
    · exact s2.1
    · exact s3.1
    · exact s4.1
    · exact s5.1
    · exact s6.1
  have ta : ∀ j, gP h 13 j ≠ 0 → tg (gP h 13 j) = [j, 4] := fun j hj => by rw [tgc O hj (by omega), t13]
  have MI3 : MI M3 := by
    rw [hM3]
    exact la_mi I vq u3 eol ho (by omega) (by omega) n40 hn P2 Q2 e3 e4 hM h45o h45 J
  -- as many lines say the same
  obtain ⟨g5, k5, A5⟩ := c_countSame O X X2 K S V I vq u3 hp p0 B2 P2 Q2 e3 PX c9 nn4 c3 eol (Nat.le_of_lt ho) hn
  rw [← hsm] at k5
  have K5 := A5.rt K
  have S5 := A5.rs K S
  have V5 := A5.rv K V
  have eP5 : gP g5 = gP h := A5.1.gp
  have hp5 : p = gP g5 (gP g5 19 5) q := by rw [eP5]; exact hp
  -- lines are taken away
  obtain ⟨g6, k6, F6, S6, V6, I6⟩ := c_phA (X := 13) K5 S5 V5 I vq u3 hp5 eol (Nat.le_of_lt ho) (sm := sn) (by omega)
  have eP6 : gP g6 = gP h := F6.gp.trans eP5
  have hp6 : p = gP g6 (gP g6 19 5) q := by rw [eP6]; exact hp
  have K6 := K5.fr F6
  have s13 : ∀ y, (tg y = [4] ∨ ∃ j, tg y = [j, 4]) → gI g6 y = gI h y := fun y hy => by
    rw [(F6.same (b := y) (by rcases hy with u | ⟨j, u⟩ <;> (rw [u]; simp [pT]))).2.2.1, (A5.1.same (b := y) (by rcases hy with u | ⟨j, u⟩ <;> (rw [u]; simp [scT]))).2.2.1]
  have u13 := s13 13 (Or.inl t13)
  have u13j : ∀ j, j ≤ 4 → gI g6 (gP h 13 j) = gI h (gP h 13 j) := fun j hj => s13 _ (Or.inr ⟨j, ta j (z13 j hj)⟩)
  have kd6 : kd g6 = kd h := F6.ek.trans A5.1.ek
  have ln6 : ln g6 = ln h := F6.el.trans A5.1.el
  have P136 : PtS g6 13 := P13.of kd6 ln6 eP6 (by rw [u13j 1 (by omega)]; exact P13.2.2.2.2.2.2.1) (by rw [u13]; exact P13.2.2.2.2.2.2.2.1) (by rw [u13]; exact P13.2.2.2.2.2.2.2.2.1) (fun b => by rw [u13j 2 (by omega)]; exact P13.2.2.2.2.2.2.2.2.2 b)
  obtain ⟨mA, hmA⟩ : ∃ mA, mA = mAM m q op ol (ol - sn) := ⟨_, rfl⟩
  rw [← hmA] at V6 I6
  have mo : ∀ y, (y < 130 + 645 * q + 45 ∨ 130 + 645 * q + 85 ≤ y) → ¬ slX y → mA y = m y := fun y h1 h2 => by
    rw [hmA]; exact mA_o h1 (by omega) (by omega) h2
  have mp : ∀ l, l < 40 → mA (130 + 645 * q + 45 + l) = if op ≤ l ∧ l < ol - sn then nI 0 else m (130 + 645 * q + 45 + l) := fun l hl => by
    rw [hmA]; exact mA_p q1 hl
  have va : vP mA q := vq.b (fun x hx => mo x (by omega) (by unfold slX; omega))
  obtain ⟨p', hp', ec, -, PS6, PV6⟩ := c_findPart_t S6 V6 I6.1 va
  rw [← hp6] at hp'
  replace hp' := hp'.symm
  subst hp'
  obtain ⟨g7, k7, B7⟩ := c_phB (tg := tg) (h := g6) (ma := mA) (m := m) (q := q) (p := p) (ol := ol) (nl := nl) (sm := sn) K6 t13 S6 V6 I6 P136 I vq u3 hp6 p0 eol (by omega) (by omega) n40 (fun y hy => mo y (by omega) (by unfold slX; omega)) (fun l h1 h2 => by rw [mp l (by omega), if_neg (by omega)]) (by rw [u13]; exact c9) (fun j h1 h2 => by
    rw [eP6, u13j 4 (by omega), c4 j h2, h45 j (by omega) h2]
    decide)
  obtain ⟨F7, y1, y2, y3⟩ := B7
  have eP7 : gP g7 = gP h := F7.2.2.1.trans eP6
  have kd7 : kd g7 = kd h := F7.1.trans kd6
  have ln7 : ln g7 = ln h := F7.2.1.trans ln6
  have tsl : ∀ s, gP g6 (gP g6 19 10) s ≠ 0 → tg (gP g6 (gP g6 19 10) s) = [s, 10, 5] := fun s hs => K6.o hs
  have sz : ∀ s, s < Nn m 4 → gP g6 (gP g6 19 10) s ≠ 0 := fun s hs => by
    obtain ⟨c, hc, -, c0, -⟩ := c_findSlug_t S6 V6 I6.1 (k := s) (by rw [Nn.c (mo 4 (by omega) (by unfold slX; omega))]; exact hs)
    rw [← hc]; exact c0
  have tb4 := ta 4 (z13 4 (by omega))
  have o7 : ∀ y, tg y ≠ [4, 4] → (∀ s, tg y ≠ [s, 10, 5]) → sm g6 g7 y := fun y h1 h2 => F7.sm (fun z => by
    rcases z with z | ⟨s, hs, z⟩
    · exact h1 (by rw [z, eP6]; exact tb4)
    · exact h2 s (by rw [z]; exact tsl s (sz s hs)))
  have w13 : gI g7 13 = gI h 13 := by
    rw [(o7 13 (by rw [t13]; simp) (fun s => by rw [t13]; simp)).2.2.1]; exact u13
  have w13j : ∀ j, j ≤ 3 → gI g7 (gP h 13 j) = gI h (gP h 13 j) := fun j hj => by
    have tj := ta j (z13 j (by omega))
    rw [(o7 (gP h 13 j) (by rw [tj]; simp; omega) (fun s => by rw [tj]; simp)).2.2.1]
    exact u13j j (by omega)
  have zp : ∀ j, j ≤ 4 → gP h p j ≠ 0 := fun j hj => by
    obtain ⟨-, s2, s3, s4, s5, s6, -⟩ := PS6
    unfold ar at s2 s3 s4 s5 s6
    rw [eP6] at s2 s3 s4 s5 s6
    rcases (show j = 0 ∨ j = 1 ∨ j = 2 ∨ j = 3 ∨ j = 4 by omega) with rfl | rfl | rfl | rfl | rfl
    · exact s2.1
    · exact s3.1
    · exact s4.1
    · exact s5.1
    · exact s6.1
  have wp : sm g6 g7 p := o7 p (by rw [tp]; simp) (fun s => by rw [tp]; simp)
  have wpj : ∀ j, j ≤ 4 → sm g6 g7 (gP g6 p j) := fun j hj => by
    have tj := tq j (zp j hj)
    rw [eP6]
    exact o7 (gP h p j) (by rw [tj]; simp) (fun s => by rw [tj]; simp)
  have PS7 : PtS g7 p := PS6.cg wp wpj
  have P137 : PtS g7 13 := P13.of kd7 ln7 eP7 (by rw [w13j 1 (by omega)]; exact P13.2.2.2.2.2.2.1) (by rw [w13]; exact P13.2.2.2.2.2.2.2.1) (by rw [w13]; exact P13.2.2.2.2.2.2.2.2.1) (fun b => by rw [w13j 2 (by omega)]; exact P13.2.2.2.2.2.2.2.2.2 b)
  have A7 : AP g7 p 13 := by unfold AP; rw [eP7]; exact A
  -- the copy, the lines
  obtain ⟨g8, k8, Y8⟩ := c_cpCopy A7 PS7 P137
  have eP8 : gP g8 = gP h := Y8.1.2.2.1.trans eP7
  have PS8 : PtS g8 p := pt_cc Y8 PS7 P137
  have n13 : ∀ y, y = 13 ∨ (∃ j, y = gP g7 13 j) → ¬ (y = p ∨ ∃ k, gP g7 p k ≠ 0 ∧ y = gP g7 p k) := fun y hy z => by
    obtain ⟨a1, a2, a3, a4⟩ := A7
    rcases z with z | ⟨k, hk, z⟩
    · rcases hy with hy | ⟨j, hy⟩
      · exact a2 (by rw [← z, hy])
      · exact a3 j (by rw [← z, hy])
    · obtain ⟨-, d2, d3, -⟩ := a4 k hk
      rcases hy with hy | ⟨j, hy⟩
      · exact d2 (by rw [← z, hy])
      · exact d3 j (by rw [← z, hy])
  have P138 : PtS g8 13 := by
    refine P137.of Y8.1.1 Y8.1.2.1 Y8.1.2.2.1 ?_ ?_ ?_ (fun b => ?_)
    · rw [Y8.1.2.2.2.2.2.2 _ (n13 _ (Or.inr ⟨1, rfl⟩))]; exact P137.2.2.2.2.2.2.1
    · rw [Y8.1.2.2.2.2.2.2 _ (n13 _ (Or.inl rfl))]; exact P137.2.2.2.2.2.2.2.1
    · rw [Y8.1.2.2.2.2.2.2 _ (n13 _ (Or.inl rfl))]; exact P137.2.2.2.2.2.2.2.2.1
    · rw [Y8.1.2.2.2.2.2.2 _ (n13 _ (Or.inr ⟨2, rfl⟩))]; exact P137.2.2.2.2.2.2.2.2.2 b
  have A8 : AP g8 p 13 := by unfold AP; rw [eP8]; exact A
  obtain ⟨g9, k9, Y9⟩ := c_cpLines A8 PS8 P138
  have l3o : ∀ y, (y < 130 + 645 * q + 45 ∨ 130 + 645 * q + 85 ≤ y) → ¬ slX y → M3 y = M2 y := fun y h1 h2 => by
    rw [hM3]; exact la_o h1 n40 h2
  have l3p : ∀ l, l < 40 → M3 (130 + 645 * q + 45 + l) = if nl - sn ≤ l ∧ l < nl ∧ l + ol < nl + ol then m (130 + 645 * q + 45 + l + ol - nl) else M2 (130 + 645 * q + 45 + l) := fun l hl => by
    rw [hM3]; exact la_p q1 hl (by omega)
  have l3s : ∀ s x, 4 ≤ x → x ≤ 6 → s < 300 → M3 (64630 + 852 * s + x) = if s < Nn m 4 ∧ m (64630 + 852 * s + 4) = nI 0 ∧ Nn m (64630 + 852 * s + 6) = q ∧ op ≤ Nn m (64630 + 852 * s + 5) ∧ Nn m (64630 + 852 * s + 5) < ol then (if Nn m (64630 + 852 * s + 5) < ol - sn then (if x = 4 then nI 2 else -nI 1) else if x = 5 then nI (Nn m (64630 + 852 * s + 5) + nl - ol) else m (64630 + 852 * s + x)) else M2 (64630 + 852 * s + x) := fun s x h1 h2 h3 => by
    rw [hM3]; exact la_s h1 h2 h3 (by omega)
  have mAs : ∀ s x, 4 ≤ x → x ≤ 6 → s < 300 → mA (64630 + 852 * s + x) = if s < Nn m 4 ∧ m (64630 + 852 * s + 4) = nI 0 ∧ Nn m (64630 + 852 * s + 6) = q ∧ op ≤ Nn m (64630 + 852 * s + 5) ∧ Nn m (64630 + 852 * s + 5) < ol - sn then (if Nn m (64630 + 852 * s + 5) < ol - 0 then (if x = 4 then nI 2 else -nI 1) else if x = 5 then nI (Nn m (64630 + 852 * s + 5) + op - ol) else m (64630 + 852 * s + x)) else m (64630 + 852 * s + x) := fun s x h1 h2 h3 => by
    rw [hmA]; exact mA_s h1 h2 h3 q1 (by omega) (by omega)
  have PX7 : PtX g7 13 M2 q := PX.k eP7 (by rw [w13]) (by rw [w13]) (by rw [w13]) (by rw [w13]) (fun j hj => w13j j (by omega)) rfl rfl rfl rfl (fun y hy => rfl)
  have mb : ∀ x, x < 130 → M3 x = mA x := fun x hx => by
    rw [l3o x (by omega) (by unfold slX; omega), hM x (by omega), mo x (by omega) (by unfold slX; omega)]
  obtain ⟨t1, t2, t3, t4⟩ := tk_all (M3 := M3) (nl := nl) P137 PS7 A7 Y8 Y9 PX7 (MIp.mx P2) (by rw [wp.2.2.1, PV6.2.2.1]; exact (mb _ (by omega)).symm) (by rw [wp.2.2.1, PV6.2.2.2.1]; exact (mb _ (by omega)).symm) (by rw [wp.2.2.1, PV6.2.2.2.2.1, l3o _ (by omega) (by unfold slX; omega), hM _ (by omega), mo _ (by omega) (by unfold slX; omega)]) (by rw [wp.2.2.1, PV6.2.2.2.2.2.1, l3o _ (by omega) (by unfold slX; omega), hM _ (by omega), mo _ (by omega) (by unfold slX; omega)]) (l3o _ (by omega) (by unfold slX; omega)) (l3o _ (by omega) (by unfold slX; omega)) (fun y h1 h2 => l3o y (by omega) (by unfold slX; omega)) (by rw [l3o _ (by omega) (by unfold slX; omega)]; exact e3) (by rw [l3o _ (by omega) (by unfold slX; omega)]; exact e4) n40 (by rw [w13]; exact c9) (fun j hj => by rw [eP7, w13j 3 (by omega), c3 j hj, l3o _ (by omega) (by unfold slX; omega)]) (fun j hj => by
    have := y3 j
    rw [eP6] at this
    rw [eP7, this, l3p j (by omega), u13j 4 (by omega), c4 j hj]
    by_cases z : nl - sn ≤ j
    · rw [if_pos (show nl - sn ≤ j ∧ j < nl ∧ j + ol < nl + ol by omega), show 130 + 645 * q + 45 + j + ol - nl = 130 + 645 * q + 45 + (j + ol - nl) by omega]
      by_cases y : m (130 + 645 * q + 45 + (j + ol - nl)) = nI 0
      · rw [if_neg (fun u => u.2.2 y), y, h45 j (by omega) hj]
      · rw [if_pos ⟨by omega, hj, y⟩]
    · rw [if_neg (show ¬ (nl - sn ≤ j ∧ j < nl ∧ j + ol < nl + ol) by omega), if_neg (fun u => by omega)])
  have P139 : PtS g9 13 := by
    refine P137.of (Y9.1.1.trans Y8.1.1) (Y9.1.2.1.trans Y8.1.2.1) (Y9.1.2.2.1.trans Y8.1.2.2.1) ?_ ?_ ?_ (fun b => ?_)
    · rw [t4 _ (Or.inr ⟨1, rfl⟩)]; exact P137.2.2.2.2.2.2.1
    · rw [t4 13 (Or.inl rfl)]; exact P137.2.2.2.2.2.2.2.1
    · rw [t4 13 (Or.inl rfl)]; exact P137.2.2.2.2.2.2.2.2.1
    · rw [t4 _ (Or.inr ⟨2, rfl⟩)]; exact P137.2.2.2.2.2.2.2.2.2 b
  have F79 : Ft tg (cT q) g7 g9 := by
    have D8 : ∀ y, (y = p ∨ ∃ k, gP h p k ≠ 0 ∧ y = gP h p k) → y ≠ 0 ∧ cT q (tg y) := fun y hy => by
      rcases hy with rfl | ⟨k, hk, rfl⟩
      · exact ⟨p0, Or.inl tp⟩
      · exact ⟨hk, Or.inr (Or.inl ⟨k, tq k hk⟩)⟩
    have a := Y8.1
    have b := Y9.1
    rw [eP7] at a
    rw [eP8] at b
    exact (a.mono D8).trans (b.mono D8)
  have F69 : Ft tg (cT q) g6 g9 := by
    refine Ft.trans (h1 := g7) (F7.mono (fun y hy => ?_)) F79
    rcases hy with rfl | ⟨s, hs, rfl⟩
    · rw [eP6]
      exact ⟨z13 4 (by omega), Or.inr (Or.inr (Or.inr (Or.inr (Or.inr ⟨4, tb4⟩))))⟩
    · exact ⟨sz s hs, Or.inr (Or.inr (Or.inl ⟨s, tsl s (sz s hs)⟩))⟩
  have o79 : ∀ y, (y = 0 ∨ (tg y ≠ [q, 5, 5] ∧ ∀ j, tg y ≠ [j, q, 5, 5])) → gI g9 y = gI g7 y := fun y hy => by
    have nD : ¬ (y = p ∨ ∃ k, gP h p k ≠ 0 ∧ y = gP h p k) := fun z => by
      rcases hy with hy | ⟨u1, u2⟩
      · rcases z with z | ⟨k, hk, z⟩
        · exact p0 (by rw [← z, hy])
        · exact hk (by rw [← z, hy])
      · rcases z with z | ⟨k, hk, z⟩
        · exact u1 (by rw [z]; exact tp)
        · exact u2 k (by rw [z]; exact tq k hk)
    rw [Y9.1.2.2.2.2.2.2 y (by rw [eP8]; exact nD), Y8.1.2.2.2.2.2.2 y (by rw [eP7]; exact nD)]
  have osl : ∀ s, gI g9 (gP g6 (gP g6 19 10) s) = gI g7 (gP g6 (gP g6 19 10) s) := fun s => o79 _ (by
    by_cases z : gP g6 (gP g6 19 10) s = 0
    · exact Or.inl z
    · refine Or.inr ⟨?_, fun j => ?_⟩
      · rw [tsl s z]; simp
      · rw [tsl s z]; simp)
  have b0 := S6.2.2.2.2.2.2.2.2.2.2.2.2.2.2.2.1
  have ob : ∀ j, gP g6 (gP g6 19 14) j ≠ 0 → gI g9 (gP g6 (gP g6 19 14) j) = gI g6 (gP g6 (gP g6 19 14) j) := fun j hj => by
    have tj := K6.o hj
    rw [o79 _ (Or.inr ⟨by rw [tj]; simp, fun k => by rw [tj]; simp⟩), (o7 _ (by rw [tj]; simp) (fun s => by rw [tj]; simp)).2.2.1]
  have RV := pc_rm (h := g6) (h1 := g9) (m := mA) (M := M3) K6 S6 V6 I6 va F69 ⟨by rw [ob 8 b0.2.2.1.1]; exact b0.2.2.2.2.2.2.2.2.1, by rw [ob 9 b0.2.2.2.1.1]; exact b0.2.2.2.2.2.2.2.2.2⟩ (fun y h1 h2 => by rw [l3o y (by omega) h2, hM y (by omega), mo y (by omega) h2]) (Or.inr (fun k hk j hj => by
    rw [Nn.c (mo 3 (by omega) (by unfold slX; omega))] at hk
    rw [Nn.c (mo (320230 + 183 * k + 29) (by omega) (by unfold slX; omega))] at hj
    rw [Nn.c (mo (320230 + 183 * k + 33 + 5 * j) (by omega) (by unfold slX; omega))]
    exact J k hk j hj)) hp6 t1 t2 (fun s j hj => by rw [osl s]; exact y1 s j (by omega)) (fun s hs => by
    rw [Nn.c (mo 4 (by omega) (by unfold slX; omega))] at hs
    have s300 : s < 300 := by omega
    obtain ⟨c, hc, -, -, -, cV⟩ := c_findSlug_t S6 V6 I6.1 (k := s) (by rw [Nn.c (mo 4 (by omega) (by unfold slX; omega))]; exact hs)
    rw [osl s, y1 s 10 (by omega), y1 s 12 (by omega), y2 s hs, ← hc, cV.2.2.2.2.1, cV.2.2.2.2.2.1, cV.2.2.2.2.2.2.1, mAs s 4 (by omega) (by omega) s300, mAs s 5 (by omega) (by omega) s300, mAs s 6 (by omega) (by omega) s300, l3s s 4 (by omega) (by omega) s300, l3s s 5 (by omega) (by omega) s300, l3s s 6 (by omega) (by omega) s300, hM (64630 + 852 * s + 4) (by omega), hM (64630 + 852 * s + 5) (by omega), hM (64630 + 852 * s + 6) (by omega)]
    by_cases z : m (64630 + 852 * s + 4) = nI 0 ∧ Nn m (64630 + 852 * s + 6) = q ∧ op ≤ Nn m (64630 + 852 * s + 5)
    · obtain ⟨z4, z6, z5⟩ := z
      have lt := (lk_s I hs z4 z6).2.1
      have P3 : s < Nn m 4 ∧ m (64630 + 852 * s + 4) = nI 0 ∧ Nn m (64630 + 852 * s + 6) = q ∧ op ≤ Nn m (64630 + 852 * s + 5) ∧ Nn m (64630 + 852 * s + 5) < ol := ⟨hs, z4, z6, z5, by omega⟩
      rw [if_pos P3, if_pos P3, if_pos P3]
      by_cases y : Nn m (64630 + 852 * s + 5) < ol - sn
      · have PA : s < Nn m 4 ∧ m (64630 + 852 * s + 4) = nI 0 ∧ Nn m (64630 + 852 * s + 6) = q ∧ op ≤ Nn m (64630 + 852 * s + 5) ∧ Nn m (64630 + 852 * s + 5) < ol - sn := ⟨hs, z4, z6, z5, y⟩
        have y0 : Nn m (64630 + 852 * s + 5) < ol - 0 := by omega
        rw [if_pos PA, if_pos PA, if_pos PA, if_pos y, if_pos y, if_pos y, if_pos y0, if_pos y0, if_pos y0]
        refine ⟨rfl, ?_, rfl⟩
        rw [if_neg (show ¬ (m (64630 + 852 * s + 4) = nI 0 ∧ Nn m (64630 + 852 * s + 6) = q ∧ ol ≤ Nn m (64630 + 852 * s + 5) + sn) from fun u => by omega)]
      · have PA : ¬ (s < Nn m 4 ∧ m (64630 + 852 * s + 4) = nI 0 ∧ Nn m (64630 + 852 * s + 6) = q ∧ op ≤ Nn m (64630 + 852 * s + 5) ∧ Nn m (64630 + 852 * s + 5) < ol - sn) := fun u => y u.2.2.2.2
        rw [if_neg PA, if_neg PA, if_neg PA, if_neg y, if_neg y, if_neg y]
        have Pb : m (64630 + 852 * s + 4) = nI 0 ∧ Nn m (64630 + 852 * s + 6) = q ∧ ol ≤ Nn m (64630 + 852 * s + 5) + sn := ⟨z4, z6, by omega⟩
        rw [if_pos Pb]
        exact ⟨rfl, rfl, rfl⟩
    · have P3 : ¬ (s < Nn m 4 ∧ m (64630 + 852 * s + 4) = nI 0 ∧ Nn m (64630 + 852 * s + 6) = q ∧ op ≤ Nn m (64630 + 852 * s + 5) ∧ Nn m (64630 + 852 * s + 5) < ol) := fun u => z ⟨u.2.1, u.2.2.1, u.2.2.2.1⟩
      have PA : ¬ (s < Nn m 4 ∧ m (64630 + 852 * s + 4) = nI 0 ∧ Nn m (64630 + 852 * s + 6) = q ∧ op ≤ Nn m (64630 + 852 * s + 5) ∧ Nn m (64630 + 852 * s + 5) < ol - sn) := fun u => z ⟨u.2.1, u.2.2.1, u.2.2.2.1⟩
      rw [if_neg P3, if_neg P3, if_neg P3, if_neg PA, if_neg PA, if_neg PA]
      have Pb : ¬ (m (64630 + 852 * s + 4) = nI 0 ∧ Nn m (64630 + 852 * s + 6) = q ∧ ol ≤ Nn m (64630 + 852 * s + 5) + sn) := fun u => z ⟨u.1, u.2.1, by omega⟩
      rw [if_neg Pb]
      exact ⟨rfl, rfl, rfl⟩)
  refine ⟨g9, ?_, t1.1, t3, ?_, RV.1, RV.2, P139, MI3, by omega⟩
  · rw [gg_t S.1, k5, b2_some, gg_t S5.1, k6, k7, ob_some, gg_t PS7.1, k8, ob_some, gg_t PS8.1, k9, ob_some]
  · exact ((A5.1.mono (fun y hy => Or.inl hy.sf) : Ft tg (fun l => [5] <:+ l ∨ [4] <:+ l) h g5).trans (F6.mono (fun y hy => Or.inl hy.sf))).trans (F69.mono (fun y hy => cT_sf hy))
end
