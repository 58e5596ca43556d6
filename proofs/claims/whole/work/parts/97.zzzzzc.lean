/-! correct: room and spare part are written; the class's part is copied -/
section
variable {tg : Nat → List Nat} {h h' h1 g : Hp} {m m' k t M M0 : Nat → Int32} {i n f : Int32} {D : Nat → Prop} {p q : Nat}
theorem CSt.sp (C : CSt tg h m k i t n f) (F : Fr D h h') (hD : ∀ b, D b → b ≠ 0 ∧ ([5] <:+ tg b ∨ [4] <:+ tg b)) (RS : RmS h' 19) (RV : RmV h' 19 m') (PS : PtS h' 13) (I' : MI m') (H : ∀ x, rgDk x → m' x = m x) : CSt tg h' m' k i t n f := by
  obtain ⟨O, X, X2, -, -, D0, DV, I, T, Im, Tr⟩ := C
  obtain ⟨t1, t2, t3, -, t5, -, t19, t48, -⟩ := tgs O X
  have A : ∀ x, x ≠ 5 → x ≠ 4 → Aw tg D x := fun x h5 h4 b hb => ⟨(hD b hb).1, fun z => by
    rcases (hD b hb).2 with u | u
    · exact h5 (suf1 z u)
    · exact h4 (suf1 z u)⟩
  have e6 := sm3.fr (r := 48) O t3 F (A 6 (by omega) (by omega)) (by omega) (by rw [t48]; exact List.suffix_refl _)
  have x2 : XS2 h' := by
    obtain ⟨a1, a2, a3, a4, a5, a6, a7, a8, a9, a10, a11, a12, s5, s13⟩ := X2
    have o1 := O.2.2.2.1
    have Hs : ∀ b, (b = 0 ∨ [3] <:+ tg b) → sm h h' b := fun b u => F.sm (fun z => by
      obtain ⟨z1, z2⟩ := A 3 (by omega) (by omega) b z
      rcases u with u | u
      · exact z1 u
      · exact z2 u)
    have s5' : [3] <:+ tg 5 := by rw [t5]; exact List.suffix_cons _ _
    refine ⟨a1.fr F, a2.fr F, a3.fr F, a4.fr F, a5.fr F, a6.fr F, a7.fr F, a8.fr F, a9.fr F, a10.fr F, a11.fr F, a12.fr F, s5.congr (Hs 5 (Or.inr s5')) (fun j => ?_), PS⟩
    by_cases z : gP h 5 j = 0
    · exact Hs _ (Or.inl z)
    · exact Hs _ (Or.inr (by rw [tgc O z (by omega)]; exact s5'.trans (List.suffix_cons _ _)))
  refine ⟨O.fr F, X.fr F, x2, RS, RV, D0.congr e6, (DV.congr e6).mc H I.1 I.2.2.2.2.1, I', T.fr F (fun z => ?_) (fun z => ?_), Im.fr O X F (A 9 (by omega) (by omega)) (A 10 (by omega) (by omega)), tr_fr Tr O X F (A 11 (by omega) (by omega))⟩
  · have := (hD 1 z).2
    rw [t1] at this
    exact absurd this (by simp)
  · have := (hD 2 z).2
    rw [t2] at this
    rcases this with u | u
    · exact absurd (suf1 u (List.suffix_refl _)) (by omega)
    · exact absurd (suf1 u (List.suffix_refl _)) (by omega)
theorem cT_sf {l : List Nat} (z : cT q l) : [5] <:+ l ∨ [4] <:+ l := by
  rcases z with rfl | ⟨j, rfl⟩ | ⟨s, rfl⟩ | z | rfl | ⟨j, rfl⟩
  · exact Or.inl (List.suffix_append [_, _] [5])
  · exact Or.inl (List.suffix_append [_, _, _] [5])
  · exact Or.inl (List.suffix_append [_, _] [5])
  · exact Or.inl z.sf
  · exact Or.inr (List.suffix_refl _)
  · exact Or.inr (List.suffix_append [_] [4])
/-- what changes on both sides in room and spare part -/
theorem Pr.sp {cm : Nat → Nat} {X : Option ((Int32 ⊕ Nat) × Hp)} {Y : Hp → Option (Int32 × Hp)} {h0 : Hp} {t0 : Nat → Int32} {n0 f0 : Int32} (C0 : CSt tg h0 m k i t0 n0 f0) (R0 : RSt h0 m k i t0 n0 f0) (F0 : Fr (fun b => b = 1 ∨ b = 2) h0 h) (C : CSt tg h m k i t n f) (v : Int32) (hX : X = some (.inl v, h1)) (F : Fr D h h1) (hD : ∀ b, D b → b ≠ 0 ∧ ([5] <:+ tg b ∨ [4] <:+ tg b)) (S' : RmS h1 19) (V' : RmV h1 19 m') (PS : PtS h1 13) (I' : MI m') (H : ∀ x, rgDk x → m' x = m x) (hY : ∀ h', RSt h' m k i t0 n0 f0 → (∀ y, 78 ≤ y → y ≤ 82 → gI h' y = gI h0 y) → ∃ h2, Y h' = some (v, h2) ∧ Fr Rc h' h2 ∧ RSt h2 m' k i t n f ∧ gI h2 73 0 = nI 0) : Pr cm Gm h0 X Y := by
  have hR0 : ∀ b, (b = 1 ∨ b = 2) → ¬ (73 ≤ b ∧ b ≤ 109) := fun b hb => by omega
  have rp1 : Rp h0 h := F0.rp hR0
  have R1 := R0.rp rp1
  have hR : ∀ b, D b → ¬ (73 ≤ b ∧ b ≤ 109) := fun b hb => by
    rcases (hD b hb).2 with u | u
    · exact nr C.1 R1.1 (x := 5) (by omega) (by omega) u
    · exact nr C.1 R1.1 (x := 4) (by omega) (by omega) u
  have rp2 : Rp h h1 := F.rp hR
  have rp : Rp h0 h1 := fun y y1 y2 => ⟨(rp2 y y1 y2).1.trans (rp1 y y1 y2).1, (rp2 y y1 y2).2.1.trans (rp1 y y1 y2).2.1, (rp2 y y1 y2).2.2.1.trans (rp1 y y1 y2).2.2.1, (rp2 y y1 y2).2.2.2.trans (rp1 y y1 y2).2.2.2⟩
  refine ⟨.inl v, h1, tg, m', k, i, t, n, f, hX, C.sp F hD S' V' PS I' H, rp, ⟨?_, ?_⟩, fun h' o => ?_⟩
  · have a := mu_fr F0
    have b := mu_fr F
    omega
  · have a := F0.2.2.2.1
    have b := F.2.2.2.1
    omega
  · have e : ∀ y, 78 ≤ y → y ≤ 82 → gI h' y = gI h0 y := fun y y1 y2 => by
      have e3 : gI h1 y = gI h0 y := (rp y (by omega) (by omega)).2.2.1
      rcases o with rfl | ⟨x, rfl⟩
      · exact e3
      · rw [gI_sI, if_neg (by omega)]; exact e3
    obtain ⟨h2, e1, e2, e3, e4⟩ := hY h' ((R0.rp rp).ou o) e
    exact ⟨v, h2, e1, e2, e3, e4, rfl⟩
/-- the spare part's copy is taken: what the part says then -/
theorem tk_cp (A : AP h p 13) (hp : PtS h p) (hq : PtS h 13) (C : Cy h g p 13 [6, 5] [2, 1, 0]) (V0 : PtV h 13 M0 q) (J0 : MIp M0 q) (Vp : PtV h p m q) (e0 : M (130 + 645 * q) = M0 (130 + 645 * q)) (e1 : M (130 + 645 * q + 1) = M0 (130 + 645 * q + 1)) (ep : ∀ x, 85 ≤ x → x < 645 → M (130 + 645 * q + x) = M0 (130 + 645 * q + x)) (e2 : M (130 + 645 * q + 2) = m (130 + 645 * q + 2)) (e3 : M (130 + 645 * q + 3) = m (130 + 645 * q + 3)) (e70 : M (70 + q / 5) = m (70 + q / 5)) (e90 : M (90 + q / 5) = m (90 + q / 5)) (u3 : m (130 + 645 * q + 3) = nI 0) : PtS g p ∧ PtV g p M q := by
  obtain ⟨a0, a1, a2, a3, a4, a5, a6, a7, a8, a9⟩ := id hp
  obtain ⟨b0, b1, b2, b3, b4, b5, b6, b7, b8, b9⟩ := id hq
  refine ⟨?_, ?_⟩
  · unfold PtS ar
    rw [C.1.2.2.1, C.1.1, C.1.2.1, C.2.2.2.2 1 (by simp) 0, if_pos (by rw [a2.2.2]; omega), C.2.2.1 10 (by simp), C.2.2.1 11 (by simp)]
    exact ⟨a0, a1, a2, a3, a4, a5, b6, a7, a8, fun l => cyz (C.2.2.2.2 2 (by simp) l) (b9 l) (a9 l)⟩
  · have bg := V0.bg hq J0
    have ll := ls_le J0
    obtain ⟨-, n40, -⟩ := J0.n
    obtain ⟨v5, v6, v7, v8, v10, v11, vb, v9, vl⟩ := V0
    obtain ⟨w5, w6, w7, w8, w10, w11, wb, w9, wl⟩ := Vp
    unfold PtV
    rw [C.2.1 5 (by simp), C.2.1 6 (by simp), C.2.2.1 7 (by simp), C.2.2.1 8 (by simp), C.2.2.1 9 (by simp), C.2.2.1 10 (by simp), C.2.2.1 11 (by simp), e0, e1, e2, e3, e70, e90, Nn.c e1]
    refine ⟨v5, v6, w7, w8, w10, w11, fun b hb => ?_, by rw [w9, if_neg (by rw [u3]; decide), if_neg (by rw [u3]; decide)], fun z => by rw [u3] at z; exact absurd z (by decide)⟩
    have hb' : b < nP M0 q := hb
    obtain ⟨w1, w2, w3⟩ := vb b hb
    have ew : ∀ x, x < 41 → M (130 + 645 * q + 85 + x) = M0 (130 + 645 * q + 85 + x) := fun x hx => by
      have := ep (85 + x) (by omega) (by omega)
      rwa [← Nat.add_assoc] at this
    have el : M (130 + 645 * q + 125 + b) = M0 (130 + 645 * q + 125 + b) := by
      have := ep (125 + b) (by omega) (by omega)
      rwa [← Nat.add_assoc] at this
    rw [cy_at C (by simp) a2.2.2 (by omega), cy_at C (by simp) a2.2.2 (by omega), cy_at C (by simp) a3.2.2 (by omega), ew b (by omega), ew (b + 1) (by omega), el, Nn.c el]
    refine ⟨w1, w2, fun i hi => ?_⟩
    have e := bg b (by omega)
    have e2 := ll b (by omega)
    have i12 := (J0.bt hb').2.2.2.1
    have := ep (165 + 12 * b + i) (by omega) (by omega)
    rw [← Nat.add_assoc, ← Nat.add_assoc] at this
    rw [cy_at C (by simp) a1.2.2 (by rw [e, nCl (by omega)]; omega), this]
    exact w3 i hi
end
