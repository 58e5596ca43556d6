/-! writes that leave the rest alone -/
section
variable {tg : Nat → List Nat} {h h' : Hp} {m k t : Nat → Int32} {i n f : Int32} {D : Nat → Prop}
/-- no cell of D lies under x -/
def Aw (tg : Nat → List Nat) (D : Nat → Prop) (x : Nat) : Prop := ∀ b, D b → b ≠ 0 ∧ ¬ [x] <:+ tg b
theorem suf1 {x y : Nat} {l : List Nat} (h1 : [x] <:+ l) (h2 : [y] <:+ l) : x = y := by
  obtain ⟨a, rfl⟩ := h1
  obtain ⟨b, e⟩ := h2
  have := congrArg List.getLast? e
  simp at this
  exact this.symm
theorem Aw.of {x y : Nat} (hD : ∀ b, D b → b ≠ 0 ∧ [y] <:+ tg b) (hn : x ≠ y) : Aw tg D x := fun b hb => ⟨(hD b hb).1, fun z => hn (suf1 z (hD b hb).2)⟩
theorem Fr.sm (F : Fr D h h') {b : Nat} (hb : ¬ D b) : sm h h' b := ⟨by rw [F.1], by rw [F.2.1], F.2.2.2.2.2.2 b hb, by rw [F.2.2.1]⟩
theorem sm3.fr (O : Own tg h) (h3 : tg 3 = [3]) (F : Fr D h h') {x r : Nat} (A : Aw tg D x) (hx : x ≠ 3) (hr : [x] <:+ tg r) : sm3 h h' r := by
  have up : ∀ b j, Un tg [x] b → Un tg [x] (gP h b j) := fun b j u => by
    obtain ⟨-, -, -, o1, o2, -⟩ := O
    by_cases z : gP h b j = 0
    · exact Or.inl z
    · rcases u with rfl | u
      · exact absurd (o1 j) z
      · by_cases q : b = 3
        · subst q
          rw [h3] at u
          have := suf1 u (List.suffix_refl [3])
          exact absurd this hx
        · refine Or.inr ?_
          rw [o2 b j z (fun e => absurd e q)]
          exact u.trans (List.suffix_cons _ _)
  have H : ∀ b, Un tg [x] b → sm h h' b := fun b u => F.sm (fun z => by
    obtain ⟨z1, z2⟩ := A b z
    rcases u with u | u
    · exact z1 u
    · exact z2 u)
  have u0 : Un tg [x] r := Or.inr hr
  exact ⟨H _ u0, fun k => H _ (up _ k u0), fun k j => H _ (up _ j (up _ k u0)), fun k j i => H _ (up _ i (up _ j (up _ k u0)))⟩
theorem Own.fr (O : Own tg h) (F : Fr D h h') : Own tg h' := by
  unfold Own at O ⊢
  rw [F.2.2.1, F.2.2.2.1]
  exact O
theorem XS.fr (X : XS h) (F : Fr D h h') : XS h' := by
  unfold XS at X ⊢
  rw [F.1, F.2.1, F.2.2.1]
  exact X
theorem tgs (O : Own tg h) (X : XS h) : tg 1 = [] ∧ tg 2 = [0] ∧ tg 3 = [3] ∧ tg 4 = [4, 3] ∧ tg 5 = [5, 3] ∧ tg 13 = [4] ∧ tg 19 = [5] ∧ tg 48 = [6] ∧ tg 59 = [7] ∧ tg 68 = [8] := by
  obtain ⟨o0, -, -, -, o, -⟩ := O
  obtain ⟨-, x2, -, -, x3, -, -, x4, -, -, x5, x13, x19, x48, x59, -, x68, -⟩ := X
  have e : ∀ a j c, gP h a j = c → c ≠ 0 → (a = 3 → j ≠ 0) → tg c = j :: tg a := fun a j c e hc h0 => by
    have := o a j (by rw [e]; exact hc) h0
    rwa [e] at this
  have e3 := e 1 3 3 x3 (by omega) (by omega)
  rw [o0] at e3
  refine ⟨o0, ?_, e3, ?_, ?_, ?_, ?_, ?_, ?_, ?_⟩
  · rw [e 1 0 2 x2 (by omega) (by omega), o0]
  · rw [e 3 4 4 x4 (by omega) (by omega), e3]
  · rw [e 3 5 5 x5 (by omega) (by omega), e3]
  · rw [e 1 4 13 x13 (by omega) (by omega), o0]
  · rw [e 1 5 19 x19 (by omega) (by omega), o0]
  · rw [e 1 6 48 x48 (by omega) (by omega), o0]
  · rw [e 1 7 59 x59 (by omega) (by omega), o0]
  · rw [e 1 8 68 x68 (by omega) (by omega), o0]
theorem tgp (O : Own tg h) {j : Nat} (hz : gP h 1 j ≠ 0) : tg (gP h 1 j) = [j] := by
  rw [O.2.2.2.2.1 1 j hz (by omega), O.1]
/-- under its parent -/
theorem tgc (O : Own tg h) {a j : Nat} (hz : gP h a j ≠ 0) (ha : a ≠ 3) : tg (gP h a j) = j :: tg a := O.2.2.2.2.1 a j hz (fun z => absurd z ha)
/-- arrays alone: nothing of numbers -/
theorem ar.fr {a j c l : Nat} (A : ar h a j c l) (F : Fr D h h') : ar h' a j c l := by
  unfold ar at A ⊢
  rw [F.1, F.2.1, F.2.2.1]
  exact A
theorem XS2.fr (S : XS2 h) (O : Own tg h) (X : XS h) (F : Fr D h h') (A3 : Aw tg D 3) (A4 : Aw tg D 4) : XS2 h' := by
  obtain ⟨a1, a2, a3, a4, a5, a6, a7, a8, a9, a10, a11, a12, s5, s13⟩ := S
  obtain ⟨-, -, t3, -, t5, t13, -⟩ := tgs O X
  have o1 := O.2.2.2.1
  have up : ∀ a x j, a ≠ 3 → [x] <:+ tg a → (gP h a j = 0 ∨ [x] <:+ tg (gP h a j)) := fun a x j ha hx => by
    by_cases z : gP h a j = 0
    · exact Or.inl z
    · refine Or.inr ?_
      rw [tgc O z ha]
      exact hx.trans (List.suffix_cons _ _)
  have H : ∀ x, Aw tg D x → ∀ b, (b = 0 ∨ [x] <:+ tg b) → sm h h' b := fun x A b u => F.sm (fun z => by
    obtain ⟨z1, z2⟩ := A b z
    rcases u with u | u
    · exact z1 u
    · exact z2 u)
  refine ⟨a1.fr F, a2.fr F, a3.fr F, a4.fr F, a5.fr F, a6.fr F, a7.fr F, a8.fr F, a9.fr F, a10.fr F, a11.fr F, a12.fr F, s5.congr ?_ ?_, s13.congr ?_ ?_⟩
  · exact H 3 A3 5 (Or.inr (by rw [t5]; exact List.suffix_cons _ _))
  · exact fun j => H 3 A3 _ (up 5 3 j (by omega) (by rw [t5]; exact List.suffix_cons _ _))
  · exact H 4 A4 13 (Or.inr (by rw [t13]; exact List.suffix_refl _))
  · exact fun j => H 4 A4 _ (up 13 4 j (by omega) (by rw [t13]; exact List.suffix_refl _))
theorem Img.fr (S : Img h k i) (O : Own tg h) (X : XS h) (F : Fr D h h') (A9 : Aw tg D 9) (A10 : Aw tg D 10) : Img h' k i := by
  have t3 := (tgs O X).2.2.1
  unfold Img at S ⊢
  rw [F.2.2.1]
  rcases S with S | ⟨a0, a1, a2, a3, a4, a5, a6, a7⟩
  · exact Or.inl S
  · have e1 := sm3.fr (r := gP h 1 9) O t3 F A9 (by omega) (by rw [tgp O a1]; exact List.suffix_refl _)
    have e2 := sm3.fr (r := gP h 1 10) O t3 F A10 (by omega) (by rw [tgp O a2]; exact List.suffix_refl _)
    exact Or.inr ⟨a0, a1, a2, a3.congr e1, a4.congr e1, a5.congr e2, a6.congr e2, a7⟩
theorem tr_fr (S : gP h 1 11 ≠ 0 → RmS h (gP h 1 11)) (O : Own tg h) (X : XS h) (F : Fr D h h') (A : Aw tg D 11) : gP h' 1 11 ≠ 0 → RmS h' (gP h' 1 11) := by
  have t3 := (tgs O X).2.2.1
  rw [F.2.2.1]
  intro z
  exact (S z).congr (sm3.fr O t3 F A (by omega) (by rw [tgp O z]; exact List.suffix_refl _))
theorem TpV.fr (S : TpV h t n f) (F : Fr D h h') (h1 : ¬ D 1) (h2 : ¬ D 2) : TpV h' t n f := by
  unfold TpV at S ⊢
  rw [F.2.2.2.2.2.2 1 h1, F.2.2.2.2.2.2 2 h2]
  exact S
/-- writes on the desk -/
theorem CSt.desk {m' : Nat → Int32} (C : CSt tg h m k i t n f) (F : Fr D h h') (hD : ∀ b, D b → b ≠ 0 ∧ [6] <:+ tg b) (DS : DkS h' 48) (DV : DkV h' 48 m') (I' : MI m') (H : ∀ x, rgRm x → m' x = m x) : CSt tg h' m' k i t n f := by
  obtain ⟨O, X, X2, S, V, -, -, I, T, Im, Tr⟩ := C
  obtain ⟨t1, t2, t3, -, -, -, t19, -⟩ := tgs O X
  have A : ∀ x, x ≠ 6 → Aw tg D x := fun x hx => Aw.of hD hx
  have e5 := sm3.fr (r := 19) O t3 F (A 5 (by omega)) (by omega) (by rw [t19]; exact List.suffix_refl _)
  refine ⟨O.fr F, X.fr F, X2.fr O X F (A 3 (by omega)) (A 4 (by omega)), S.congr e5, (V.congr e5).mc H I, DS, DV, I', T.fr F (fun z => ?_) (fun z => ?_), Im.fr O X F (A 9 (by omega)) (A 10 (by omega)), tr_fr Tr O X F (A 11 (by omega))⟩
  · have := (hD 1 z).2
    rw [t1] at this
    exact absurd this (by simp)
  · have := (hD 2 z).2
    rw [t2] at this
    exact absurd (suf1 this (List.suffix_refl _)) (by omega)
/-- writes at the tape and the two numbers beside it -/
theorem CSt.tape {t' : Nat → Int32} {n' f' : Int32} (C : CSt tg h m k i t n f) (F : Fr (fun b => b = 1 ∨ b = 2) h h') (T' : TpV h' t' n' f') : CSt tg h' m k i t' n' f' := by
  obtain ⟨O, X, X2, S, V, D, DV, I, T, Im, Tr⟩ := C
  obtain ⟨t1, t2, t3, -, -, -, t19, t48, -⟩ := tgs O X
  have A : ∀ x, x ≠ 0 → Aw tg (fun b => b = 1 ∨ b = 2) x := fun x hx b hb => by
    rcases hb with rfl | rfl
    · exact ⟨by omega, by rw [t1]; simp⟩
    · exact ⟨by omega, by rw [t2]; exact fun z => hx (suf1 z (List.suffix_refl _))⟩
  have e5 := sm3.fr (r := 19) O t3 F (A 5 (by omega)) (by omega) (by rw [t19]; exact List.suffix_refl _)
  have e6 := sm3.fr (r := 48) O t3 F (A 6 (by omega)) (by omega) (by rw [t48]; exact List.suffix_refl _)
  exact ⟨O.fr F, X.fr F, X2.fr O X F (A 3 (by omega)) (A 4 (by omega)), S.congr e5, V.congr e5, D.congr e6, DV.congr e6, I, T', Im.fr O X F (A 9 (by omega)) (A 10 (by omega)), tr_fr Tr O X F (A 11 (by omega))⟩
/-- writes in the room -/
theorem CSt.room {m' : Nat → Int32} (C : CSt tg h m k i t n f) (F : Fr D h h') (hD : ∀ b, D b → b ≠ 0 ∧ [5] <:+ tg b) (RS : RmS h' 19) (RV : RmV h' 19 m') (I' : MI m') (H : ∀ x, rgDk x → m' x = m x) : CSt tg h' m' k i t n f := by
  obtain ⟨O, X, X2, -, -, D0, DV, I, T, Im, Tr⟩ := C
  obtain ⟨t1, t2, t3, -, -, -, t19, t48, -⟩ := tgs O X
  have A : ∀ x, x ≠ 5 → Aw tg D x := fun x hx => Aw.of hD hx
  have e6 := sm3.fr (r := 48) O t3 F (A 6 (by omega)) (by omega) (by rw [t48]; exact List.suffix_refl _)
  refine ⟨O.fr F, X.fr F, X2.fr O X F (A 3 (by omega)) (A 4 (by omega)), RS, RV, D0.congr e6, (DV.congr e6).mc H I.1 I.2.2.2.2.1, I', T.fr F (fun z => ?_) (fun z => ?_), Im.fr O X F (A 9 (by omega)) (A 10 (by omega)), tr_fr Tr O X F (A 11 (by omega))⟩
  · have := (hD 1 z).2
    rw [t1] at this
    exact absurd this (by simp)
  · have := (hD 2 z).2
    rw [t2] at this
    exact absurd (suf1 this (List.suffix_refl _)) (by omega)
theorem Fr.rp (F : Fr D h h') (hD : ∀ b, D b → ¬ (73 ≤ b ∧ b ≤ 109)) : Rp h h' := fun b h1 h2 => F.sm (fun z => hD b z ⟨h1, h2⟩)
theorem Fr.gq (F : Fr D h h') : Gq h h' := ⟨F.2.1, F.2.2.1, by rw [F.2.2.2.2.1]; exact Nat.le_refl _, by rw [F.2.2.2.2.1]; omega, by rw [F.2.2.2.2.2.1]; exact Nat.le_refl _, by rw [F.2.2.2.2.2.1]; omega, F.2.2.2.1⟩
end
