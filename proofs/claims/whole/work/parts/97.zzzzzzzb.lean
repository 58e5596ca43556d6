/-! the law's loop: a call -/
section
variable {tg : Nat → List Nat} {h h' h1 h2 : Hp} {m k t : Nat → Int32} {i n f : Int32} {D : Nat → Prop} {N : Nat}
/-- writes of the reference and of the law -/
theorem CSt.rc (C : CSt tg h m k i t n f) (R : RS h) (F : Fr D h h') (hD : ∀ b, D b → 73 ≤ b ∧ b ≤ 109) : CSt tg h' m k i t n f := by
  obtain ⟨O, X, X2, S, V, Dk, DV, I, T, Im, Tr⟩ := C
  obtain ⟨t1, t2, t3, -, -, -, t19, t48, -⟩ := tgs O X
  have A : ∀ y, y < 1000 → Aw tg D y := fun y hy b hb => ⟨by have := hD b hb; omega, fun hs => nr O R (x := y) (by omega) (by omega) hs (hD b hb)⟩
  have n1 : ¬ D 1 := fun d => by have := hD 1 d; omega
  have n2 : ¬ D 2 := fun d => by have := hD 2 d; omega
  have e5 := sm3.fr (r := 19) O t3 F (A 5 (by omega)) (by omega) (by rw [t19]; exact List.suffix_refl _)
  have e6 := sm3.fr (r := 48) O t3 F (A 6 (by omega)) (by omega) (by rw [t48]; exact List.suffix_refl _)
  exact ⟨O.fr F, X.fr F, X2.fr O X F (A 3 (by omega)) (A 4 (by omega)), S.congr e5, V.congr e5, Dk.congr e6, DV.congr e6, I, T.fr F n1 n2, Im.fr O X F (A 9 (by omega)) (A 10 (by omega)), tr_fr Tr O X F (A 11 (by omega))⟩
/-- the state between two calls, N is what may have been made -/
def LSt (h : Hp) (N : Nat) : Prop := ∃ tg m k i t n f, CSt tg h m k i t n f ∧ RSt h m k i t n f ∧ 109 ≤ sz h ∧ mu h ≤ N
/-- a call on both sides -/
theorem pr_l {c : Nat → Nat} {X : Option ((Int32 ⊕ Nat) × Hp)} {Y : Hp → Option (Int32 × Hp)} (h9 : 109 ≤ sz h) (hN : mu h ≤ N) (P : Pr c Gm h X Y) (R0 : RS h) : ∃ o h1, X = some (o, h1) ∧ kd h1 73 = 11 ∧ kd h1 109 = 23 ∧ ln h1 109 = 1 ∧ ∀ h', Ou h1 h' → ∃ b h2, Y h' = some (b, h2) ∧ Ag c o b (gI h2 73 0) ∧ kd h2 73 = 11 ∧ kd h2 109 = 23 ∧ ln h2 109 = 1 ∧ gI h2 109 = gI h' 109 ∧ LSt h2 (N + 81) := by
  obtain ⟨o, h1, tg, m, k, i, t, n, f, hX, C, rp, ⟨g1, g2⟩, H⟩ := P
  have X1 := C.2.1.f
  have R1 : RS h1 := R0.of (fun b b1 b2 => (rp b b1 (by omega)).1) (fun b b1 b2 => (rp b b1 (by omega)).2.1) (rp 73 (by omega) (by omega)).2.2.2
  refine ⟨o, h1, hX, (RS.f R1).1, X1.2.2.2.2.2.2.2.2.2.2.2.2.2.2.2.2.2.2.1, X1.2.2.2.2.2.2.2.2.2.2.2.2.2.2.2.2.2.2.2, fun h' hO => ?_⟩
  obtain ⟨b, h2, e1, e2, e3, e4⟩ := H h' hO
  have F1 : Fr (fun b => b = 109) h1 h' := by
    rcases hO with rfl | ⟨x, rfl⟩
    · exact Fr.rfl
    · exact Fr.sI (S := fun b => b = 109) rfl
  have F2 : Fr (fun b => 73 ≤ b ∧ b ≤ 109) h1 h2 := (F1.mono (fun b z => by omega)).trans (e2.mono (fun b z => by unfold Rc at z; omega))
  have C2 := C.rc R1 F2 (fun b z => z)
  have X2 := C2.2.1.f
  refine ⟨b, h2, e1, e4, (RS.f e3.1).1, X2.2.2.2.2.2.2.2.2.2.2.2.2.2.2.2.2.2.2.1, X2.2.2.2.2.2.2.2.2.2.2.2.2.2.2.2.2.2.2.2, e2.2.2.2.2.2.2 109 (by unfold Rc; omega), tg, m, k, i, t, n, f, C2, e3, ?_, ?_⟩
  · rw [F2.2.2.2.1]
    omega
  · rw [mu_fr F2]
    omega
end
