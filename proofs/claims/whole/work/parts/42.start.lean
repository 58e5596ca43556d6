/-! THE LAW'S ENTRY: what the Statement gives of the start, as the world of cells has it; the claim out of ML_law -/
theorem anL {a b : Cond} {args : Array Value} {s : State} (h : (Cond.and a b).before args s = true) : a.before args s = true := ((Bool.and_eq_true _ _).mp ((Cond.before_and a b).symm.trans h)).1
theorem anR {a b : Cond} {args : Array Value} {s : State} (h : (Cond.and a b).before args s = true) : b.before args s = true := ((Bool.and_eq_true _ _).mp ((Cond.before_and a b).symm.trans h)).2
def St1 (A : Nat → Prop) (args : Array Value) (s : State) (tm : Term) (n : Nat) (bs : List Int32) (k v : Nat) : Prop := tm.eval args s none [] s = some (.ref k) ∧ va_O "java/lang/String" k A s s.heap ∧ va_OF "java/lang/String" "coder" "B" (.int 0) k A s s.heap ∧ va_OF "java/lang/String" "value" "[B" (.ref v) k A s s.heap ∧ va_T .byte v n (fun j => .int (bs.getD j 0)) A s s.heap
theorem st_one {args : Array Value} {s : State} {A : Nat → Prop} (tm : Term) (n : Nat) (bs : List Int32) (hn : n < 2 ^ 31) (hex : (Cond.exactly tm "java/lang/String").before args s = true) (hco : (Cond.eq (.field tm "java/lang/String" "coder" "B") (.int 0)).before args s = true)
    (har : (Cond.arrayOf (.field tm "java/lang/String" "value" "[B") .byte).before args s = true) (hle : (Cond.eq (.length (.field tm "java/lang/String" "value" "[B")) (.int (Int32.ofNat n))).before args s = true)
    (hel : ∀ j : Nat, j < n → (Cond.eq (.elem (.field tm "java/lang/String" "value" "[B") (.int (Int32.ofNat j))) (.int (bs.getD j 0))).before args s = true) (hA : ∀ a : Nat, a < s.heap.size → ¬ A a) : ∃ q : Nat × Nat, St1 A args s tm n bs q.1 q.2 := by
  obtain ⟨ad, av, h1, h2⟩ := vk_Sof (N := 1) (tm := fun _ => tm) (len := [n]) (byt := [bs]) (A := A) (fun i hi => by match i, hi with | 0, _ => exact hn) (fun i _ => hex) (fun i _ => hco) (fun i _ => har) (fun i hi => by match i, hi with | 0, _ => exact hle) (fun i hi => by match i, hi with | 0, _ => exact hel) (fun i j hi hj hij => by omega) hA
  have z := h1.1 0 (by omega)
  exact ⟨(ad 0, av 0), h2 0 (by omega), z⟩
theorem eq_ref {args : Array Value} {s : State} {x y : Term} {a : Nat} (h : (Cond.eq x y).before args s = true) (hx : x.eval args s none [] s = some (.ref a)) : y.eval args s none [] s = some (.ref a) := by
  cases hy : y.eval args s none [] s with
  | none => simp [Cond.before, Cond.holds, Cond.value, hx, hy] at h
  | some w =>
    simp only [Cond.before, Cond.holds, Cond.value, hx, hy] at h
    cases w <;> simp_all
def sTm : List Nat := [115, 102, 134, 94, 130, 136, 84, 88, 126, 72, 128, 140, 142, 62, 138, 117, 106, 82, 86, 77, 132]
theorem st_0 {args : Array Value} {s : State} {A : Nat → Prop} (h : (Cond.and given_1 narrow_1).before args s = true) (hA : ∀ a : Nat, a < s.heap.size → ¬ A a) : ∃ q : Nat × Nat, St1 A args s (.string "LeadRoom$StyleReader" 115) 3 [97, 110, 100] q.1 q.2 :=
  st_one (.string "LeadRoom$StyleReader" 115) 3 [97, 110, 100] (by decide) (anR (anR (anL (anL (anL (anL (anL (anL (anR (anR h)))))))))) (anL (anL (anR (anL (anL (anL (anL (anL (anR (anR h)))))))))) (anR (anL (anR (anL (anL (anL (anL (anL (anR (anR h)))))))))) (anL (anR (anR (anL (anL (anL (anL (anL (anR (anR h)))))))))) (fun j hj => match j, hj with | 0, _ => (anR (anR (anR (anL (anL (anL (anL (anL (anR (anR h)))))))))) | 1, _ => (anL (anL (anL (anR (anL (anL (anL (anL (anR (anR h)))))))))) | 2, _ => (anR (anL (anL (anR (anL (anL (anL (anL (anR (anR h)))))))))) | j + 3, hz => absurd hz (by omega)) hA
theorem st_1 {args : Array Value} {s : State} {A : Nat → Prop} (h : (Cond.and given_1 narrow_1).before args s = true) (hA : ∀ a : Nat, a < s.heap.size → ¬ A a) : ∃ q : Nat × Nat, St1 A args s (.string "LeadRoom$StyleReader" 102) 2 [97, 116] q.1 q.2 :=
  st_one (.string "LeadRoom$StyleReader" 102) 2 [97, 116] (by decide) (anL (anR (anR (anR (anR (anR (anR (anL (anL (anR (anR h))))))))))) (anR (anR (anR (anR (anR (anR (anR (anL (anL (anR (anR h))))))))))) (anL (anL (anL (anL (anL (anL (anR (anL (anR (anR h)))))))))) (anR (anL (anL (anL (anL (anL (anR (anL (anR (anR h)))))))))) (fun j hj => match j, hj with | 0, _ => (anL (anR (anL (anL (anL (anL (anR (anL (anR (anR h)))))))))) | 1, _ => (anR (anR (anL (anL (anL (anL (anR (anL (anR (anR h)))))))))) | j + 2, hz => absurd hz (by omega)) hA
theorem st_2 {args : Array Value} {s : State} {A : Nat → Prop} (h : (Cond.and given_1 narrow_1).before args s = true) (hA : ∀ a : Nat, a < s.heap.size → ¬ A a) : ∃ q : Nat × Nat, St1 A args s (.string "LeadRoom$StyleReader" 134) 4 [98, 105, 116, 115] q.1 q.2 :=
  st_one (.string "LeadRoom$StyleReader" 134) 4 [98, 105, 116, 115] (by decide) (anR (anR (anR (anL (anR (anL (anR (anR (anL (anR h)))))))))) (anL (anL (anL (anR (anR (anL (anR (anR (anL (anR h)))))))))) (anR (anL (anL (anR (anR (anL (anR (anR (anL (anR h)))))))))) (anL (anR (anL (anR (anR (anL (anR (anR (anL (anR h)))))))))) (fun j hj => match j, hj with | 0, _ => (anR (anR (anL (anR (anR (anL (anR (anR (anL (anR h)))))))))) | 1, _ => (anL (anL (anR (anR (anR (anL (anR (anR (anL (anR h)))))))))) | 2, _ => (anR (anL (anR (anR (anR (anL (anR (anR (anL (anR h)))))))))) | 3, _ => (anL (anR (anR (anR (anR (anL (anR (anR (anL (anR h)))))))))) | j + 4, hz => absurd hz (by omega)) hA
theorem st_3 {args : Array Value} {s : State} {A : Nat → Prop} (h : (Cond.and given_1 narrow_1).before args s = true) (hA : ∀ a : Nat, a < s.heap.size → ¬ A a) : ∃ q : Nat × Nat, St1 A args s (.string "LeadRoom$StyleReader" 94) 5 [99, 108, 111, 115, 101] q.1 q.2 :=
  st_one (.string "LeadRoom$StyleReader" 94) 5 [99, 108, 111, 115, 101] (by decide) (anL (anR (anR (anL (anR (anR (anL (anL (anR (anR h)))))))))) (anR (anR (anR (anL (anR (anR (anL (anL (anR (anR h)))))))))) (anL (anL (anL (anR (anR (anR (anL (anL (anR (anR h)))))))))) (anR (anL (anL (anR (anR (anR (anL (anL (anR (anR h)))))))))) (fun j hj => match j, hj with | 0, _ => (anL (anR (anL (anR (anR (anR (anL (anL (anR (anR h)))))))))) | 1, _ => (anR (anR (anL (anR (anR (anR (anL (anL (anR (anR h)))))))))) | 2, _ => (anL (anL (anR (anR (anR (anR (anL (anL (anR (anR h)))))))))) | 3, _ => (anR (anL (anR (anR (anR (anR (anL (anL (anR (anR h)))))))))) | 4, _ => (anL (anR (anR (anR (anR (anR (anL (anL (anR (anR h)))))))))) | j + 5, hz => absurd hz (by omega)) hA
theorem st_4 {args : Array Value} {s : State} {A : Nat → Prop} (h : (Cond.and given_1 narrow_1).before args s = true) (hA : ∀ a : Nat, a < s.heap.size → ¬ A a) : ∃ q : Nat × Nat, St1 A args s (.string "LeadRoom$StyleReader" 130) 9 [99, 111, 114, 114, 101, 99, 116, 101, 100] q.1 q.2 :=
  st_one (.string "LeadRoom$StyleReader" 130) 9 [99, 111, 114, 114, 101, 99, 116, 101, 100] (by decide) (anR (anL (anL (anL (anL (anL (anR (anR (anL (anR h)))))))))) (anL (anR (anL (anL (anL (anL (anR (anR (anL (anR h)))))))))) (anR (anR (anL (anL (anL (anL (anR (anR (anL (anR h)))))))))) (anL (anL (anR (anL (anL (anL (anR (anR (anL (anR h)))))))))) (fun j hj => match j, hj with | 0, _ => (anR (anL (anR (anL (anL (anL (anR (anR (anL (anR h)))))))))) | 1, _ => (anL (anR (anR (anL (anL (anL (anR (anR (anL (anR h)))))))))) | 2, _ => (anR (anR (anR (anL (anL (anL (anR (anR (anL (anR h)))))))))) | 3, _ => (anL (anL (anL (anR (anL (anL (anR (anR (anL (anR h)))))))))) | 4, _ => (anR (anL (anL (anR (anL (anL (anR (anR (anL (anR h)))))))))) | 5, _ => (anL (anR (anL (anR (anL (anL (anR (anR (anL (anR h)))))))))) | 6, _ => (anR (anR (anL (anR (anL (anL (anR (anR (anL (anR h)))))))))) | 7, _ => (anL (anL (anR (anR (anL (anL (anR (anR (anL (anR h)))))))))) | 8, _ => (anR (anL (anR (anR (anL (anL (anR (anR (anL (anR h)))))))))) | j + 9, hz => absurd hz (by omega)) hA
theorem st_5 {args : Array Value} {s : State} {A : Nat → Prop} (h : (Cond.and given_1 narrow_1).before args s = true) (hA : ∀ a : Nat, a < s.heap.size → ¬ A a) : ∃ q : Nat × Nat, St1 A args s (.string "LeadRoom$StyleReader" 136) 3 [100, 117, 101] q.1 q.2 :=
  st_one (.string "LeadRoom$StyleReader" 136) 3 [100, 117, 101] (by decide) (anL (anR (anR (anR (anR (anR (anL (anR (anR (anL (anR h))))))))))) (anR (anR (anR (anR (anR (anR (anL (anR (anR (anL (anR h))))))))))) (anL (anL (anL (anL (anL (anR (anR (anR (anL (anR h)))))))))) (anR (anL (anL (anL (anL (anR (anR (anR (anL (anR h)))))))))) (fun j hj => match j, hj with | 0, _ => (anL (anR (anL (anL (anL (anR (anR (anR (anL (anR h)))))))))) | 1, _ => (anR (anR (anL (anL (anL (anR (anR (anR (anL (anR h)))))))))) | 2, _ => (anL (anL (anR (anL (anL (anR (anR (anR (anL (anR h)))))))))) | j + 3, hz => absurd hz (by omega)) hA
theorem st_6 {args : Array Value} {s : State} {A : Nat → Prop} (h : (Cond.and given_1 narrow_1).before args s = true) (hA : ∀ a : Nat, a < s.heap.size → ¬ A a) : ∃ q : Nat × Nat, St1 A args s (.string "LeadRoom$StyleReader" 84) 3 [102, 97, 116] q.1 q.2 :=
  st_one (.string "LeadRoom$StyleReader" 84) 3 [102, 97, 116] (by decide) (anL (anL (anL (anL (anL (anR (anL (anL (anR (anR h)))))))))) (anR (anL (anL (anL (anL (anR (anL (anL (anR (anR h)))))))))) (anL (anR (anL (anL (anL (anR (anL (anL (anR (anR h)))))))))) (anR (anR (anL (anL (anL (anR (anL (anL (anR (anR h)))))))))) (fun j hj => match j, hj with | 0, _ => (anL (anL (anR (anL (anL (anR (anL (anL (anR (anR h)))))))))) | 1, _ => (anR (anL (anR (anL (anL (anR (anL (anL (anR (anR h)))))))))) | 2, _ => (anL (anR (anR (anL (anL (anR (anL (anL (anR (anR h)))))))))) | j + 3, hz => absurd hz (by omega)) hA
theorem st_7 {args : Array Value} {s : State} {A : Nat → Prop} (h : (Cond.and given_1 narrow_1).before args s = true) (hA : ∀ a : Nat, a < s.heap.size → ¬ A a) : ∃ q : Nat × Nat, St1 A args s (.string "LeadRoom$StyleReader" 88) 4 [102, 114, 101, 101] q.1 q.2 :=
  st_one (.string "LeadRoom$StyleReader" 88) 4 [102, 114, 101, 101] (by decide) (anL (anR (anR (anR (anL (anR (anL (anL (anR (anR h)))))))))) (anR (anR (anR (anR (anL (anR (anL (anL (anR (anR h)))))))))) (anL (anL (anL (anL (anR (anR (anL (anL (anR (anR h)))))))))) (anR (anL (anL (anL (anR (anR (anL (anL (anR (anR h)))))))))) (fun j hj => match j, hj with | 0, _ => (anL (anR (anL (anL (anR (anR (anL (anL (anR (anR h)))))))))) | 1, _ => (anR (anR (anL (anL (anR (anR (anL (anL (anR (anR h)))))))))) | 2, _ => (anL (anL (anR (anL (anR (anR (anL (anL (anR (anR h)))))))))) | 3, _ => (anR (anL (anR (anL (anR (anR (anL (anL (anR (anR h)))))))))) | j + 4, hz => absurd hz (by omega)) hA
theorem st_8 {args : Array Value} {s : State} {A : Nat → Prop} (h : (Cond.and given_1 narrow_1).before args s = true) (hA : ∀ a : Nat, a < s.heap.size → ¬ A a) : ∃ q : Nat × Nat, St1 A args s (.string "LeadRoom$StyleReader" 126) 4 [104, 101, 97, 100] q.1 q.2 :=
  st_one (.string "LeadRoom$StyleReader" 126) 4 [104, 101, 97, 100] (by decide) (anL (anR (anL (anL (anR (anR (anL (anR (anL (anR h)))))))))) (anR (anR (anL (anL (anR (anR (anL (anR (anL (anR h)))))))))) (anL (anL (anR (anL (anR (anR (anL (anR (anL (anR h)))))))))) (anR (anL (anR (anL (anR (anR (anL (anR (anL (anR h)))))))))) (fun j hj => match j, hj with | 0, _ => (anL (anR (anR (anL (anR (anR (anL (anR (anL (anR h)))))))))) | 1, _ => (anR (anR (anR (anL (anR (anR (anL (anR (anL (anR h)))))))))) | 2, _ => (anL (anL (anL (anR (anR (anR (anL (anR (anL (anR h)))))))))) | 3, _ => (anR (anL (anL (anR (anR (anR (anL (anR (anL (anR h)))))))))) | j + 4, hz => absurd hz (by omega)) hA
theorem st_9 {args : Array Value} {s : State} {A : Nat → Prop} (h : (Cond.and given_1 narrow_1).before args s = true) (hA : ∀ a : Nat, a < s.heap.size → ¬ A a) : ∃ q : Nat × Nat, St1 A args s (.string "LeadRoom$StyleReader" 72) 2 [105, 102] q.1 q.2 :=
  st_one (.string "LeadRoom$StyleReader" 72) 2 [105, 102] (by decide) (anL (anR (anR (anL (anL (anR (anL (anR (anL (anR h)))))))))) (anR (anR (anR (anL (anL (anR (anL (anR (anL (anR h)))))))))) (anL (anL (anL (anR (anL (anR (anL (anR (anL (anR h)))))))))) (anR (anL (anL (anR (anL (anR (anL (anR (anL (anR h)))))))))) (fun j hj => match j, hj with | 0, _ => (anL (anR (anL (anR (anL (anR (anL (anR (anL (anR h)))))))))) | 1, _ => (anR (anR (anL (anR (anL (anR (anL (anR (anL (anR h)))))))))) | j + 2, hz => absurd hz (by omega)) hA
theorem st_10 {args : Array Value} {s : State} {A : Nat → Prop} (h : (Cond.and given_1 narrow_1).before args s = true) (hA : ∀ a : Nat, a < s.heap.size → ¬ A a) : ∃ q : Nat × Nat, St1 A args s (.string "LeadRoom$StyleReader" 128) 4 [108, 97, 116, 101] q.1 q.2 :=
  st_one (.string "LeadRoom$StyleReader" 128) 4 [108, 97, 116, 101] (by decide) (anL (anR (anL (anR (anR (anR (anL (anR (anL (anR h)))))))))) (anR (anR (anL (anR (anR (anR (anL (anR (anL (anR h)))))))))) (anL (anL (anR (anR (anR (anR (anL (anR (anL (anR h)))))))))) (anR (anL (anR (anR (anR (anR (anL (anR (anL (anR h)))))))))) (fun j hj => match j, hj with | 0, _ => (anL (anR (anR (anR (anR (anR (anL (anR (anL (anR h)))))))))) | 1, _ => (anL (anR (anR (anR (anR (anR (anR (anL (anR (anL (anR h))))))))))) | 2, _ => (anR (anR (anR (anR (anR (anR (anR (anL (anR (anL (anR h))))))))))) | 3, _ => (anL (anL (anL (anL (anL (anL (anR (anR (anL (anR h)))))))))) | j + 4, hz => absurd hz (by omega)) hA
theorem st_11 {args : Array Value} {s : State} {A : Nat → Prop} (h : (Cond.and given_1 narrow_1).before args s = true) (hA : ∀ a : Nat, a < s.heap.size → ¬ A a) : ∃ q : Nat × Nat, St1 A args s (.string "LeadRoom$StyleReader" 140) 7 [108, 101, 116, 116, 101, 114, 115] q.1 q.2 :=
  st_one (.string "LeadRoom$StyleReader" 140) 7 [108, 101, 116, 116, 101, 114, 115] (by decide) (anL (anR (anR (anR (anR (anL (anR (anR (anR (anL (anR h))))))))))) (anR (anR (anR (anR (anR (anL (anR (anR (anR (anL (anR h))))))))))) (anL (anL (anL (anL (anR (anR (anR (anR (anL (anR h)))))))))) (anR (anL (anL (anL (anR (anR (anR (anR (anL (anR h)))))))))) (fun j hj => match j, hj with | 0, _ => (anL (anR (anL (anL (anR (anR (anR (anR (anL (anR h)))))))))) | 1, _ => (anR (anR (anL (anL (anR (anR (anR (anR (anL (anR h)))))))))) | 2, _ => (anL (anL (anR (anL (anR (anR (anR (anR (anL (anR h)))))))))) | 3, _ => (anR (anL (anR (anL (anR (anR (anR (anR (anL (anR h)))))))))) | 4, _ => (anL (anR (anR (anL (anR (anR (anR (anR (anL (anR h)))))))))) | 5, _ => (anR (anR (anR (anL (anR (anR (anR (anR (anL (anR h)))))))))) | 6, _ => (anL (anL (anL (anR (anR (anR (anR (anR (anL (anR h)))))))))) | j + 7, hz => absurd hz (by omega)) hA
theorem st_12 {args : Array Value} {s : State} {A : Nat → Prop} (h : (Cond.and given_1 narrow_1).before args s = true) (hA : ∀ a : Nat, a < s.heap.size → ¬ A a) : ∃ q : Nat × Nat, St1 A args s (.string "LeadRoom$StyleReader" 142) 7 [109, 97, 99, 104, 105, 110, 101] q.1 q.2 :=
  st_one (.string "LeadRoom$StyleReader" 142) 7 [109, 97, 99, 104, 105, 110, 101] (by decide) (anR (anL (anL (anR (anR (anR (anR (anR (anL (anR h)))))))))) (anL (anR (anL (anR (anR (anR (anR (anR (anL (anR h)))))))))) (anR (anR (anL (anR (anR (anR (anR (anR (anL (anR h)))))))))) (anL (anL (anR (anR (anR (anR (anR (anR (anL (anR h)))))))))) (fun j hj => match j, hj with | 0, _ => (anR (anL (anR (anR (anR (anR (anR (anR (anL (anR h)))))))))) | 1, _ => (anL (anR (anR (anR (anR (anR (anR (anR (anL (anR h)))))))))) | 2, _ => (anL (anR (anR (anR (anR (anR (anR (anR (anR (anL (anR h))))))))))) | 3, _ => (anR (anR (anR (anR (anR (anR (anR (anR (anR (anL (anR h))))))))))) | 4, _ => (anL (anL (anL (anL (anL (anL (anL (anL (anR (anR h)))))))))) | 5, _ => (anR (anL (anL (anL (anL (anL (anL (anL (anR (anR h)))))))))) | 6, _ => (anL (anR (anL (anL (anL (anL (anL (anL (anR (anR h)))))))))) | j + 7, hz => absurd hz (by omega)) hA
theorem st_13 {args : Array Value} {s : State} {A : Nat → Prop} (h : (Cond.and given_1 narrow_1).before args s = true) (hA : ∀ a : Nat, a < s.heap.size → ¬ A a) : ∃ q : Nat × Nat, St1 A args s (.string "LeadRoom$StyleReader" 62) 7 [109, 101, 97, 115, 117, 114, 101] q.1 q.2 :=
  st_one (.string "LeadRoom$StyleReader" 62) 7 [109, 101, 97, 115, 117, 114, 101] (by decide) (anL (anL (anR (anR (anR (anL (anL (anR (anL (anR h)))))))))) (anR (anL (anR (anR (anR (anL (anL (anR (anL (anR h)))))))))) (anL (anR (anR (anR (anR (anL (anL (anR (anL (anR h)))))))))) (anL (anR (anR (anR (anR (anR (anL (anL (anR (anL (anR h))))))))))) (fun j hj => match j, hj with | 0, _ => (anR (anR (anR (anR (anR (anR (anL (anL (anR (anL (anR h))))))))))) | 1, _ => (anL (anL (anL (anL (anL (anR (anL (anR (anL (anR h)))))))))) | 2, _ => (anR (anL (anL (anL (anL (anR (anL (anR (anL (anR h)))))))))) | 3, _ => (anL (anR (anL (anL (anL (anR (anL (anR (anL (anR h)))))))))) | 4, _ => (anR (anR (anL (anL (anL (anR (anL (anR (anL (anR h)))))))))) | 5, _ => (anL (anL (anR (anL (anL (anR (anL (anR (anL (anR h)))))))))) | 6, _ => (anR (anL (anR (anL (anL (anR (anL (anR (anL (anR h)))))))))) | j + 7, hz => absurd hz (by omega)) hA
theorem st_14 {args : Array Value} {s : State} {A : Nat → Prop} (h : (Cond.and given_1 narrow_1).before args s = true) (hA : ∀ a : Nat, a < s.heap.size → ¬ A a) : ∃ q : Nat × Nat, St1 A args s (.string "LeadRoom$StyleReader" 138) 6 [109, 105, 110, 117, 116, 101] q.1 q.2 :=
  st_one (.string "LeadRoom$StyleReader" 138) 6 [109, 105, 110, 117, 116, 101] (by decide) (anR (anL (anR (anL (anL (anR (anR (anR (anL (anR h)))))))))) (anL (anR (anR (anL (anL (anR (anR (anR (anL (anR h)))))))))) (anR (anR (anR (anL (anL (anR (anR (anR (anL (anR h)))))))))) (anL (anL (anL (anR (anL (anR (anR (anR (anL (anR h)))))))))) (fun j hj => match j, hj with | 0, _ => (anR (anL (anL (anR (anL (anR (anR (anR (anL (anR h)))))))))) | 1, _ => (anL (anR (anL (anR (anL (anR (anR (anR (anL (anR h)))))))))) | 2, _ => (anR (anR (anL (anR (anL (anR (anR (anR (anL (anR h)))))))))) | 3, _ => (anL (anL (anR (anR (anL (anR (anR (anR (anL (anR h)))))))))) | 4, _ => (anR (anL (anR (anR (anL (anR (anR (anR (anL (anR h)))))))))) | 5, _ => (anL (anR (anR (anR (anL (anR (anR (anR (anL (anR h)))))))))) | j + 6, hz => absurd hz (by omega)) hA
theorem st_15 {args : Array Value} {s : State} {A : Nat → Prop} (h : (Cond.and given_1 narrow_1).before args s = true) (hA : ∀ a : Nat, a < s.heap.size → ¬ A a) : ∃ q : Nat × Nat, St1 A args s (.string "LeadRoom$StyleReader" 117) 3 [110, 111, 116] q.1 q.2 :=
  st_one (.string "LeadRoom$StyleReader" 117) 3 [110, 111, 116] (by decide) (anL (anL (anR (anR (anL (anR (anL (anR (anL (anR h)))))))))) (anR (anL (anR (anR (anL (anR (anL (anR (anL (anR h)))))))))) (anL (anR (anR (anR (anL (anR (anL (anR (anL (anR h)))))))))) (anL (anR (anR (anR (anR (anL (anR (anL (anR (anL (anR h))))))))))) (fun j hj => match j, hj with | 0, _ => (anR (anR (anR (anR (anR (anL (anR (anL (anR (anL (anR h))))))))))) | 1, _ => (anL (anL (anL (anL (anR (anR (anL (anR (anL (anR h)))))))))) | 2, _ => (anR (anL (anL (anL (anR (anR (anL (anR (anL (anR h)))))))))) | j + 3, hz => absurd hz (by omega)) hA
theorem st_16 {args : Array Value} {s : State} {A : Nat → Prop} (h : (Cond.and given_1 narrow_1).before args s = true) (hA : ∀ a : Nat, a < s.heap.size → ¬ A a) : ∃ q : Nat × Nat, St1 A args s (.string "LeadRoom$StyleReader" 106) 2 [111, 114] q.1 q.2 :=
  st_one (.string "LeadRoom$StyleReader" 106) 2 [111, 114] (by decide) (anL (anR (anL (anR (anL (anL (anL (anL (anR (anR h)))))))))) (anR (anR (anL (anR (anL (anL (anL (anL (anR (anR h)))))))))) (anL (anL (anR (anR (anL (anL (anL (anL (anR (anR h)))))))))) (anR (anL (anR (anR (anL (anL (anL (anL (anR (anR h)))))))))) (fun j hj => match j, hj with | 0, _ => (anL (anR (anR (anR (anL (anL (anL (anL (anR (anR h)))))))))) | 1, _ => (anR (anR (anR (anR (anL (anL (anL (anL (anR (anR h)))))))))) | j + 2, hz => absurd hz (by omega)) hA
theorem st_17 {args : Array Value} {s : State} {A : Nat → Prop} (h : (Cond.and given_1 narrow_1).before args s = true) (hA : ∀ a : Nat, a < s.heap.size → ¬ A a) : ∃ q : Nat × Nat, St1 A args s (.string "LeadRoom$StyleReader" 82) 4 [112, 97, 114, 116] q.1 q.2 :=
  st_one (.string "LeadRoom$StyleReader" 82) 4 [112, 97, 114, 116] (by decide) (anR (anL (anL (anR (anR (anL (anL (anL (anR (anR h)))))))))) (anL (anR (anL (anR (anR (anL (anL (anL (anR (anR h)))))))))) (anR (anR (anL (anR (anR (anL (anL (anL (anR (anR h)))))))))) (anL (anL (anR (anR (anR (anL (anL (anL (anR (anR h)))))))))) (fun j hj => match j, hj with | 0, _ => (anR (anL (anR (anR (anR (anL (anL (anL (anR (anR h)))))))))) | 1, _ => (anL (anR (anR (anR (anR (anL (anL (anL (anR (anR h)))))))))) | 2, _ => (anL (anR (anR (anR (anR (anR (anL (anL (anL (anR (anR h))))))))))) | 3, _ => (anR (anR (anR (anR (anR (anR (anL (anL (anL (anR (anR h))))))))))) | j + 4, hz => absurd hz (by omega)) hA
theorem st_18 {args : Array Value} {s : State} {A : Nat → Prop} (h : (Cond.and given_1 narrow_1).before args s = true) (hA : ∀ a : Nat, a < s.heap.size → ¬ A a) : ∃ q : Nat × Nat, St1 A args s (.string "LeadRoom$StyleReader" 86) 3 [112, 97, 121] q.1 q.2 :=
  st_one (.string "LeadRoom$StyleReader" 86) 3 [112, 97, 121] (by decide) (anR (anR (anR (anL (anL (anR (anL (anL (anR (anR h)))))))))) (anL (anL (anL (anR (anL (anR (anL (anL (anR (anR h)))))))))) (anR (anL (anL (anR (anL (anR (anL (anL (anR (anR h)))))))))) (anL (anR (anL (anR (anL (anR (anL (anL (anR (anR h)))))))))) (fun j hj => match j, hj with | 0, _ => (anR (anR (anL (anR (anL (anR (anL (anL (anR (anR h)))))))))) | 1, _ => (anL (anL (anR (anR (anL (anR (anL (anL (anR (anR h)))))))))) | 2, _ => (anR (anL (anR (anR (anL (anR (anL (anL (anR (anR h)))))))))) | j + 3, hz => absurd hz (by omega)) hA
theorem st_19 {args : Array Value} {s : State} {A : Nat → Prop} (h : (Cond.and given_1 narrow_1).before args s = true) (hA : ∀ a : Nat, a < s.heap.size → ¬ A a) : ∃ q : Nat × Nat, St1 A args s (.string "LeadRoom$StyleReader" 77) 5 [115, 112, 97, 99, 101] q.1 q.2 :=
  st_one (.string "LeadRoom$StyleReader" 77) 5 [115, 112, 97, 99, 101] (by decide) (anL (anL (anL (anL (anR (anL (anL (anL (anR (anR h)))))))))) (anR (anL (anL (anL (anR (anL (anL (anL (anR (anR h)))))))))) (anL (anR (anL (anL (anR (anL (anL (anL (anR (anR h)))))))))) (anR (anR (anL (anL (anR (anL (anL (anL (anR (anR h)))))))))) (fun j hj => match j, hj with | 0, _ => (anL (anL (anR (anL (anR (anL (anL (anL (anR (anR h)))))))))) | 1, _ => (anR (anL (anR (anL (anR (anL (anL (anL (anR (anR h)))))))))) | 2, _ => (anL (anR (anR (anL (anR (anL (anL (anL (anR (anR h)))))))))) | 3, _ => (anR (anR (anR (anL (anR (anL (anL (anL (anR (anR h)))))))))) | 4, _ => (anL (anL (anL (anR (anR (anL (anL (anL (anR (anR h)))))))))) | j + 5, hz => absurd hz (by omega)) hA
theorem st_20 {args : Array Value} {s : State} {A : Nat → Prop} (h : (Cond.and given_1 narrow_1).before args s = true) (hA : ∀ a : Nat, a < s.heap.size → ¬ A a) : ∃ q : Nat × Nat, St1 A args s (.string "LeadRoom$StyleReader" 132) 5 [119, 111, 114, 100, 115] q.1 q.2 :=
  st_one (.string "LeadRoom$StyleReader" 132) 5 [119, 111, 114, 100, 115] (by decide) (anL (anR (anR (anR (anL (anL (anR (anR (anL (anR h)))))))))) (anR (anR (anR (anR (anL (anL (anR (anR (anL (anR h)))))))))) (anL (anL (anL (anL (anR (anL (anR (anR (anL (anR h)))))))))) (anR (anL (anL (anL (anR (anL (anR (anR (anL (anR h)))))))))) (fun j hj => match j, hj with | 0, _ => (anL (anR (anL (anL (anR (anL (anR (anR (anL (anR h)))))))))) | 1, _ => (anR (anR (anL (anL (anR (anL (anR (anR (anL (anR h)))))))))) | 2, _ => (anL (anL (anR (anL (anR (anL (anR (anR (anL (anR h)))))))))) | 3, _ => (anR (anL (anR (anL (anR (anL (anR (anR (anL (anR h)))))))))) | 4, _ => (anL (anR (anR (anL (anR (anL (anR (anR (anL (anR h)))))))))) | j + 5, hz => absurd hz (by omega)) hA
theorem st_all {args : Array Value} {s : State} {A : Nat → Prop} (h : (Cond.and given_1 narrow_1).before args s = true) (hA : ∀ a : Nat, a < s.heap.size → ¬ A a) : ∀ i, ∃ q : Nat × Nat, i < 21 → St1 A args s (.string "LeadRoom$StyleReader" (sTm.getD i 0)) (sTn.getD i 0) (sTx.getD i []) q.1 q.2 := fun i => by
  match i with
  | 0 => obtain ⟨q, hq⟩ := st_0 (A := A) h hA; exact ⟨q, fun _ => hq⟩
  | 1 => obtain ⟨q, hq⟩ := st_1 (A := A) h hA; exact ⟨q, fun _ => hq⟩
  | 2 => obtain ⟨q, hq⟩ := st_2 (A := A) h hA; exact ⟨q, fun _ => hq⟩
  | 3 => obtain ⟨q, hq⟩ := st_3 (A := A) h hA; exact ⟨q, fun _ => hq⟩
  | 4 => obtain ⟨q, hq⟩ := st_4 (A := A) h hA; exact ⟨q, fun _ => hq⟩
  | 5 => obtain ⟨q, hq⟩ := st_5 (A := A) h hA; exact ⟨q, fun _ => hq⟩
  | 6 => obtain ⟨q, hq⟩ := st_6 (A := A) h hA; exact ⟨q, fun _ => hq⟩
  | 7 => obtain ⟨q, hq⟩ := st_7 (A := A) h hA; exact ⟨q, fun _ => hq⟩
  | 8 => obtain ⟨q, hq⟩ := st_8 (A := A) h hA; exact ⟨q, fun _ => hq⟩
  | 9 => obtain ⟨q, hq⟩ := st_9 (A := A) h hA; exact ⟨q, fun _ => hq⟩
  | 10 => obtain ⟨q, hq⟩ := st_10 (A := A) h hA; exact ⟨q, fun _ => hq⟩
  | 11 => obtain ⟨q, hq⟩ := st_11 (A := A) h hA; exact ⟨q, fun _ => hq⟩
  | 12 => obtain ⟨q, hq⟩ := st_12 (A := A) h hA; exact ⟨q, fun _ => hq⟩
  | 13 => obtain ⟨q, hq⟩ := st_13 (A := A) h hA; exact ⟨q, fun _ => hq⟩
  | 14 => obtain ⟨q, hq⟩ := st_14 (A := A) h hA; exact ⟨q, fun _ => hq⟩
  | 15 => obtain ⟨q, hq⟩ := st_15 (A := A) h hA; exact ⟨q, fun _ => hq⟩
  | 16 => obtain ⟨q, hq⟩ := st_16 (A := A) h hA; exact ⟨q, fun _ => hq⟩
  | 17 => obtain ⟨q, hq⟩ := st_17 (A := A) h hA; exact ⟨q, fun _ => hq⟩
  | 18 => obtain ⟨q, hq⟩ := st_18 (A := A) h hA; exact ⟨q, fun _ => hq⟩
  | 19 => obtain ⟨q, hq⟩ := st_19 (A := A) h hA; exact ⟨q, fun _ => hq⟩
  | 20 => obtain ⟨q, hq⟩ := st_20 (A := A) h hA; exact ⟨q, fun _ => hq⟩
  | i + 21 => exact ⟨(0, 0), fun hz => absurd hz (by omega)⟩
theorem sT_inj : ∀ i, i < 21 → ∀ j, j < 21 → sTn.getD i 0 = sTn.getD j 0 → (∀ k, k < sTn.getD i 0 → (sTx.getD i []).getD k 0 = (sTx.getD j []).getD k 0) → i = j := by decide +kernel
theorem sTn_lt : ∀ i, i < 21 → sTn.getD i 0 < 100 := by decide +kernel
theorem st_inj {args : Array Value} {s : State} {A : Nat → Prop} {i j : Nat} {q q2 : Nat × Nat} {t1 t2 : Term} (hi : i < 21) (hj : j < 21) (h1 : St1 A args s t1 (sTn.getD i 0) (sTx.getD i []) q.1 q.2) (h2 : St1 A args s t2 (sTn.getD j 0) (sTx.getD j []) q2.1 q2.2) (he : q.1 = q2.1) : i = j := by
  obtain ⟨-, -, -, ⟨cf, k, fi, f, cell, a1, a2, a3, a4, a5, a6⟩, cl1, b1, b2, b3, b4, b5, b6, b7⟩ := h1
  obtain ⟨-, -, -, ⟨cf2, k2, fi2, f2, cell2, c1, c2, c3, c4, c5, c6⟩, cl2, d1, d2, d3, d4, d5, d6, d7⟩ := h2
  rw [he] at a3
  cases a3.symm.trans c3
  cases a1.symm.trans c1
  have e := a5.symm.trans c5
  have e2 : q.2 = q2.2 := by
    have := Option.some.inj e
    injection this
  rw [e2] at b1
  cases b1.symm.trans d1
  have l1 := sTn_lt i hi
  have l2 := sTn_lt j hj
  have n1 : sTn.getD i 0 = sTn.getD j 0 := by
    have z : Int32.ofNat (sTn.getD i 0) = Int32.ofNat (sTn.getD j 0) := b5.symm.trans d5
    have z2 : (nI (sTn.getD i 0)).toInt = (nI (sTn.getD j 0)).toInt := congrArg Int32.toInt z
    rw [nI_toInt (by omega), nI_toInt (by omega)] at z2
    omega
  refine sT_inj i hi j hj n1 (fun k hk => ?_)
  have z := (b6 k hk).symm.trans (d6 k (by omega))
  have z2 := Option.some.inj z
  injection z2
theorem st_nc {args : Array Value} {s : State} (h : (Cond.and given_1 narrow_1).before args s = true) : ∀ q ∈ ncL, va_Nc q.1 q.2 s := List.forall_mem_cons.mpr ⟨va_Nc.of (args := args) (anR (anR (anL (anL (anR (anL (anL (anL (anL (anR h)))))))))), List.forall_mem_cons.mpr ⟨va_Nc.of (args := args) (anL (anL (anR (anL (anR (anL (anL (anL (anL (anR h)))))))))), List.forall_mem_cons.mpr ⟨va_Nc.of (args := args) (anL (anR (anR (anL (anR (anL (anL (anL (anL (anR h)))))))))), List.forall_mem_cons.mpr ⟨va_Nc.of (args := args) (anL (anL (anL (anR (anR (anL (anL (anL (anL (anR h)))))))))), List.forall_mem_cons.mpr ⟨va_Nc.of (args := args) (anR (anR (anL (anL (anL (anR (anL (anL (anL (anR h)))))))))), List.forall_mem_cons.mpr ⟨va_Nc.of (args := args) (anR (anL (anR (anL (anL (anR (anL (anL (anL (anR h)))))))))), List.forall_mem_cons.mpr ⟨va_Nc.of (args := args) (anR (anR (anR (anL (anL (anR (anL (anL (anL (anR h)))))))))), List.forall_mem_cons.mpr ⟨va_Nc.of (args := args) (anR (anR (anL (anL (anR (anL (anR (anL (anL (anR h)))))))))), List.forall_mem_nil _⟩⟩⟩⟩⟩⟩⟩⟩
theorem st_in (c : Nat) (hc : c < 12) : Cond.instantiable (FC c) (nF c) ∈ lw_tbl := by
  match c, hc with
  | 0, _ => exact in0
  | 1, _ => exact in1
  | 2, _ => exact in2
  | 3, _ => exact in3
  | 4, _ => exact in4
  | 5, _ => exact in5
  | 6, _ => exact in6
  | 7, _ => exact in7
  | 8, _ => exact in8
  | 9, _ => exact in9
  | 10, _ => exact in10
  | 11, _ => exact in11
  | c + 12, h => exact absurd h (by omega)
theorem st_K {args : Array Value} {s : State} (hts : ∀ w ∈ lw_tbl, w.before args s = true) : ∃ D : va_G, va_K D vwCl [] s := by
  have h : ∀ c : Nat, ∃ q : Nat × (Nat → Nat), c < 12 → ∃ cC : ClassId, True ∧ u_Kn s (FC c) (FT c) (nF c) cC q.2 := fun c => by
    by_cases hc : c < 12
    · obtain ⟨cC, iS, hK⟩ := u_known (ws := lw_tbl) (C := FC c) (T := FT c) (N := nF c) (n := nF c) hts (fun w hw => (List.mem_filter.mp ((clsF c hc).2.1 w hw)).1) (hts _ (st_in c hc))
      exact ⟨(0, iS), fun _ => ⟨cC, trivial, hK⟩⟩
    · exact ⟨(0, fun _ => 0), fun z => absurd z hc⟩
  obtain ⟨f, hf⟩ := Classical.axiomOfChoice h
  obtain ⟨c0, -, -⟩ := hf 0 (by omega)
  have h2 : ∀ c : Nat, ∃ cC : ClassId, c < 12 → u_Kn s (FC c) (FT c) (nF c) cC (f c).2 := fun c => by
    by_cases hc : c < 12
    · obtain ⟨cC, -, hK⟩ := hf c hc
      exact ⟨cC, fun _ => hK⟩
    · exact ⟨c0, fun z => absurd z hc⟩
  obtain ⟨f2, hf2⟩ := Classical.axiomOfChoice h2
  refine ⟨(f2, fun c => (f c).2), fun c q hq => ?_, fun k q hq => by simp at hq⟩
  have hc : c < 12 := (List.getElem?_eq_some_iff.mp hq).1
  have e := (clsF c hc).1
  rw [e] at hq
  cases hq
  exact hf2 c hc
theorem st_nw {args : Array Value} {s : State} (hts : ∀ w ∈ lw_tbl, w.before args s = true) : ∀ w ∈ nWs, va_Nw w s := fun w hw => by
  have h := List.mem_filter.mp hw
  have h1 := hts w h.1
  have h2 := h.2
  cases w with
  | methodLinkNest a i x b => exact va_tabs rfl rfl h1
  | castable a b => exact va_tabs rfl rfl h1
  | declares a => exact va_tabs rfl rfl h1
  | _ => cases h2
theorem st_ao {args : Array Value} {s : State} (hts : ∀ w ∈ lw_tbl, w.before args s = true) : ∀ k, 25 ≤ k → va_AO (FC (elK k)) s := fun k hk => by
  by_cases k5 : k = 25
  · subst k5
    exact va_AO.of (hts (.arrayOver (.object "LeadRoom$Style")) (tb1 (List.mem_of_getElem? (i := 186) rfl)))
  by_cases k6 : k = 26
  · subst k6
    exact va_AO.of (hts (.arrayOver (.object "LeadRoom$Part")) (tb1 (List.mem_of_getElem? (i := 189) rfl)))
  by_cases k7 : k = 27
  · subst k7
    exact va_AO.of (hts (.arrayOver (.object "LeadRoom$Machine")) (tb1 (List.mem_of_getElem? (i := 191) rfl)))
  have e : elK k = 7 := by
    unfold elK
    split <;> first | rfl | (exfalso; omega)
  rw [e]
  exact va_AO.of (hts (.arrayOver (.object "LeadRoom$Slug")) (tb1 (List.mem_of_getElem? (i := 193) rfl)))
theorem st_R {args : Array Value} {s : State} {A : Nat → Prop} {f : Nat → Nat × Nat} (hts : ∀ w ∈ lw_tbl, w.before args s = true) (h : (Cond.and given_1 narrow_1).before args s = true) (hS : ∀ i, i < 21 → St1 A args s (.string "LeadRoom$StyleReader" (sTm.getD i 0)) (sTn.getD i 0) (sTx.getD i []) (f i).1 (f i).2) : ∀ q ∈ strL, vk_R q.1 q.2.1 q.2.2.1 (f q.2.2.2).1 s :=
  List.forall_mem_cons.mpr ⟨vk_R.of (A := args) (hts (.stringRef "LeadRoom$StyleReader" 62 "measure") (tb5 (List.mem_of_getElem? (i := 60) rfl))) ((hS 13 (by omega)).1),
  List.forall_mem_cons.mpr ⟨vk_R.of (A := args) (hts (.stringRef "LeadRoom$StyleReader" 72 "if") (tb5 (List.mem_of_getElem? (i := 125) rfl))) ((hS 9 (by omega)).1),
  List.forall_mem_cons.mpr ⟨vk_R.of (A := args) (hts (.stringRef "LeadRoom$StyleReader" 77 "space") (tb5 (List.mem_of_getElem? (i := 170) rfl))) ((hS 19 (by omega)).1),
  List.forall_mem_cons.mpr ⟨vk_R.of (A := args) (hts (.stringRef "LeadRoom$StyleReader" 82 "part") (tb5 (List.mem_of_getElem? (i := 175) rfl))) ((hS 17 (by omega)).1),
  List.forall_mem_cons.mpr ⟨vk_R.of (A := args) (hts (.stringRef "LeadRoom$StyleReader" 84 "fat") (tb5 (List.mem_of_getElem? (i := 176) rfl))) ((hS 6 (by omega)).1),
  List.forall_mem_cons.mpr ⟨vk_R.of (A := args) (hts (.stringRef "LeadRoom$StyleReader" 86 "pay") (tb5 (List.mem_of_getElem? (i := 177) rfl))) ((hS 18 (by omega)).1),
  List.forall_mem_cons.mpr ⟨vk_R.of (A := args) (hts (.stringRef "LeadRoom$StyleReader" 88 "free") (tb5 (List.mem_of_getElem? (i := 178) rfl))) ((hS 7 (by omega)).1),
  List.forall_mem_cons.mpr ⟨vk_R.of (A := args) (hts (.stringRef "LeadRoom$StyleReader" 94 "close") (tb5 (List.mem_of_getElem? (i := 179) rfl))) ((hS 3 (by omega)).1),
  List.forall_mem_cons.mpr ⟨vk_R.of (A := args) (hts (.stringRef "LeadRoom$StyleReader" 102 "at") (tb5 (List.mem_of_getElem? (i := 184) rfl))) ((hS 1 (by omega)).1),
  List.forall_mem_cons.mpr ⟨vk_R.of (A := args) (hts (.stringRef "LeadRoom$StyleReader" 106 "or") (tb5 (List.mem_of_getElem? (i := 169) rfl))) ((hS 16 (by omega)).1),
  List.forall_mem_cons.mpr ⟨vk_R.of (A := args) (hts (.stringRef "LeadRoom$StyleReader" 115 "and") (tb5 (List.mem_of_getElem? (i := 168) rfl))) ((hS 0 (by omega)).1),
  List.forall_mem_cons.mpr ⟨vk_R.of (A := args) (hts (.stringRef "LeadRoom$StyleReader" 117 "not") (tb5 (List.mem_of_getElem? (i := 138) rfl))) ((hS 15 (by omega)).1),
  List.forall_mem_cons.mpr ⟨vk_R.of (A := args) (hts (.stringRef "LeadRoom$StyleReader" 126 "head") (tb5 (List.mem_of_getElem? (i := 147) rfl))) ((hS 8 (by omega)).1),
  List.forall_mem_cons.mpr ⟨vk_R.of (A := args) (hts (.stringRef "LeadRoom$StyleReader" 128 "late") (tb5 (List.mem_of_getElem? (i := 148) rfl))) ((hS 10 (by omega)).1),
  List.forall_mem_cons.mpr ⟨vk_R.of (A := args) (hts (.stringRef "LeadRoom$StyleReader" 130 "corrected") (tb5 (List.mem_of_getElem? (i := 149) rfl))) ((hS 4 (by omega)).1),
  List.forall_mem_cons.mpr ⟨vk_R.of (A := args) (hts (.stringRef "LeadRoom$StyleReader" 132 "words") (tb5 (List.mem_of_getElem? (i := 150) rfl))) ((hS 20 (by omega)).1),
  List.forall_mem_cons.mpr ⟨vk_R.of (A := args) (hts (.stringRef "LeadRoom$StyleReader" 134 "bits") (tb5 (List.mem_of_getElem? (i := 151) rfl))) ((hS 2 (by omega)).1),
  List.forall_mem_cons.mpr ⟨vk_R.of (A := args) (hts (.stringRef "LeadRoom$StyleReader" 136 "due") (tb5 (List.mem_of_getElem? (i := 152) rfl))) ((hS 5 (by omega)).1),
  List.forall_mem_cons.mpr ⟨vk_R.of (A := args) (hts (.stringRef "LeadRoom$StyleReader" 138 "minute") (tb5 (List.mem_of_getElem? (i := 153) rfl))) ((hS 14 (by omega)).1),
  List.forall_mem_cons.mpr ⟨vk_R.of (A := args) (hts (.stringRef "LeadRoom$StyleReader" 140 "letters") (tb5 (List.mem_of_getElem? (i := 154) rfl))) ((hS 11 (by omega)).1),
  List.forall_mem_cons.mpr ⟨vk_R.of (A := args) (hts (.stringRef "LeadRoom$StyleReader" 142 "machine") (tb5 (List.mem_of_getElem? (i := 155) rfl))) ((hS 12 (by omega)).1),
  List.forall_mem_cons.mpr ⟨vk_R.of (A := args) (hts (.stringRef "LeadRoomModel" 187 "head") (tb9 (List.mem_of_getElem? (i := 146) rfl))) (eq_ref (anL (anR (anL (anR (anR (anL (anL (anR (anR (anR h)))))))))) (hS 8 (by omega)).1),
  List.forall_mem_cons.mpr ⟨vk_R.of (A := args) (hts (.stringRef "LeadRoomModel" 193 "late") (tb9 (List.mem_of_getElem? (i := 147) rfl))) (eq_ref (anL (anR (anL (anL (anL (anR (anL (anR (anR (anR h)))))))))) (hS 10 (by omega)).1),
  List.forall_mem_cons.mpr ⟨vk_R.of (A := args) (hts (.stringRef "LeadRoomModel" 195 "corrected") (tb9 (List.mem_of_getElem? (i := 148) rfl))) (eq_ref (anR (anR (anR (anR (anR (anL (anR (anL (anR (anR (anR h))))))))))) (hS 4 (by omega)).1),
  List.forall_mem_cons.mpr ⟨vk_R.of (A := args) (hts (.stringRef "LeadRoomModel" 197 "words") (tb9 (List.mem_of_getElem? (i := 153) rfl))) (eq_ref (anR (anL (anL (anR (anR (anR (anL (anR (anR (anR h)))))))))) (hS 20 (by omega)).1),
  List.forall_mem_cons.mpr ⟨vk_R.of (A := args) (hts (.stringRef "LeadRoomModel" 199 "bits") (tb9 (List.mem_of_getElem? (i := 154) rfl))) (eq_ref (anR (anL (anL (anL (anL (anL (anR (anR (anR (anR h)))))))))) (hS 2 (by omega)).1),
  List.forall_mem_cons.mpr ⟨vk_R.of (A := args) (hts (.stringRef "LeadRoomModel" 201 "due") (tb9 (List.mem_of_getElem? (i := 155) rfl))) (eq_ref (anR (anL (anL (anR (anL (anL (anR (anR (anR (anR h)))))))))) (hS 5 (by omega)).1),
  List.forall_mem_cons.mpr ⟨vk_R.of (A := args) (hts (.stringRef "LeadRoomModel" 203 "minute") (tb9 (List.mem_of_getElem? (i := 156) rfl))) (eq_ref (anL (anL (anR (anL (anR (anL (anR (anR (anR (anR h)))))))))) (hS 14 (by omega)).1),
  List.forall_mem_cons.mpr ⟨vk_R.of (A := args) (hts (.stringRef "LeadRoomModel" 205 "letters") (tb9 (List.mem_of_getElem? (i := 157) rfl))) (eq_ref (anR (anR (anR (anR (anR (anR (anL (anR (anR (anR (anR h))))))))))) (hS 11 (by omega)).1),
  List.forall_mem_cons.mpr ⟨vk_R.of (A := args) (hts (.stringRef "LeadRoomModel" 207 "machine") (tb9 (List.mem_of_getElem? (i := 158) rfl))) (eq_ref (anR (anR (anL (anR (anL (anR (anR (anR (anR (anR h)))))))))) (hS 12 (by omega)).1),
  List.forall_mem_cons.mpr ⟨vk_R.of (A := args) (hts (.stringRef "LeadRoomModel" 209 "not") (tb9 (List.mem_of_getElem? (i := 137) rfl))) (eq_ref (anR (anL (anL (anL (anR (anL (anL (anR (anR (anR h)))))))))) (hS 15 (by omega)).1),
  List.forall_mem_cons.mpr ⟨vk_R.of (A := args) (hts (.stringRef "LeadRoomModel" 236 "and") (tb9 (List.mem_of_getElem? (i := 163) rfl))) (eq_ref (anL (anR (anL (anL (anR (anR (anR (anR (anR (anR h)))))))))) (hS 0 (by omega)).1),
  List.forall_mem_cons.mpr ⟨vk_R.of (A := args) (hts (.stringRef "LeadRoomModel" 241 "or") (tb9 (List.mem_of_getElem? (i := 164) rfl))) (eq_ref (anR (anL (anL (anR (anR (anR (anR (anR (anR (anR h)))))))))) (hS 16 (by omega)).1),
  List.forall_mem_cons.mpr ⟨vk_R.of (A := args) (hts (.stringRef "LeadRoomModel" 243 "if") (tb9 (List.mem_of_getElem? (i := 124) rfl))) (eq_ref (anR (anL (anL (anR (anL (anL (anL (anR (anR (anR h)))))))))) (hS 9 (by omega)).1),
  List.forall_mem_cons.mpr ⟨vk_R.of (A := args) (hts (.stringRef "LeadRoomModel" 248 "measure") (tb9 (List.mem_of_getElem? (i := 103) rfl))) (eq_ref (anR (anR (anR (anR (anL (anL (anR (anL (anR (anR h)))))))))) (hS 13 (by omega)).1),
  List.forall_mem_cons.mpr ⟨vk_R.of (A := args) (hts (.stringRef "LeadRoomModel" 250 "space") (tb9 (List.mem_of_getElem? (i := 114) rfl))) (eq_ref (anR (anL (anL (anR (anR (anL (anR (anL (anR (anR h)))))))))) (hS 19 (by omega)).1),
  List.forall_mem_cons.mpr ⟨vk_R.of (A := args) (hts (.stringRef "LeadRoomModel" 252 "part") (tb9 (List.mem_of_getElem? (i := 115) rfl))) (eq_ref (anR (anL (anL (anL (anL (anR (anR (anL (anR (anR h)))))))))) (hS 17 (by omega)).1),
  List.forall_mem_cons.mpr ⟨vk_R.of (A := args) (hts (.stringRef "LeadRoomModel" 254 "fat") (tb9 (List.mem_of_getElem? (i := 116) rfl))) (eq_ref (anR (anL (anL (anR (anL (anR (anR (anL (anR (anR h)))))))))) (hS 6 (by omega)).1),
  List.forall_mem_cons.mpr ⟨vk_R.of (A := args) (hts (.stringRef "LeadRoomModel" 256 "pay") (tb9 (List.mem_of_getElem? (i := 117) rfl))) (eq_ref (anL (anL (anL (anL (anR (anR (anR (anL (anR (anR h)))))))))) (hS 18 (by omega)).1),
  List.forall_mem_cons.mpr ⟨vk_R.of (A := args) (hts (.stringRef "LeadRoomModel" 258 "free") (tb9 (List.mem_of_getElem? (i := 118) rfl))) (eq_ref (anR (anL (anL (anR (anR (anR (anR (anL (anR (anR h)))))))))) (hS 7 (by omega)).1),
  List.forall_mem_cons.mpr ⟨vk_R.of (A := args) (hts (.stringRef "LeadRoomModel" 260 "close") (tb9 (List.mem_of_getElem? (i := 119) rfl))) (eq_ref (anL (anR (anL (anL (anL (anL (anL (anR (anR (anR h)))))))))) (hS 3 (by omega)).1),
  List.forall_mem_cons.mpr ⟨vk_R.of (A := args) (hts (.stringRef "LeadRoomModel" 266 "at") (tb9 (List.mem_of_getElem? (i := 165) rfl))) (eq_ref (anR (anR (anR (anR (anR (anR (anR (anR (anR (anR (anR h))))))))))) (hS 1 (by omega)).1),
  List.forall_mem_nil _⟩⟩⟩⟩⟩⟩⟩⟩⟩⟩⟩⟩⟩⟩⟩⟩⟩⟩⟩⟩⟩⟩⟩⟩⟩⟩⟩⟩⟩⟩⟩⟩⟩⟩⟩⟩⟩⟩⟩⟩⟩⟩
def sTd : List Nat := strL.map (fun q => q.2.2.2)
theorem sTd_lt : ∀ q ∈ strL, q.2.2.2 < 21 := by decide +kernel
/-- all that stays, at the law's entry -/
theorem st_Ks {s : State} {b : Nat} (hts : ∀ w ∈ lw_tbl, w.before #[Value.ref b] s = true) (h : (Cond.and given_1 narrow_1).before #[Value.ref b] s = true) : ∃ K : Kc, Ks K s ∧ K.2.1 3000 = b ∧ K.2.2 = s.heap.size := by
  obtain ⟨D, hD⟩ := st_K hts
  have hA : ∀ a : Nat, a < s.heap.size → ¬ (fun q : Nat => s.heap.size ≤ q) a := fun a ha z => absurd ha (Nat.not_lt.mpr z)
  obtain ⟨f, hf⟩ := Classical.axiomOfChoice (st_all (A := fun q : Nat => s.heap.size ≤ q) h hA)
  obtain ⟨v, hv, hvr⟩ : ∃ v : Value, (Term.static "jdk/internal/util/Preconditions" "SIOOBE_FORMATTER" sioD).eval #[Value.ref b] s none [] s = some v ∧ v.isRef = true := by
    have z : (Cond.isRef (.static "jdk/internal/util/Preconditions" "SIOOBE_FORMATTER" sioD)).before #[Value.ref b] s = true := (anR (anL (anR (anL (anL (anL (anL (anL (anL (anR h))))))))))
    cases hv : (Term.static "jdk/internal/util/Preconditions" "SIOOBE_FORMATTER" sioD).eval #[Value.ref b] s none [] s with
    | none => simp [Cond.before, Cond.holds, Cond.value, hv] at z
    | some w =>
      simp only [Cond.before, Cond.holds, Cond.value, hv] at z
      refine ⟨w, rfl, ?_⟩
      cases w <;> first | rfl | (simp at z)
  obtain ⟨n1, n0, hn⟩ : ∃ n1 n0 : Nat, v = if n1 = 0 then .null else .ref n0 := by
    cases v with
    | null => exact ⟨0, 0, rfl⟩
    | ref a => exact ⟨1, a, rfl⟩
    | _ => cases hvr
  let sa : Nat → Nat := fun k => if k < 21 then (f k).1 else if k = 2001 then n1 else if k = 2000 then n0 else if k = 3000 then b else (f (k - 1000)).2
  have sa1 : ∀ k, k < 21 → sa k = (f k).1 := fun k hk => if_pos hk
  have sa2 : ∀ k, k < 21 → sa (1000 + k) = (f k).2 := fun k hk => by
    show (if 1000 + k < 21 then _ else _) = _
    rw [if_neg (by omega), if_neg (by omega), if_neg (by omega), if_neg (by omega), Nat.add_sub_cancel_left]
  refine ⟨(D, sa, s.heap.size), ⟨hD, Nat.le_refl _, ?_, ?_, st_ao hts, ?_, st_nw hts, st_nc h, ⟨fun k => (f k).2, ⟨fun i hi => ?_, fun i j hi hj e => ?_⟩, sa2⟩, fun q hq => ?_, ?_, ?_⟩, rfl, rfl⟩
  · exact vx_Zqof (args := #[Value.ref b]) (hts (.laysStatic Bundle.tN "UNASSIGNED_STACK" Bundle.steD) (tb4 (List.mem_of_getElem? (i := 174) rfl))) (hts (.initialized Bundle.tN) (tb1 (List.mem_of_getElem? (i := 11) rfl))) (anL (anR (anL (anL (anL (anL (anL (anL (anL (anR h)))))))))) hA
  · exact vx_Zqof (args := #[Value.ref b]) (hts (.laysStatic Bundle.tN "SUPPRESSED_SENTINEL" Bundle.listD) (tb4 (List.mem_of_getElem? (i := 176) rfl))) (hts (.initialized Bundle.tN) (tb1 (List.mem_of_getElem? (i := 11) rfl))) (anR (anR (anL (anL (anL (anL (anL (anL (anL (anR h)))))))))) hA
  · exact hts (.arrayOver (.array .int)) (tb2 (List.mem_of_getElem? (i := 91) rfl))
  · have z := (hf i hi).2
    rw [← sa1 i hi] at z
    exact z
  · have e2 : sa i = sa j := e
    rw [sa1 i hi, sa1 j hj] at e2
    exact st_inj hi hj (hf i hi) (hf j hj) e2
  · have z := st_R hts h hf q hq
    rw [← sa1 _ (sTd_lt q hq)] at z
    exact z
  · exact va_Zof (args := #[Value.ref b]) (hts (.laysStatic "java/lang/String" "COMPACT_STRINGS" "Z") (tb5 (List.mem_of_getElem? (i := 74) rfl))) (hts (.initialized "java/lang/String") (tb1 (List.mem_of_getElem? (i := 19) rfl))) (va_eqi (anL (anL (anR (anL (anL (anL (anL (anL (anL (anR h))))))))))) hA
  · have z := va_Zof (args := #[Value.ref b]) (A := fun q : Nat => s.heap.size ≤ q) (hts (.laysStatic "jdk/internal/util/Preconditions" "SIOOBE_FORMATTER" sioD) (tb5 (List.mem_of_getElem? (i := 90) rfl))) (hts (.initialized "jdk/internal/util/Preconditions") (tb1 (List.mem_of_getElem? (i := 21) rfl))) hv hA
    rw [hn] at z
    exact z
/-- the world in which nothing is yet -/
def hp0 : Hp := (fun _ => 99, fun _ => 0, fun _ _ => 0, fun _ _ => 0, 0, 0, 0)
theorem st_wd {D : va_G} {g : Gh} {A : Nat → Prop} {s : State} {H : Heap} : Wd D g A hp0 s H := by
  have e : wsOf g hp0 = [] := rfl
  refine ⟨?_, ?_, ⟨fun a h => absurd rfl h, fun a i => Nat.le_refl 0, fun a i h => ?_⟩, fun a h1 h2 => ?_⟩
  · rw [e]
    exact fun k q h => by simp at h
  · rw [e]
    exact ⟨fun i j p q h => by simp at h, fun k q h => by simp at h⟩
  · have z : (99 : Nat) = 21 := h
    omega
  · have z : (99 : Nat) ≤ 28 := h2
    omega
set_option maxRecDepth 100000 in
theorem st_law {p : Program} {e : Env} {s : State} {m : MethodId} {below : List Frame} {meth : Method} {c : Code} (l : Launch) (hflags : l.flags = flags0) {b L : Nat} {xs : Nat → Int32} (C0 : lw_At p s m meth c b L xs) (hname : meth.name = "law") {h9 : Hp} (HM : ML_law L xs hp0 = some (1, h9)) (hc : nc h9 = room_1.cells) (hs : ns h9 = room_1.slots) : W p l e room_1 s m #[Value.ref b] below meth c s.heap [] 0 0 (lw_Z below #[Value.ref b] s) (entryFrame m ([Value.ref b] : List Value).toArray 7) := by
  obtain ⟨hx, hb, hr, hml, hown, hts, hX, hbl, hlocks, hgv⟩ := C0
  obtain ⟨K, hK, hK1, hK2⟩ := st_Ks hts hgv
  have hst : l.stackTraces = false := (congrArg (fun f : List String => !f.contains noTraceFlag) hflags).trans (by decide +kernel)
  have k := eL_law (d := 0) HM
  have G : Gd (PL L xs) K (0 + 65) YL_law p l room_1 s m #[Value.ref b] meth c := ⟨hx, hb, hr, hml, hown, fun w hw => hts w (List.mem_filter.mp hw).1, hlocks, ⟨by rw [hK1]; exact hX, by rw [hK1]; exact hbl, by rw [hK1]; show ¬ K.2.2 ≤ b; omega⟩, hname, hst, Nat.le_of_ble_eq_true rfl, Nat.le_of_ble_eq_true rfl, hK⟩
  have hl := lv_entry ([Value.ref b] : List Value) (n := 7) (show (1 : Nat) ≤ 7 by omega)
  rw [lg_entry_eq]
  generalize (lg_sl ([Value.ref b] : List Value) ++ List.replicate (7 - (lg_sl ([Value.ref b] : List Value)).length) Slot.unset).toArray = LS at hl ⊢
  have hl2 : lv_has LS YL_law.2.2.1 (kn K.2.1 (fun _ => (0, K.1.1 0)) [.retAddr 3000, Value.null, Value.null, Value.null, Value.null, Value.null, Value.null]) := ⟨hl.1, hl.2.1, fun q hq => by
    obtain ⟨v, h1, h2, h3⟩ := kn_mem.mp hq
    obtain ⟨i, w⟩ := q
    cases i with
    | zero =>
      have e : Value.retAddr 3000 = v := Option.some.inj (show some (Value.retAddr 3000) = some v from h1)
      subst e
      have e2 : w = .ref b := h3.trans (by show Value.ref (K.2.1 3000) = _; rw [hK1])
      subst e2
      exact hl.2.2 (0, .ref b) (by simp [lv_args])
    | succ i =>
      have h1' : (List.replicate 6 Value.null)[i]? = some v := h1
      exact absurd (List.eq_of_mem_replicate (List.mem_of_getElem? h1')) h2⟩
  have z := k.2.2 K (fun _ => (0, K.1.1 0)) hp0 p l e room_1 s m #[Value.ref b] below meth c G (by rw [hc]; rfl) (by rw [hs]; rfl) (fun _ => (0, K.1.1 0)) s.heap [] LS ⟨Nat.le_refl _, Nat.le_refl _, Nat.le_refl _, fun _ _ _ => rfl⟩ st_wd va_S.rf hl2 (fun v hv => by
    rcases List.mem_cons.mp hv with rfl | hv
    · exact ⟨trivial, rfl⟩
    · have hv : v ∈ List.replicate 6 Value.null := hv
      rw [List.eq_of_mem_replicate hv]
      exact ⟨trivial, rfl⟩) trivial
  intro T hT X
  obtain ⟨t, a1, oc, b1, b2, b3⟩ := z T hT X
  refine ⟨t, a1, oc, b1, b2, ?_⟩
  rcases b3 with ⟨⟨⟨v, g1, h1, h2, -⟩, -⟩, LL, ⟨hr9, hW, hsm⟩, hfree⟩ | ⟨q, -, E, ce, LL, ⟨⟨k9, g1, h1, -⟩, -⟩, -⟩
  · cases h1
    subst h2
    refine ⟨rfl, ⟨_, rfl⟩, hW, hsm.weaken (fun x hx hlt => ?_) (Nat.le_of_ble_eq_true rfl) (Nat.le_of_ble_eq_true rfl)⟩
    have z9 : K.2.2 ≤ x.base := hfree x hx
    rw [hK2] at z9
    have z8 : x.base < s.heap.size := hlt
    exact absurd z8 (Nat.not_lt.mpr z9)
  · cases h1
