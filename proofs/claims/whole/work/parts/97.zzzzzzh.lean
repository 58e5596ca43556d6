/-! style: conditions of rules, the pure picture -/
abbrev PR : Type := Nat ⊕ (Nat × List Op)
def thP (f : Nat → PR) (g : Nat → List Op → PR) (i : Nat) : PR := match f i with
  | .inl p => .inl p
  | .inr r => g r.1 r.2
/-- as long as word k follows -/
noncomputable def lpP (b : Nat → Nat) (e k : Nat) (o : Op) (f : Nat → PR) : Nat → Nat → List Op → PR
  | 0, i, l => .inr (i, l)
  | d + 1, i, l => if wdB b e k (ik b e i) = true then thP f (fun i' l' => lpP b e k o f d i' (l ++ l' ++ [o])) (ik b e i + sN k) else .inr (ik b e i, l)
noncomputable def alP (b : Nat → Nat) (e : Nat) (f : Nat → PR) (i : Nat) : PR := thP f (lpP b e 0 (5, 0, 0) f (e + 1)) i
noncomputable def anP (b : Nat → Nat) (e : Nat) (f : Nat → PR) (i : Nat) : PR := thP (alP b e f) (lpP b e 16 (6, 0, 0) (alP b e f) (e + 1)) i
def cmP (b : Nat → Nat) (e how f i : Nat) : PR := match nmP b e 0 9999 i with
  | .inl p => .inl p
  | .inr r => .inr (r.1, [(how, f, r.2)])
/-- behind a fact -/
def fcQ (b : Nat → Nat) (e f i : Nat) : PR := if ik b e i < e ∧ b (ik b e i) = 60 then cmP b e 2 f (ik b e i + 1) else if ik b e i < e ∧ b (ik b e i) = 62 then cmP b e 3 f (ik b e i + 1) else .inl (ik b e i)
/-- a tag or a fact at j -/
noncomputable def lfP (b : Nat → Nat) (e j : Nat) : PR :=
  if wdB b e 8 j = true then .inr (j + sN 8, [(1, 0, 0)]) else if wdB b e 10 j = true then .inr (j + sN 10, [(1, 1, 0)]) else if wdB b e 4 j = true then .inr (j + sN 4, [(1, 2, 0)])
  else if wdB b e 20 j = true then fcQ b e 0 (j + sN 20) else if wdB b e 2 j = true then fcQ b e 1 (j + sN 2) else if wdB b e 5 j = true then fcQ b e 2 (j + sN 5) else if wdB b e 14 j = true then fcQ b e 3 (j + sN 14) else if wdB b e 11 j = true then fcQ b e 4 (j + sN 11) else if wdB b e 12 j = true then fcQ b e 5 (j + sN 12) else .inl j
/-- ) -/
def clQ (b : Nat → Nat) (e i : Nat) (l : List Op) : PR := if ik b e i < e ∧ b (ik b e i) = 41 then .inr (ik b e i + 1, l) else .inl (ik b e i)
/-- an atom, when it may still go down k times -/
noncomputable def atP (b : Nat → Nat) (e : Nat) : Nat → Nat → PR
  | 0, i => if wdB b e 15 (ik b e i) = true then .inl (ik b e i) else if ik b e i < e ∧ b (ik b e i) = 40 then .inl (ik b e i) else lfP b e (ik b e i)
  | k + 1, i => if wdB b e 15 (ik b e i) = true then thP (atP b e k) (fun i' l => .inr (i', l ++ [(4, 0, 0)])) (ik b e i + sN 15) else if ik b e i < e ∧ b (ik b e i) = 40 then thP (anP b e (atP b e k)) (clQ b e) (ik b e i + 1) else lfP b e (ik b e i)
def LO (l : List Op) (n c : Nat) : Prop := (∀ o ∈ l, okOp o) ∧ 2 * l.length ≤ n ∧ (l.flatMap encR).length ≤ n ∧ ∀ d, d + c ≤ 50 → dpO l d = some (d + 1)
def PG (e c : Nat) (f : Nat → PR) : Prop := ∀ i, i ≤ e → (∀ p, f i = .inl p → p ≤ e) ∧ ∀ r, f i = .inr r → i < r.1 ∧ r.1 ≤ e ∧ LO r.2 (r.1 - i) c
section
variable {b : Nat → Nat} {e c c2 k i j n n2 : Nat} {o : Op} {l l2 : List Op} {f : Nat → PR}
theorem dpO_app : ∀ (l l2 : List Op) d, dpO (l ++ l2) d = (dpO l d).bind (dpO l2)
  | [], _, _ => rfl
  | o :: r, l2, d => by
    show (if o.1 ≤ 3 then (if d < 50 then dpO (r ++ l2) (d + 1) else none) else if o.1 = 4 then (if 1 ≤ d then dpO (r ++ l2) d else none) else (if 2 ≤ d then dpO (r ++ l2) (d - 1) else none)) = (if o.1 ≤ 3 then (if d < 50 then dpO r (d + 1) else none) else if o.1 = 4 then (if 1 ≤ d then dpO r d else none) else (if 2 ≤ d then dpO r (d - 1) else none)).bind (dpO l2)
    rw [dpO_app r l2 (d + 1), dpO_app r l2 d, dpO_app r l2 (d - 1)]
    by_cases z1 : o.1 ≤ 3
    · rw [if_pos z1, if_pos z1]
      by_cases z2 : d < 50
      · rw [if_pos z2, if_pos z2]
      · rw [if_neg z2, if_neg z2]; rfl
    · rw [if_neg z1, if_neg z1]
      by_cases z2 : o.1 = 4
      · rw [if_pos z2, if_pos z2]
        by_cases z3 : 1 ≤ d
        · rw [if_pos z3, if_pos z3]
        · rw [if_neg z3, if_neg z3]; rfl
      · rw [if_neg z2, if_neg z2]
        by_cases z3 : 2 ≤ d
        · rw [if_pos z3, if_pos z3]
        · rw [if_neg z3, if_neg z3]; rfl
theorem LO.mono (h : LO l n c) (hn : n ≤ n2) (hc : c ≤ c2) : LO l n2 c2 := ⟨h.1, by have := h.2.1; omega, by have := h.2.2.1; omega, fun d hd => h.2.2.2 d (by omega)⟩
theorem LO.two (h : LO l n c) (h2 : LO l2 n2 c2) (ho : o = (5, 0, 0) ∨ o = (6, 0, 0)) (hc : c2 + 1 ≤ c) : LO (l ++ l2 ++ [o]) (n + n2 + 2) c := by
  obtain ⟨a1, a2, a3, a4⟩ := h
  obtain ⟨b1, b2, b3, b4⟩ := h2
  refine ⟨fun x hx => ?_, ?_, ?_, fun d hd => ?_⟩
  · rw [List.mem_append, List.mem_append] at hx
    rcases hx with (hx | hx) | hx
    · exact a1 x hx
    · exact b1 x hx
    · rw [List.mem_singleton] at hx
      rw [hx]
      rcases ho with rfl | rfl
      · exact Or.inr (Or.inr (Or.inr (Or.inl rfl)))
      · exact Or.inr (Or.inr (Or.inr (Or.inr rfl)))
  · rw [List.length_append, List.length_append]
    show 2 * (l.length + l2.length + 1) ≤ _
    omega
  · rw [List.flatMap_append, List.flatMap_append, List.length_append, List.length_append]
    have : ([o].flatMap encR).length = 1 := by rcases ho with rfl | rfl <;> rfl
    omega
  · rw [dpO_app, dpO_app, a4 d hd]
    show ((dpO l2 (d + 1)).bind _) = _
    rw [b4 (d + 1) (by omega)]
    show dpO [o] (d + 2) = some (d + 1)
    rcases ho with rfl | rfl
    · show (if 2 ≤ d + 2 then some (d + 2 - 1) else none) = some (d + 1)
      rw [if_pos (by omega)]
      rfl
    · show (if 2 ≤ d + 2 then some (d + 2 - 1) else none) = some (d + 1)
      rw [if_pos (by omega)]
      rfl
theorem LO.not (h : LO l n c) : LO (l ++ [(4, 0, 0)]) (n + 2) c := by
  obtain ⟨a1, a2, a3, a4⟩ := h
  refine ⟨fun x hx => ?_, ?_, ?_, fun d hd => ?_⟩
  · rw [List.mem_append] at hx
    rcases hx with hx | hx
    · exact a1 x hx
    · rw [List.mem_singleton] at hx
      rw [hx]
      exact Or.inr (Or.inr (Or.inl rfl))
  · rw [List.length_append]
    show 2 * (l.length + 1) ≤ _
    omega
  · rw [List.flatMap_append, List.length_append]
    have : (([(4, 0, 0)] : List Op).flatMap encR).length = 1 := rfl
    omega
  · rw [dpO_app, a4 d hd]
    show (if 1 ≤ d + 1 then some (d + 1) else none) = some (d + 1)
    rw [if_pos (by omega)]
theorem LO.one (ho : o.1 = 1 ∨ o.1 = 2 ∨ o.1 = 3) (hk : okOp o) (hn : 3 ≤ n) : LO [o] n 1 := by
  refine ⟨fun x hx => by rw [List.mem_singleton] at hx; rw [hx]; exact hk, by show 2 * 1 ≤ n; omega, ?_, fun d hd => ?_⟩
  · have : ([o].flatMap encR).length ≤ 3 := by
      show (encR o ++ []).length ≤ 3
      unfold encR
      rcases ho with h | h | h
      · rw [if_pos h]; show 2 ≤ 3; omega
      · rw [if_neg (by omega), if_pos h]; show 3 ≤ 3; omega
      · rw [if_neg (by omega), if_neg (by omega), if_pos h]; show 3 ≤ 3; omega
    omega
  · show (if o.1 ≤ 3 then (if d < 50 then some (d + 1) else none) else _) = some (d + 1)
    rw [if_pos (by omega), if_pos (by omega)]
theorem th_l {f : Nat → PR} {g : Nat → List Op → PR} {p : Nat} (h : f i = .inl p) : thP f g i = .inl p := by unfold thP; rw [h]
theorem th_r {f : Nat → PR} {g : Nat → List Op → PR} {r : Nat × List Op} (h : f i = .inr r) : thP f g i = g r.1 r.2 := by unfold thP; rw [h]
theorem lp_g (F : PG e c2 f) (hk : k < 21) (ho : o = (5, 0, 0) ∨ o = (6, 0, 0)) (hc : c2 + 1 ≤ c) : ∀ d i l s, s < i → i ≤ e → LO l (i - s) c → (∀ p, lpP b e k o f d i l = .inl p → p ≤ e) ∧ ∀ r, lpP b e k o f d i l = .inr r → s < r.1 ∧ r.1 ≤ e ∧ LO r.2 (r.1 - s) c
  | 0, i, l, s, hs, hi, L => ⟨fun p h => (nomatch h), fun r h => by
    have h : Sum.inr (i, l) = (Sum.inr r : PR) := h
    cases h
    exact ⟨hs, hi, L⟩⟩
  | d + 1, i, l, s, hs, hi, L => by
    have e1 : lpP b e k o f (d + 1) i l = if wdB b e k (ik b e i) = true then thP f (fun i' l' => lpP b e k o f d i' (l ++ l' ++ [o])) (ik b e i + sN k) else .inr (ik b e i, l) := rfl
    obtain ⟨j1, j2⟩ := ik_le (b := b) hi
    rw [e1]
    by_cases w : wdB b e k (ik b e i) = true
    · rw [if_pos w]
      have w1 := (wd_i w).1
      have s2 := (sN_b k hk).1
      obtain ⟨F1, F2⟩ := F (ik b e i + sN k) w1
      cases q : f (ik b e i + sN k) with
      | inl p =>
        rw [th_l q]
        exact ⟨fun p' h => by cases h; exact F1 p q, fun r h => (nomatch h)⟩
      | inr r =>
        rw [th_r q]
        obtain ⟨r1, r2, r3⟩ := F2 r q
        exact lp_g F hk ho hc d r.1 (l ++ r.2 ++ [o]) s (by omega) r2 ((L.two r3 ho hc).mono (by omega) (Nat.le_refl _))
    · rw [if_neg w]
      exact ⟨fun p h => (nomatch h), fun r h => by
        cases h
        exact ⟨by omega, j2, L.mono (by show i - s ≤ ik b e i - s; omega) (Nat.le_refl _)⟩⟩
theorem al_g (F : PG e c f) : PG e (c + 1) (alP b e f) := fun i hi => by
  obtain ⟨F1, F2⟩ := F i hi
  unfold alP
  cases q : f i with
  | inl p =>
    rw [th_l q]
    exact ⟨fun p' h => by cases h; exact F1 p q, fun r h => (nomatch h)⟩
  | inr r =>
    rw [th_r q]
    obtain ⟨r1, r2, r3⟩ := F2 r q
    exact lp_g F (by omega) (Or.inl rfl) (Nat.le_refl _) (e + 1) r.1 r.2 i r1 r2 (r3.mono (Nat.le_refl _) (by omega))
theorem an_g (F : PG e c f) : PG e (c + 2) (anP b e f) := fun i hi => by
  have A := al_g (b := b) F
  obtain ⟨F1, F2⟩ := A i hi
  unfold anP
  cases q : alP b e f i with
  | inl p =>
    rw [th_l q]
    exact ⟨fun p' h => by cases h; exact F1 p q, fun r h => (nomatch h)⟩
  | inr r =>
    rw [th_r q]
    obtain ⟨r1, r2, r3⟩ := F2 r q
    exact lp_g A (by omega) (Or.inr rfl) (Nat.le_refl _) (e + 1) r.1 r.2 i r1 r2 (r3.mono (Nat.le_refl _) (by omega))
theorem nm_g {lo hi' : Nat} (h : i ≤ e) : (∀ p, nmP b e lo hi' i = .inl p → p ≤ e) ∧ ∀ r, nmP b e lo hi' i = .inr r → i < r.1 ∧ r.1 ≤ e ∧ lo ≤ r.2 ∧ r.2 ≤ hi' := by
  obtain ⟨j1, j2⟩ := ik_le (b := b) h
  have := dg_le (b := b) j2
  unfold nmP
  by_cases z : 1 ≤ dg b e (ik b e i) ∧ dg b e (ik b e i) ≤ 4 ∧ lo ≤ vlF b (ik b e i) (dg b e (ik b e i)) ∧ vlF b (ik b e i) (dg b e (ik b e i)) ≤ hi'
  · rw [if_pos z]
    exact ⟨fun p h => (nomatch h), fun r h => by cases h; exact ⟨by show i < ik b e i + dg b e (ik b e i); omega, this, z.2.2.1, z.2.2.2⟩⟩
  · rw [if_neg z]
    exact ⟨fun p h => by cases h; exact j2, fun r h => (nomatch h)⟩
theorem cm_g {how f : Nat} (hh : how = 2 ∨ how = 3) (hf : f < 6) (h : i ≤ e) : (∀ p, cmP b e how f i = .inl p → p ≤ e) ∧ ∀ r, cmP b e how f i = .inr r → i < r.1 ∧ r.1 ≤ e ∧ ∀ n, 3 ≤ n → LO r.2 n 1 := by
  obtain ⟨n1, n2⟩ := nm_g (b := b) (lo := 0) (hi' := 9999) h
  unfold cmP
  cases q : nmP b e 0 9999 i with
  | inl p => exact ⟨fun p' h => by cases h; exact n1 p q, fun r h => (nomatch h)⟩
  | inr r =>
    obtain ⟨r1, r2, r3, r4⟩ := n2 r q
    exact ⟨fun p h => (nomatch h), fun r' h => by cases h; exact ⟨r1, r2, fun n hn => LO.one (by rcases hh with rfl | rfl; exact Or.inr (Or.inl rfl); exact Or.inr (Or.inr rfl)) (Or.inr (Or.inl ⟨hh, hf, r4⟩)) hn⟩⟩
theorem fc_g {f : Nat} (hf : f < 6) (h : i ≤ e) : (∀ p, fcQ b e f i = .inl p → p ≤ e) ∧ ∀ r, fcQ b e f i = .inr r → i < r.1 ∧ r.1 ≤ e ∧ ∀ n, 3 ≤ n → LO r.2 n 1 := by
  obtain ⟨j1, j2⟩ := ik_le (b := b) h
  unfold fcQ
  by_cases z1 : ik b e i < e ∧ b (ik b e i) = 60
  · rw [if_pos z1]
    obtain ⟨c1, c2⟩ := cm_g (b := b) (e := e) (how := 2) (Or.inl rfl) hf (i := ik b e i + 1) (by omega)
    exact ⟨c1, fun r q => ⟨by have := (c2 r q).1; omega, (c2 r q).2⟩⟩
  · rw [if_neg z1]
    by_cases z2 : ik b e i < e ∧ b (ik b e i) = 62
    · rw [if_pos z2]
      obtain ⟨c1, c2⟩ := cm_g (b := b) (e := e) (how := 3) (Or.inr rfl) hf (i := ik b e i + 1) (by omega)
      exact ⟨c1, fun r q => ⟨by have := (c2 r q).1; omega, (c2 r q).2⟩⟩
    · rw [if_neg z2]
      exact ⟨fun p h => by cases h; exact j2, fun r h => (nomatch h)⟩
theorem lf_g (h : i ≤ e) (hj : j = ik b e i) : (∀ p, lfP b e j = .inl p → p ≤ e) ∧ ∀ r, lfP b e j = .inr r → i < r.1 ∧ r.1 ≤ e ∧ LO r.2 (r.1 - i) 1 := by
  obtain ⟨j1, j2⟩ := ik_le (b := b) h
  rw [← hj] at j1 j2
  have tg : ∀ t k, t < 3 → k < 21 → 3 ≤ sN k → wdB b e k j = true → (∀ p, (.inr (j + sN k, [(1, t, 0)]) : PR) = .inl p → p ≤ e) ∧ ∀ r, (.inr (j + sN k, [(1, t, 0)]) : PR) = .inr r → i < r.1 ∧ r.1 ≤ e ∧ LO r.2 (r.1 - i) 1 := fun t k ht hk h3 w => ⟨fun p h => (nomatch h), fun r h => by
    cases h
    exact ⟨by show i < j + sN k; omega, (wd_i w).1, LO.one (Or.inl rfl) (Or.inl ⟨rfl, ht⟩) (by show 3 ≤ j + sN k - i; omega)⟩⟩
  have fc : ∀ f k, f < 6 → k < 21 → 3 ≤ sN k → wdB b e k j = true → (∀ p, fcQ b e f (j + sN k) = .inl p → p ≤ e) ∧ ∀ r, fcQ b e f (j + sN k) = .inr r → i < r.1 ∧ r.1 ≤ e ∧ LO r.2 (r.1 - i) 1 := fun f k hf hk h3 w => by
    obtain ⟨c1, c2⟩ := fc_g (b := b) hf (wd_i w).1
    exact ⟨c1, fun r q => by
      obtain ⟨d1, d2, d3⟩ := c2 r q
      exact ⟨by omega, d2, d3 _ (by omega)⟩⟩
  unfold lfP
  by_cases w8 : wdB b e 8 j = true
  · rw [if_pos w8]; exact tg 0 8 (by omega) (by omega) (by decide) w8
  rw [if_neg w8]
  by_cases w10 : wdB b e 10 j = true
  · rw [if_pos w10]; exact tg 1 10 (by omega) (by omega) (by decide) w10
  rw [if_neg w10]
  by_cases w4 : wdB b e 4 j = true
  · rw [if_pos w4]; exact tg 2 4 (by omega) (by omega) (by decide) w4
  rw [if_neg w4]
  by_cases w20 : wdB b e 20 j = true
  · rw [if_pos w20]; exact fc 0 20 (by omega) (by omega) (by decide) w20
  rw [if_neg w20]
  by_cases w2 : wdB b e 2 j = true
  · rw [if_pos w2]; exact fc 1 2 (by omega) (by omega) (by decide) w2
  rw [if_neg w2]
  by_cases w5 : wdB b e 5 j = true
  · rw [if_pos w5]; exact fc 2 5 (by omega) (by omega) (by decide) w5
  rw [if_neg w5]
  by_cases w14 : wdB b e 14 j = true
  · rw [if_pos w14]; exact fc 3 14 (by omega) (by omega) (by decide) w14
  rw [if_neg w14]
  by_cases w11 : wdB b e 11 j = true
  · rw [if_pos w11]; exact fc 4 11 (by omega) (by omega) (by decide) w11
  rw [if_neg w11]
  by_cases w12 : wdB b e 12 j = true
  · rw [if_pos w12]; exact fc 5 12 (by omega) (by omega) (by decide) w12
  rw [if_neg w12]
  exact ⟨fun p h => by cases h; exact j2, fun r h => (nomatch h)⟩
theorem at_g : ∀ k, PG e (2 * k + 1) (atP b e k)
  | 0, i, hi => by
    have e1 : atP b e 0 i = if wdB b e 15 (ik b e i) = true then .inl (ik b e i) else if ik b e i < e ∧ b (ik b e i) = 40 then .inl (ik b e i) else lfP b e (ik b e i) := rfl
    have j2 := (ik_le (b := b) hi).2
    rw [e1]
    by_cases w : wdB b e 15 (ik b e i) = true
    · rw [if_pos w]
      exact ⟨fun p h => by cases h; exact j2, fun r h => (nomatch h)⟩
    · rw [if_neg w]
      by_cases y : ik b e i < e ∧ b (ik b e i) = 40
      · rw [if_pos y]
        exact ⟨fun p h => by cases h; exact j2, fun r h => (nomatch h)⟩
      · rw [if_neg y]
        exact lf_g hi rfl
  | k + 1, i, hi => by
    have e1 : atP b e (k + 1) i = if wdB b e 15 (ik b e i) = true then thP (atP b e k) (fun i' l => .inr (i', l ++ [(4, 0, 0)])) (ik b e i + sN 15) else if ik b e i < e ∧ b (ik b e i) = 40 then thP (anP b e (atP b e k)) (clQ b e) (ik b e i + 1) else lfP b e (ik b e i) := rfl
    obtain ⟨j1, j2⟩ := ik_le (b := b) hi
    have ih : PG e (2 * k + 1) (atP b e k) := at_g k
    rw [e1]
    by_cases w : wdB b e 15 (ik b e i) = true
    · rw [if_pos w]
      have w1 := (wd_i w).1
      have s15 : sN 15 = 3 := by decide
      obtain ⟨F1, F2⟩ := ih (ik b e i + sN 15) w1
      cases q : atP b e k (ik b e i + sN 15) with
      | inl p =>
        rw [th_l q]
        exact ⟨fun p' h => by cases h; exact F1 p q, fun r h => (nomatch h)⟩
      | inr r =>
        rw [th_r q]
        obtain ⟨r1, r2, r3⟩ := F2 r q
        exact ⟨fun p h => (nomatch h), fun r' h => by cases h; exact ⟨by show i < r.1; omega, r2, r3.not.mono (by show r.1 - (ik b e i + sN 15) + 2 ≤ r.1 - i; omega) (by omega)⟩⟩
    · rw [if_neg w]
      by_cases y : ik b e i < e ∧ b (ik b e i) = 40
      · rw [if_pos y]
        obtain ⟨F1, F2⟩ := an_g (b := b) ih (ik b e i + 1) (by omega)
        cases q : anP b e (atP b e k) (ik b e i + 1) with
        | inl p =>
          rw [th_l q]
          exact ⟨fun p' h => by cases h; exact F1 p q, fun r h => (nomatch h)⟩
        | inr r =>
          rw [th_r q]
          obtain ⟨r1, r2, r3⟩ := F2 r q
          obtain ⟨q1, q2⟩ := ik_le (b := b) r2
          unfold clQ
          by_cases x : ik b e r.1 < e ∧ b (ik b e r.1) = 41
          · rw [if_pos x]
            exact ⟨fun p h => (nomatch h), fun r' h => by cases h; exact ⟨by show i < ik b e r.1 + 1; omega, by show ik b e r.1 + 1 ≤ e; omega, r3.mono (by show r.1 - (ik b e i + 1) ≤ ik b e r.1 + 1 - i; omega) (by omega)⟩⟩
          · rw [if_neg x]
            exact ⟨fun p h => by cases h; exact q2, fun r h => (nomatch h)⟩
      · rw [if_neg y]
        obtain ⟨l1, l2⟩ := lf_g hi (rfl : ik b e i = ik b e i)
        exact ⟨l1, fun r q => ⟨(l2 r q).1, (l2 r q).2.1, (l2 r q).2.2.mono (Nat.le_refl _) (by omega)⟩⟩
end
