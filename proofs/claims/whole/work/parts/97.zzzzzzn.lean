/-! style: rules, the pure picture -/
abbrev Rl : Type := (Nat × Nat × Nat) × List Op
abbrev RuR : Type := Nat ⊕ (Nat × Rl)
abbrev dRl : Rl := ((0, 0, 0), [])
def nmR (b : Nat → Nat) (e k lo hi i : Nat) : RuR := match nmP b e lo hi i with
  | .inl p => .inl p
  | .inr r => .inr (r.1, ((k, r.2, 0), []))
noncomputable def ifR (b : Nat → Nat) (e : Nat) (must : Bool) (x : Nat × Nat × Nat) (i : Nat) : RuR := if wdB b e 9 (ik b e i) = true then (match anP b e (atP b e 5) (ik b e i + sN 9) with
  | .inl p => .inl p
  | .inr r => .inr (r.1, (x, r.2))) else if must = true then .inl (ik b e i) else .inr (ik b e i, (x, []))
noncomputable def nfR (b : Nat → Nat) (e k lo hi i : Nat) : RuR := match nmP b e lo hi i with
  | .inl p => .inl p
  | .inr r => ifR b e false (k, r.2, 0) r.1
def spR (b : Nat → Nat) (e i : Nat) : RuR := match nmP b e 1 40 i with
  | .inl p => .inl p
  | .inr r => match nmP b e r.2 40 r.1 with
    | .inl p => .inl p
    | .inr s => .inr (s.1, ((1, r.2, s.2), []))
noncomputable def clR (b : Nat → Nat) (e i : Nat) : RuR := match nmP b e 0 5 i with
  | .inl p => .inl p
  | .inr r => if wdB b e 1 (ik b e r.1) = true then (match nmP b e 0 600 (ik b e r.1 + sN 1) with
    | .inl p => .inl p
    | .inr s => .inr (s.1, ((6, r.2, s.2), []))) else .inl (ik b e r.1)
/-- a rule at i -/
noncomputable def ruP (b : Nat → Nat) (e i : Nat) : RuR :=
  if wdB b e 13 (ik b e i) = true then nfR b e 0 10 400 (ik b e i + sN 13) else if wdB b e 19 (ik b e i) = true then spR b e (ik b e i + sN 19) else if wdB b e 17 (ik b e i) = true then nmR b e 2 0 999 (ik b e i + sN 17) else if wdB b e 6 (ik b e i) = true then nmR b e 3 0 99 (ik b e i + sN 6) else if wdB b e 18 (ik b e i) = true then nfR b e 4 0 999 (ik b e i + sN 18) else if wdB b e 7 (ik b e i) = true then ifR b e true (5, 0, 0) (ik b e i + sN 7) else if wdB b e 3 (ik b e i) = true then clR b e (ik b e i + sN 3) else .inl (ik b e i)
/-- what a rule's reading yields -/
def RG (b : Nat → Nat) (e i : Nat) (R : RuR) : Prop := (∀ p, R = .inl p → p ≤ e) ∧ ∀ q, R = .inr q → i ≤ q.1 ∧ q.1 ≤ e ∧ q.2.1.1 ≤ 6 ∧ q.2.1.2.1 ≤ 999 ∧ q.2.1.2.2 ≤ 999 ∧ 2 * q.2.2.length ≤ q.1 - i ∧ (q.2.2.flatMap encR).length ≤ q.1 - i ∧ (∀ o ∈ q.2.2, okOp o) ∧ (q.2.2 = [] ∨ dpO q.2.2 0 = some 1)
def ceL (rs : List Rl) : Nat → Nat
  | 0 => 0
  | r + 1 => ceL rs r + (rs.getD r dRl).2.length
def poL (rs : List Rl) : Nat → Nat
  | 0 => 62
  | r + 1 => poL rs r + ((rs.getD r dRl).2.flatMap encR).length
section
variable {b : Nat → Nat} {e c k i j n a lo hi : Nat} {must : Bool} {x : Nat × Nat × Nat} {rs : List Rl} {t : Rl} {R : RuR}
theorem getD_ap {α : Type} : ∀ (l : List α) (o d : α) (i : Nat), (l ++ [o]).getD i d = if i < l.length then l.getD i d else if i = l.length then o else d
  | [], o, d, 0 => rfl
  | [], o, d, i + 1 => by
    show d = if i + 1 < 0 then d else if i + 1 = 0 then o else d
    rw [if_neg (show ¬ i + 1 < 0 by omega), if_neg (show ¬ i + 1 = 0 by omega)]
  | x :: l, o, d, 0 => by
    show x = if 0 < l.length + 1 then x else _
    rw [if_pos (by omega)]
  | x :: l, o, d, i + 1 => by
    have ih := getD_ap l o d i
    show (l ++ [o]).getD i d = if i + 1 < l.length + 1 then l.getD i d else if i + 1 = l.length + 1 then o else d
    rw [ih]
    by_cases z : i < l.length
    · rw [if_pos z, if_pos (by omega)]
    · rw [if_neg z, if_neg (show ¬ i + 1 < l.length + 1 by omega)]
      by_cases w : i = l.length
      · rw [if_pos w, if_pos (by omega)]
      · rw [if_neg w, if_neg (show ¬ i + 1 = l.length + 1 by omega)]
theorem gD_l (h : i < rs.length) : (rs ++ [t]).getD i dRl = rs.getD i dRl := by rw [getD_ap, if_pos h]
theorem gD_e : (rs ++ [t]).getD rs.length dRl = t := by rw [getD_ap, if_neg (by omega), if_pos rfl]
theorem ceL_app : ∀ k, k ≤ rs.length → ceL (rs ++ [t]) k = ceL rs k
  | 0, _ => rfl
  | k + 1, h => by
    show ceL (rs ++ [t]) k + ((rs ++ [t]).getD k dRl).2.length = ceL rs k + (rs.getD k dRl).2.length
    rw [ceL_app k (by omega), gD_l (by omega)]
theorem ceL_end : ceL (rs ++ [t]) (rs.length + 1) = ceL rs rs.length + t.2.length := by
  show ceL (rs ++ [t]) rs.length + ((rs ++ [t]).getD rs.length dRl).2.length = _
  rw [ceL_app _ (Nat.le_refl _), gD_e]
theorem ceL_mono {i : Nat} : ∀ k, i ≤ k → ceL rs i ≤ ceL rs k
  | 0, h => by
    have : i = 0 := by omega
    subst this
    exact Nat.le_refl _
  | k + 1, h => by
    by_cases z : i = k + 1
    · rw [z]; exact Nat.le_refl _
    · have : ceL rs i ≤ ceL rs k := ceL_mono k (by omega)
      show ceL rs i ≤ ceL rs k + _
      omega
theorem poL_app : ∀ k, k ≤ rs.length → poL (rs ++ [t]) k = poL rs k
  | 0, _ => rfl
  | k + 1, h => by
    show poL (rs ++ [t]) k + (((rs ++ [t]).getD k dRl).2.flatMap encR).length = poL rs k + ((rs.getD k dRl).2.flatMap encR).length
    rw [poL_app k (by omega), gD_l (by omega)]
theorem poL_end : poL (rs ++ [t]) (rs.length + 1) = poL rs rs.length + (t.2.flatMap encR).length := by
  show poL (rs ++ [t]) rs.length + (((rs ++ [t]).getD rs.length dRl).2.flatMap encR).length = _
  rw [poL_app _ (Nat.le_refl _), gD_e]
theorem poL_mono {i : Nat} : ∀ k, i ≤ k → poL rs i ≤ poL rs k
  | 0, h => by
    have : i = 0 := by omega
    subst this
    exact Nat.le_refl _
  | k + 1, h => by
    by_cases z : i = k + 1
    · rw [z]; exact Nat.le_refl _
    · have : poL rs i ≤ poL rs k := poL_mono k (by omega)
      show poL rs i ≤ poL rs k + _
      omega
theorem nm_ik (h : ik b e a = ik b e i) : nmP b e lo hi a = nmP b e lo hi i := by unfold nmP; rw [h]
theorem RG.wk (h : RG b e j R) (hi : i ≤ j) : RG b e i R := ⟨h.1, fun q hq => by
  obtain ⟨a1, a2, a3, a4, a5, a6, a7, a8⟩ := h.2 q hq
  exact ⟨by omega, a2, a3, a4, a5, by omega, by omega, a8⟩⟩
theorem RG.no (h : j ≤ e) : RG b e i (.inl j) := ⟨fun p hp => by cases hp; exact h, fun q hq => (nomatch hq)⟩
theorem RG.bare (h : i ≤ j) (je : j ≤ e) {k n m : Nat} (hk : k ≤ 6) (hn : n ≤ 999) (hm : m ≤ 999) : RG b e i (.inr (j, ((k, n, m), []))) := ⟨fun p hp => (nomatch hp), fun q hq => by
  cases hq
  exact ⟨h, je, hk, hn, hm, Nat.zero_le _, Nat.zero_le _, fun o ho => (nomatch ho), Or.inl rfl⟩⟩
theorem ifR_g (h : i ≤ e) (hk : x.1 ≤ 6) (hn : x.2.1 ≤ 999) (hm : x.2.2 ≤ 999) : RG b e i (ifR b e must x i) := by
  obtain ⟨j1, j2⟩ := ik_le (b := b) h
  unfold ifR
  by_cases w : wdB b e 9 (ik b e i) = true
  · rw [if_pos w]
    have w1 := (wd_i w).1
    obtain ⟨G1, G2⟩ := an_g (b := b) (at_g (b := b) (e := e) 5) (ik b e i + sN 9) w1
    cases q : anP b e (atP b e 5) (ik b e i + sN 9) with
    | inl p => exact RG.no (G1 p q)
    | inr r =>
      obtain ⟨g1, g2, g3, g4, g5, g6⟩ := G2 r q
      exact ⟨fun p hp => (nomatch hp), fun q' hq => by
        cases hq
        exact ⟨by show i ≤ r.1; omega, g2, hk, hn, hm, by show 2 * r.2.length ≤ r.1 - i; omega, by show (r.2.flatMap encR).length ≤ r.1 - i; omega, g3, Or.inr (g6 0 (by omega))⟩⟩
  · rw [if_neg w]
    by_cases z : must = true
    · rw [if_pos z]; exact RG.no j2
    · rw [if_neg z]; exact RG.bare j1 j2 hk hn hm
theorem nmR_g (h : i ≤ e) (hk : k ≤ 6) (hhi : hi ≤ 999) : RG b e i (nmR b e k lo hi i) := by
  obtain ⟨n1, n2⟩ := nm_g (b := b) (lo := lo) (hi' := hi) h
  unfold nmR
  cases q : nmP b e lo hi i with
  | inl p => exact RG.no (n1 p q)
  | inr r =>
    obtain ⟨r1, r2, r3, r4⟩ := n2 r q
    exact RG.bare (by omega) r2 hk (by omega) (Nat.zero_le _)
theorem nfR_g (h : i ≤ e) (hk : k ≤ 6) (hhi : hi ≤ 999) : RG b e i (nfR b e k lo hi i) := by
  obtain ⟨n1, n2⟩ := nm_g (b := b) (lo := lo) (hi' := hi) h
  unfold nfR
  cases q : nmP b e lo hi i with
  | inl p => exact RG.no (n1 p q)
  | inr r =>
    obtain ⟨r1, r2, r3, r4⟩ := n2 r q
    exact (ifR_g (x := (k, r.2, 0)) r2 hk (by show r.2 ≤ 999; omega) (Nat.zero_le _)).wk (by omega)
theorem spR_g (h : i ≤ e) : RG b e i (spR b e i) := by
  obtain ⟨n1, n2⟩ := nm_g (b := b) (lo := 1) (hi' := 40) h
  unfold spR
  cases q : nmP b e 1 40 i with
  | inl p => exact RG.no (n1 p q)
  | inr r =>
    obtain ⟨r1, r2, r3, r4⟩ := n2 r q
    obtain ⟨m1, m2⟩ := nm_g (b := b) (lo := r.2) (hi' := 40) r2
    show RG b e i (match nmP b e r.2 40 r.1 with
      | .inl p => .inl p
      | .inr s => .inr (s.1, ((1, r.2, s.2), [])))
    cases q2 : nmP b e r.2 40 r.1 with
    | inl p => exact RG.no (m1 p q2)
    | inr s =>
      obtain ⟨s1, s2, s3, s4⟩ := m2 s q2
      exact RG.bare (by omega) s2 (by omega) (by omega) (by omega)
theorem clR_g (h : i ≤ e) : RG b e i (clR b e i) := by
  obtain ⟨n1, n2⟩ := nm_g (b := b) (lo := 0) (hi' := 5) h
  unfold clR
  cases q : nmP b e 0 5 i with
  | inl p => exact RG.no (n1 p q)
  | inr r =>
    obtain ⟨r1, r2, r3, r4⟩ := n2 r q
    obtain ⟨j1, j2⟩ := ik_le (b := b) r2
    show RG b e i (if wdB b e 1 (ik b e r.1) = true then _ else _)
    by_cases w : wdB b e 1 (ik b e r.1) = true
    · rw [if_pos w]
      have w1 := (wd_i w).1
      obtain ⟨m1, m2⟩ := nm_g (b := b) (lo := 0) (hi' := 600) w1
      cases q2 : nmP b e 0 600 (ik b e r.1 + sN 1) with
      | inl p => exact RG.no (m1 p q2)
      | inr s =>
        obtain ⟨s1, s2, s3, s4⟩ := m2 s q2
        exact RG.bare (by omega) s2 (by omega) (by omega) (by omega)
    · rw [if_neg w]; exact RG.no j2
theorem ruP_g (h : i ≤ e) : RG b e (i + 1) (ruP b e i) := by
  obtain ⟨j1, j2⟩ := ik_le (b := b) h
  have st : ∀ {k R}, k < 21 → wdB b e k (ik b e i) = true → RG b e (ik b e i + sN k) R → RG b e (i + 1) R := fun {k R} hk w H => H.wk (by have := (sN_b k hk).1; omega)
  unfold ruP
  by_cases w13 : wdB b e 13 (ik b e i) = true
  · rw [if_pos w13]; exact st (by omega) w13 (nfR_g (wd_i w13).1 (by omega) (by omega))
  rw [if_neg w13]
  by_cases w19 : wdB b e 19 (ik b e i) = true
  · rw [if_pos w19]; exact st (by omega) w19 (spR_g (wd_i w19).1)
  rw [if_neg w19]
  by_cases w17 : wdB b e 17 (ik b e i) = true
  · rw [if_pos w17]; exact st (by omega) w17 (nmR_g (wd_i w17).1 (by omega) (by omega))
  rw [if_neg w17]
  by_cases w6 : wdB b e 6 (ik b e i) = true
  · rw [if_pos w6]; exact st (by omega) w6 (nmR_g (wd_i w6).1 (by omega) (by omega))
  rw [if_neg w6]
  by_cases w18 : wdB b e 18 (ik b e i) = true
  · rw [if_pos w18]; exact st (by omega) w18 (nfR_g (wd_i w18).1 (by omega) (by omega))
  rw [if_neg w18]
  by_cases w7 : wdB b e 7 (ik b e i) = true
  · rw [if_pos w7]; exact st (by omega) w7 (ifR_g (wd_i w7).1 (by show 5 ≤ 6; omega) (Nat.zero_le _) (Nat.zero_le _))
  rw [if_neg w7]
  by_cases w3 : wdB b e 3 (ik b e i) = true
  · rw [if_pos w3]; exact st (by omega) w3 (clR_g (wd_i w3).1)
  rw [if_neg w3]
  exact RG.no j2
end
