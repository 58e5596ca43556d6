/-! correct: lines of the class's part: which is opened, where it begins, new ones -/
/-- the first from j on of n that B isn't true of -/
def fsB (B : Nat → Bool) : Nat → Nat → Nat
  | 0, j => j
  | d + 1, j => if B j = true then fsB B d (j + 1) else j
section
variable {h g : Hp} {m M : Nat → Int32} {p q f op fr n b np : Nat} {B : Nat → Bool} {c : Nat → Nat}
theorem fsB_u {k : Nat} : ∀ d j, j ≤ k → k ≤ j + d → (∀ i, j ≤ i → i < k → B i = true) → (k = j + d ∨ B k = false) → fsB B d j = k
  | 0, j, h1, h2, _, _ => by
    show j = k
    omega
  | d + 1, j, h1, h2, h3, h4 => by
    show (if B j = true then fsB B d (j + 1) else j) = k
    by_cases z : j = k
    · subst z
      rcases h4 with w | w
      · omega
      · rw [if_neg (by rw [w]; decide)]
    · rw [if_pos (h3 j (Nat.le_refl _) (by omega))]
      exact fsB_u d (j + 1) (by omega) (by omega) (fun i h5 h6 => h3 i (by omega) h6) (by
        rcases h4 with w | w
        · exact Or.inl (by omega)
        · exact Or.inr w)
theorem fsB_p : ∀ d j, j ≤ fsB B d j ∧ fsB B d j ≤ j + d ∧ ∀ i, j ≤ i → i < fsB B d j → B i = true
  | 0, j => ⟨Nat.le_refl j, Nat.le_refl j, fun i h1 h2 => by
    have h2 : i < j := h2
    omega⟩
  | d + 1, j => by
    have ih := fsB_p d (j + 1)
    have e : fsB B (d + 1) j = if B j = true then fsB B d (j + 1) else j := rfl
    rw [e]
    by_cases z : B j = true
    · rw [if_pos z]
      refine ⟨by omega, by omega, fun i h1 h2 => ?_⟩
      by_cases w : i = j
      · rw [w]; exact z
      · exact ih.2.2 i (by omega) h2
    · rw [if_neg z]
      exact ⟨Nat.le_refl _, by omega, fun i h1 h2 => by omega⟩
/-- the line of a piece -/
theorem c_lineOf (PS : PtS h p) (PV : PtV h p m q) (J : MIp m q) (u3 : m (130 + 645 * q + 3) = nI 1) (hf : f < Nn m (130 + 645 * q + 1)) : ∃ op, MX5_lineOf h p (nI f) = some (nI op) ∧ OPn m q f op := by
  obtain ⟨e4, l40⟩ := J.2.2.2.2.2.1.eq (by omega)
  obtain ⟨-, sl1, sl, sp⟩ := J.2.2.2.2.2.2.2.2.2.2.2 u3
  have c9 : gI h p 9 = nI (Nn m (130 + 645 * q + 4)) := by rw [PV.2.2.2.2.2.2.2.1, if_pos u3, e4]
  have cl := PV.2.2.2.2.2.2.2.2 u3
  obtain ⟨-, s3k, s3l⟩ := PS.2.2.2.2.1
  have st : ∀ l, l < Nn m (130 + 645 * q + 4) → BX5_lineOf_2 h p (nI f) (nI l) = if Nn m (130 + 645 * q + 5 + l) < f then some (.inl (nI (l + 1))) else some (.inr (nI l)) := fun l hl => by
    obtain ⟨d1, d2⟩ := (sp l hl).1.eq (by omega)
    unfold BX5_lineOf_2
    simp only [ZL]
    have hn40 := (J.2.1.eq (by omega)).2
    rw [gg_t PS.1, c9, if_neg (nI_ge hl (by omega)), gg_t s3k, s3l, gg_in (by omega) (by omega), nCl (by omega), (cl l hl).1, d1, nAdd]
    by_cases z : Nn m (130 + 645 * q + 5 + l) < f
    · rw [if_pos (nI_lt z (by omega)), if_pos z]
    · rw [if_neg (nI_nlt (by omega) (by omega)), if_neg z]
  have K : ∀ d l, l + d = Nn m (130 + 645 * q + 4) → (∀ j, j < l → Nn m (130 + 645 * q + 5 + j) < f) → ∃ op, it (fun x : Int32 => BX5_lineOf_2 h p (nI f) x) (nI l) = some (nI op) ∧ OPn m q f op := fun d => by
    induction d with
    | zero =>
      intro l hl hx
      have := hx (Nn m (130 + 645 * q + 4) - 1) (by omega)
      omega
    | succ d ih =>
      intro l hl hx
      have s := st l (by omega)
      by_cases z : Nn m (130 + 645 * q + 5 + l) < f
      · rw [if_pos z] at s
        obtain ⟨op, k1, k2⟩ := ih (l + 1) (by omega) (fun j hj => by
          by_cases w : j = l
          · rw [w]; exact z
          · exact hx j (by omega))
        exact ⟨op, by rw [it_next (s' := nI (l + 1)) s]; exact k1, k2⟩
      · rw [if_neg z] at s
        exact ⟨l, it_done s, by omega, by omega, hx⟩
  obtain ⟨op, k1, k2⟩ := K (Nn m (130 + 645 * q + 4)) 0 (Nat.zero_add _) (fun j hj => absurd hj (by omega))
  exact ⟨op, by unfold MX5_lineOf MX5_lineOf_2; exact k1, k2⟩
theorem c_fbl (PS : PtS h p) (PV : PtV h p m q) (J : MIp m q) (u3 : m (130 + 645 * q + 3) = nI 1) (ho : op < Nn m (130 + 645 * q + 4)) : MX5_firstBitOfLine h p (nI op) = some (nI (bgN m q op)) := by
  obtain ⟨e4, l40⟩ := J.2.2.2.2.2.1.eq (by omega)
  obtain ⟨-, sl1, sl, sp⟩ := J.2.2.2.2.2.2.2.2.2.2.2 u3
  have c9 : gI h p 9 = nI (Nn m (130 + 645 * q + 4)) := by rw [PV.2.2.2.2.2.2.2.1, if_pos u3, e4]
  have cl := PV.2.2.2.2.2.2.2.2 u3
  obtain ⟨-, s3k, s3l⟩ := PS.2.2.2.2.1
  unfold MX5_firstBitOfLine bgN
  simp only [ZL]
  by_cases z : op = 0
  · rw [if_pos (nI_le (by omega) (by omega)), if_pos z]
  · obtain ⟨d1, d2⟩ := (sp (op - 1) (by omega)).1.eq (by omega)
    rw [if_neg (nI_ge (by omega) (by omega)), if_neg z, gg_t PS.1, c9, if_neg (nI_nlt (by omega) (by omega)), gg_t s3k, s3l, pk_sub (by omega), gg_in (by omega) (by omega), nCl (by omega), (cl (op - 1) (by omega)).1, d1, nAdd]
/-- a part's copy, whatever else it says -/
theorem ptX_of {M0 : Nat → Int32} (V : PtV h p M0 q) (e0 : M (130 + 645 * q) = M0 (130 + 645 * q)) (e1 : M (130 + 645 * q + 1) = M0 (130 + 645 * q + 1)) (e70 : M (70 + q / 5) = M0 (70 + q / 5)) (e90 : M (90 + q / 5) = M0 (90 + q / 5)) (ep : ∀ y, 130 + 645 * q + 85 ≤ y → M y = M0 y) : PtX h p M q := by
  obtain ⟨v5, v6, v7, v8, -, -, vb, -, -⟩ := V
  unfold PtX
  rw [e0, e1, e70, e90, Nn.c e1]
  refine ⟨v5, v6, v7, v8, trivial, trivial, fun b hb => ?_, trivial, trivial⟩
  obtain ⟨w1, w2, w3⟩ := vb b hb
  rw [ep (130 + 645 * q + 85 + b) (by omega), ep (130 + 645 * q + 85 + (b + 1)) (by omega), ep (130 + 645 * q + 125 + b) (by omega), Nn.c (ep (130 + 645 * q + 125 + b) (by omega))]
  exact ⟨w1, w2, fun i hi => by rw [ep _ (by omega)]; exact w3 i hi⟩
/-- lines from line op on are put into a part -/
theorem c_putLg (kb : kd g b = 0) (b6 : gI g b 6 = nI np) (a12 : kd g (gP g b 12) = 20 ∧ ln g (gP g b 12) = 41) (kp : kd g p = 4) (a3 : kd g (gP g p 3) = 20 ∧ ln g (gP g p 3) = 40) (a4 : kd g (gP g p 4) = 20 ∧ ln g (gP g p 4) = 40) (nb : ∀ y, y = b ∨ y = gP g b 12 ∨ y = p → Nq y (gP g p 3) ∧ Nq y (gP g p 4)) (n34 : Nq (gP g p 3) (gP g p 4)) (hn : op + n ≤ 40) (hnp : np ≤ 40) (c0 : c 0 = fr) (cn : c n = np) (cm : ∀ j, j < n → c j < c (j + 1) ∧ c (j + 1) ≤ np) (e12 : ∀ j, j < n → gI g (gP g b 12) (c j) = nI (c (j + 1) - 1)) : ∃ g2, MX0_putLines g b p (nI op) (nI fr) = some g2 ∧ (Fr (fun y => y = gP g p 3 ∨ y = gP g p 4 ∨ y = p) g g2 ∧ (∀ y, gI g2 p y = if y = 9 then nI (op + n) else gI g p y) ∧ (∀ j, gI g2 (gP g p 3) j = if op ≤ j ∧ j < op + n then nI (c (j - op + 1) - 1) else gI g (gP g p 3) j) ∧ ∀ j, gI g2 (gP g p 4) j = if op ≤ j ∧ j < op + n then -nI 1 else gI g (gP g p 4) j) := by
  unfold MX0_putLines MX0_putLines_6
  refine it_cnt (fun k s => s.1 = nI (op + k) ∧ s.2.1 = nI (c k) ∧ Fr (fun y => y = gP g p 3 ∨ y = gP g p 4) g s.2.2 ∧ (∀ j, gI s.2.2 (gP g p 3) j = if op ≤ j ∧ j < op + k then nI (c (j - op + 1) - 1) else gI g (gP g p 3) j) ∧ ∀ j, gI s.2.2 (gP g p 4) j = if op ≤ j ∧ j < op + k then -nI 1 else gI g (gP g p 4) j) n (fun k s hj pp => ?_) (fun s pp => ?_) ⟨rfl, by rw [c0], Fr.rfl, fun i => by rw [if_neg (by omega)], fun i => by rw [if_neg (by omega)]⟩
  · obtain ⟨u, w, z⟩ := s
    obtain ⟨p1, p2, p3, p4, p5⟩ := pp
    replace p1 : u = nI (op + k) := p1
    replace p2 : w = nI (c k) := p2
    replace p3 : Fr (fun y => y = gP g p 3 ∨ y = gP g p 4) g z := p3
    replace p4 : ∀ j, gI z (gP g p 3) j = if op ≤ j ∧ j < op + k then nI (c (j - op + 1) - 1) else gI g (gP g p 3) j := p4
    replace p5 : ∀ j, gI z (gP g p 4) j = if op ≤ j ∧ j < op + k then -nI 1 else gI g (gP g p 4) j := p5
    subst p1 p2
    obtain ⟨m1, m2⟩ := cm k hj
    have keep : ∀ y, y = b ∨ y = gP g b 12 ∨ y = p → gI z y = gI g y := fun y hy => p3.2.2.2.2.2.2 _ (fun w => by
      obtain ⟨d1, d2⟩ := nb y hy
      rcases w with w | w
      · exact d1 w
      · exact d2 w)
    obtain ⟨z1, hz1⟩ : ∃ z1, z1 = sI z (gP g p 3) (op + k) (nI (c (k + 1) - 1)) := ⟨_, rfl⟩
    obtain ⟨z2, hz2⟩ : ∃ z2, z2 = sI z1 (gP g p 4) (op + k) (-nI 1) := ⟨_, rfl⟩
    have F2 : Fr (fun y => y = gP g p 3 ∨ y = gP g p 4) z z2 := by rw [hz2, hz1]; exact (Fr.sI (Or.inl rfl)).trans (Fr.sI (Or.inr rfl))
    have g12 : gI z2 (gP g b 12) (c k) = nI (c (k + 1) - 1) := by
      rw [F2.2.2.2.2.2.2 _ (fun w => by
        obtain ⟨d1, d2⟩ := nb _ (Or.inr (Or.inl rfl))
        rcases w with w | w
        · exact d1 w
        · exact d2 w), keep _ (Or.inr (Or.inl rfl))]
      exact e12 k hj
    refine ⟨(nI (op + (k + 1)), nI (c (k + 1)), z2), ?_, rfl, rfl, p3.trans F2, fun i => ?_, fun i => ?_⟩
    · show BX0_putLines_6 z b p (nI (op + k)) (nI (c k)) = _
      unfold BX0_putLines_6
      simp only [ZL]
      rw [p3.1, p3.2.1, p3.2.2.1, gg_t kb, keep b (Or.inl rfl), b6, if_neg (nI_ge (by omega) (by omega)), if_neg (nI_ge (by omega) (by omega)), gg_t kp, gg_t a12.1, a12.2, gg_in (by omega) (by omega), gg_t a3.1, a3.2, gg_in (by omega) (by omega), nCl (by omega), nCl (by omega), keep _ (Or.inr (Or.inl rfl)), e12 k hj, lt_eq, ← hz1, gg_t a4.1, a4.2, gg_in (by omega) (by omega), lt_eq, ← hz2, g12, nAdd, nAdd, show c (k + 1) - 1 + 1 = c (k + 1) by omega, Nat.add_assoc]
    · show gI z2 (gP g p 3) i = _
      rw [hz2, gI_sI, if_neg n34.n, hz1, gI_sI, if_pos rfl, up_at, p4]
      by_cases e : i = op + k
      · rw [if_pos e, if_pos (by omega), show i - op = k by omega]
      · rw [if_neg e]
        by_cases e2 : op ≤ i ∧ i < op + k
        · rw [if_pos e2, if_pos (by omega)]
        · rw [if_neg e2, if_neg (by omega)]
    · show gI z2 (gP g p 4) i = _
      rw [hz2, gI_sI, if_pos rfl, up_at, hz1, gI_sI, if_neg n34.symm.n, p5]
      by_cases e : i = op + k
      · rw [if_pos e, if_pos (by omega)]
      · rw [if_neg e]
        by_cases e2 : op ≤ i ∧ i < op + k
        · rw [if_pos e2, if_pos (by omega)]
        · rw [if_neg e2, if_neg (by omega)]
  · obtain ⟨u, w, z⟩ := s
    obtain ⟨p1, p2, p3, p4, p5⟩ := pp
    replace p1 : u = nI (op + n) := p1
    replace p2 : w = nI (c n) := p2
    replace p3 : Fr (fun y => y = gP g p 3 ∨ y = gP g p 4) g z := p3
    replace p4 : ∀ j, gI z (gP g p 3) j = if op ≤ j ∧ j < op + n then nI (c (j - op + 1) - 1) else gI g (gP g p 3) j := p4
    replace p5 : ∀ j, gI z (gP g p 4) j = if op ≤ j ∧ j < op + n then -nI 1 else gI g (gP g p 4) j := p5
    subst p1 p2
    have keep : ∀ y, y = b ∨ y = gP g b 12 ∨ y = p → gI z y = gI g y := fun y hy => p3.2.2.2.2.2.2 _ (fun w => by
      obtain ⟨d1, d2⟩ := nb y hy
      rcases w with w | w
      · exact d1 w
      · exact d2 w)
    obtain ⟨d1, d2⟩ := nb p (Or.inr (Or.inr rfl))
    refine ⟨sI z p 9 (nI (op + n)), ?_, (p3.mono (fun y w => by rcases w with w | w; exact Or.inl w; exact Or.inr (Or.inl w))).trans (Fr.sI (Or.inr (Or.inr rfl))), fun y => ?_, fun i => ?_, fun i => ?_⟩
    · show BX0_putLines_6 z b p (nI (op + n)) (nI (c n)) = _
      unfold BX0_putLines_6 MX0_putLines_61
      rw [p3.1, gg_t kb, keep b (Or.inl rfl), b6, cn, if_pos (nI_le (Nat.le_refl _) (by omega)), gg_t kp, lt_eq, up1_some]
    · rw [gI_sI, if_pos rfl, up_at, keep p (Or.inr (Or.inr rfl))]
    · rw [gI_sI, if_neg d1.symm.n]
      exact p4 i
    · rw [gI_sI, if_neg d2.symm.n]
      exact p5 i
end
