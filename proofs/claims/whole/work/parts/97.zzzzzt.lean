/-! correct: is a part in a queue; the reference's line that is opened -/
/-- machine k has a job of part q -/
def jK (m : Nat → Int32) (q k : Nat) : Bool := hs (fun j => m (320230 + 183 * k + 33 + 5 * j) = nI q) (Nn m (320230 + 183 * k + 29))
/-- some machine has -/
def jQ (m : Nat → Int32) (q : Nat) : Bool := hs (fun k => jK m q k = true) (Nn m 3)
section
variable {h h1 g : Hp} {m : Nat → Int32} {r c k q f op : Nat} {v1 v2 v3 v6 : Int32} {b : Bool}
theorem jQ_f (I : MI m) (e : jQ m q = false) : ∀ k, k < Nn m 3 → ∀ j, j < Nn m (320230 + 183 * k + 29) → Nn m (320230 + 183 * k + 33 + 5 * j) ≠ q := fun k hk j hj z => by
  have a := ((I.2.2.2.1 k hk).2.2.2.2 j hj).1
  obtain ⟨a1, a2⟩ := a.eq (by omega)
  rw [z] at a1
  have : jQ m q = true := (hs_iff _).mpr ⟨k, hk, (hs_iff _).mpr ⟨j, hj, a1⟩⟩
  rw [this] at e
  cases e
theorem c_hasJob (S : MaS h c) (V : MaV h c m k) (I : MIm m k) : MX4_hasJobOf h c (nI q) = some (if jK m q k = true then nI 1 else nI 0) := by
  obtain ⟨e3, l30⟩ := I.2.2.2.1.eq (by omega)
  have g3 : gI h c 3 = nI (Nn m (320230 + 183 * k + 29)) := V.2.2.2.1.trans e3
  obtain ⟨-, a7k, a7l⟩ := S.2.2.1
  unfold MX4_hasJobOf MX4_hasJobOf_2
  simp only [ZL]
  refine it_ex (fun j => m (320230 + 183 * k + 33 + 5 * j) = nI q) (fun j => nI j) (Nn m (320230 + 183 * k + 29)) (fun j hj pj => ?_) (fun j hj pj => ?_) ?_
  · have := (V.2.2.2.2.2.2.2 j hj).1
    unfold BX4_hasJobOf_2
    simp only [ZL]
    rw [gg_t S.1, g3, if_neg (nI_ge hj (by omega)), gg_t a7k, a7l, gg_in (by omega) (by omega), nCl (by omega), this, if_neg pj, nAdd]
  · have := (V.2.2.2.2.2.2.2 j hj).1
    unfold BX4_hasJobOf_2
    simp only [ZL]
    rw [gg_t S.1, g3, if_neg (nI_ge hj (by omega)), gg_t a7k, a7l, gg_in (by omega) (by omega), nCl (by omega), this, if_pos pj]
  · unfold BX4_hasJobOf_2
    simp only [ZL]
    rw [gg_t S.1, g3, if_pos (nI_le (Nat.le_refl _) (by omega))]
theorem c_isQd (S : RmS h r) (V : RmV h r m) (I : MI m) : MX7_isQueued h r (nI q) = some (if jQ m q = true then (nI 1, h) else (nI 0, h)) := by
  obtain ⟨b3, b3'⟩ := I.1.f.2.2.2.1
  have g9 : gI h r 9 = nI (Nn m 3) := V.2.2.2.1.trans b3
  unfold MX7_isQueued MX7_isQueued_2
  simp only [ZL]
  refine it_ex (fun k => jK m q k = true) (fun k => (nI k, h)) (Nn m 3) (fun j hj pj => ?_) (fun j hj pj => ?_) ?_
  · obtain ⟨c, hc, -, c0, cS, cV⟩ := c_findMachine_t S V I.1 hj
    show BX7_isQueued_2 h r (nI q) (nI j) = _
    unfold BX7_isQueued_2
    simp only [ZL]
    rw [gg_t S.1, g9, if_neg (nI_ge hj (by omega)), c_ownMachine S (by omega) (by rw [← hc]; exact c0), b2_some, ← hc, gg_t cS.1, c_hasJob cS cV (I.2.2.2.1 j hj), ob_some, if_neg pj, if_pos rfl, nAdd]
  · obtain ⟨c, hc, -, c0, cS, cV⟩ := c_findMachine_t S V I.1 hj
    show BX7_isQueued_2 h r (nI q) (nI j) = _
    unfold BX7_isQueued_2
    simp only [ZL]
    rw [gg_t S.1, g9, if_neg (nI_ge hj (by omega)), c_ownMachine S (by omega) (by rw [← hc]; exact c0), b2_some, ← hc, gg_t cS.1, c_hasJob cS cV (I.2.2.2.1 j hj), ob_some, if_pos pj, if_neg (by decide)]
  · show BX7_isQueued_2 h r (nI q) (nI (Nn m 3)) = _
    unfold BX7_isQueued_2
    simp only [ZL]
    rw [gg_t S.1, g9, if_pos (nI_le (Nat.le_refl _) (by omega))]
theorem bI_or {b : Bool} {P : Prop} [Decidable P] : (if bI b = nI 0 then (if P then nI 1 else nI 0) else nI 1 : Int32) = bI (b || decide P) := by
  cases b with
  | true => rfl
  | false =>
    by_cases z : P
    · rw [if_pos (show bI false = nI 0 from rfl), if_pos z]
      simp [bI, z]
    · rw [if_pos (show bI false = nI 0 from rfl), if_neg z]
      simp [bI, z]
theorem zkb : ∀ b, zOk (bI b) = true
  | true => of_eq_true zk1
  | false => of_eq_true zk0
theorem r_hasJob (R : RS g) (em : gI g 74 = m) (I : MI m) : MX12_hasJob g 73 (nI q) = some (bI (jQ m q)) := by
  obtain ⟨b3, b3'⟩ := I.1.f.2.2.2.1
  have inner : ∀ b k, k < Nn m 3 → MX12_hasJob_17 g 73 (nI q) (bI b) (nI k) (nI 0) = some (.inl (bI (b || jK m q k), nI (k + 1))) := fun b k hk => by
    obtain ⟨e3, l30⟩ := (I.2.2.2.1 k hk).2.2.2.1.eq (by omega)
    unfold MX12_hasJob_17
    have K : ∃ r, it (fun s : Int32 × Int32 => BX12_hasJob_17 g 73 (nI q) s.1 (nI k) s.2) (bI b, nI 0) = some r ∧ (r = .inl (bI (b || jK m q k), nI (k + 1))) := by
      refine it_cnt (fun j s => s.1 = bI (b || hs (fun j => m (320230 + 183 * k + 33 + 5 * j) = nI q) j) ∧ s.2 = nI j) (Nn m (320230 + 183 * k + 29)) (fun j s hj pp => ?_) (fun s pp => ?_) ⟨?_, rfl⟩
      · obtain ⟨u, w⟩ := s
        obtain ⟨p1, p2⟩ := pp
        replace p1 : u = bI (b || hs (fun j => m (320230 + 183 * k + 33 + 5 * j) = nI q) j) := p1
        replace p2 : w = nI j := p2
        subst p1 p2
        refine ⟨(bI (b || hs (fun j => m (320230 + 183 * k + 33 + 5 * j) = nI q) (j + 1)), nI (j + 1)), ?_, rfl, rfl⟩
        show BX12_hasJob_17 g 73 (nI q) _ (nI k) (nI j) = _
        unfold BX12_hasJob_17 MX12_machine0 MX12_hasJob_59 MX12_hasJob_64
        simp only [ZL, RS.f R, ob_some]
        have e := bI_or (b := b || hs (fun j => m (320230 + 183 * k + 33 + 5 * j) = nI q) j) (P := m (320230 + 183 * k + 33 + 5 * j) = nI q)
        rw [gg_T, gg_T, nMul, nAdd, nAdd, gg_in (by omega) (by omega), nCl (by omega), em, e3, if_neg (nI_ge hj (by omega)), nAdd, nMul, nAdd, gg_in (by omega) (by omega), nCl (by omega), nAdd]
        show _ = some (Sum.inl (bI (b || (hs (fun j => m (320230 + 183 * k + 33 + 5 * j) = nI q) j || decide (m (320230 + 183 * k + 33 + 5 * j) = nI q))), nI (j + 1)))
        rw [← Bool.or_assoc, ← e]
        by_cases z1 : bI (b || hs (fun j => m (320230 + 183 * k + 33 + 5 * j) = nI q) j) = nI 0
        · rw [if_pos z1, if_pos z1]
          by_cases z2 : m (320230 + 183 * k + 33 + 5 * j) = nI q
          · rw [if_pos z2, if_pos z2]
          · rw [if_neg z2, if_neg z2]
        · rw [if_neg z1, if_neg z1]
      · obtain ⟨u, w⟩ := s
        obtain ⟨p1, p2⟩ := pp
        replace p1 : u = bI (b || hs (fun j => m (320230 + 183 * k + 33 + 5 * j) = nI q) (Nn m (320230 + 183 * k + 29))) := p1
        replace p2 : w = nI (Nn m (320230 + 183 * k + 29)) := p2
        subst p1 p2
        refine ⟨_, ?_, rfl⟩
        show BX12_hasJob_17 g 73 (nI q) _ (nI k) (nI (Nn m (320230 + 183 * k + 29))) = _
        unfold BX12_hasJob_17 MX12_machine0
        simp only [ZL, RS.f R, ob_some]
        rw [gg_T, gg_T, nMul, nAdd, nAdd, gg_in (by omega) (by omega), nCl (by omega), em, e3, if_pos (nI_le (Nat.le_refl _) (by omega)), nAdd]
        rfl
      · show bI b = bI (b || false)
        rw [Bool.or_false]
    obtain ⟨r, k1, k2⟩ := K
    rw [k1, k2]
  unfold MX12_hasJob MX12_hasJob_4
  simp only [ZL]
  have K : ∃ r, it (fun s : Int32 × Int32 => BX12_hasJob_4 g 73 (nI q) s.1 s.2) (nI 0, nI 0) = some r ∧ (r = bI (jQ m q)) := by
    refine it_cnt (fun j s => s.1 = bI (hs (fun k => jK m q k = true) j) ∧ s.2 = nI j) (Nn m 3) (fun j s hj pp => ?_) (fun s pp => ?_) ⟨rfl, rfl⟩
    · obtain ⟨u, w⟩ := s
      obtain ⟨p1, p2⟩ := pp
      replace p1 : u = bI (hs (fun k => jK m q k = true) j) := p1
      replace p2 : w = nI j := p2
      subst p1 p2
      refine ⟨(bI (hs (fun k => jK m q k = true) (j + 1)), nI (j + 1)), ?_, rfl, rfl⟩
      show BX12_hasJob_4 g 73 (nI q) _ (nI j) = _
      unfold BX12_hasJob_4
      simp only [ZL, RS.f R]
      rw [gg_T, gg_T, gg_in (by omega) (by omega), nCl (by omega), em, b3, if_neg (nI_ge hj (by omega)), inner _ j hj]
      show some (Sum.inl (bI (hs (fun k => jK m q k = true) j || jK m q j), nI (j + 1))) = some (Sum.inl (bI (hs (fun k => jK m q k = true) j || decide (jK m q j = true)), nI (j + 1)))
      rw [show decide (jK m q j = true) = jK m q j by cases jK m q j <;> rfl]
    · obtain ⟨u, w⟩ := s
      obtain ⟨p1, p2⟩ := pp
      replace p1 : u = bI (hs (fun k => jK m q k = true) (Nn m 3)) := p1
      replace p2 : w = nI (Nn m 3) := p2
      subst p1 p2
      refine ⟨bI (jQ m q), ?_, rfl⟩
      show BX12_hasJob_4 g 73 (nI q) _ (nI (Nn m 3)) = _
      unfold BX12_hasJob_4
      simp only [ZL, RS.f R]
      rw [gg_T, gg_T, gg_in (by omega) (by omega), nCl (by omega), em, b3, if_pos (nI_le (Nat.le_refl _) (by omega))]
      rw [gg_t (zkb (hs (fun k => jK m q k = true) (Nn m 3)))]
      rfl
  obtain ⟨r, k1, k2⟩ := K
  rw [k1, k2]
/-- the line that is opened -/
theorem r_256 (R : RS g) (em : gI g 74 = m) (J : MIp m q) (hq : q < 100) (u3 : m (130 + 645 * q + 3) = nI 1) (hf : f ≤ 39) (O : OPn m q f op) : MX12_correct_256 g 73 v1 v2 v3 (nI (130 + 645 * q)) (nI f) v6 (nI 0) = MX12_correct_279 g 73 v1 v2 v3 (nI (130 + 645 * q)) (nI f) v6 (nI op) := by
  obtain ⟨-, l40⟩ := J.2.2.2.2.2.1.eq (by omega)
  obtain ⟨-, sl1, sl, sp⟩ := J.2.2.2.2.2.2.2.2.2.2.2 u3
  obtain ⟨o1, o2, o3⟩ := O
  have st : ∀ l, l ≤ op → BX12_correct_256 g 73 v1 v2 v3 (nI (130 + 645 * q)) (nI f) v6 (nI l) = if f ≤ Nn m (130 + 645 * q + 5 + l) then up1 (MX12_correct_279 g 73 v1 v2 v3 (nI (130 + 645 * q)) (nI f) v6 (nI l)) else some (.inl (nI (l + 1))) := fun l hl => by
    obtain ⟨d1, d2⟩ := (sp l (by omega)).1.eq (by omega)
    unfold BX12_correct_256
    simp only [ZL, RS.f R]
    rw [gg_T, gg_T, nAdd, nAdd, gg_in (by omega) (by omega), nCl (by omega), em, d1, nAdd]
    by_cases z : f ≤ Nn m (130 + 645 * q + 5 + l)
    · rw [if_pos (nI_le z (by omega)), if_pos z]
    · rw [if_neg (nI_ge (by omega) (by omega)), if_neg z]
  have K : ∀ d l, l + d = op → it (fun x : Int32 => BX12_correct_256 g 73 v1 v2 v3 (nI (130 + 645 * q)) (nI f) v6 x) (nI l) = MX12_correct_279 g 73 v1 v2 v3 (nI (130 + 645 * q)) (nI f) v6 (nI op) := fun d => by
    induction d with
    | zero =>
      intro l hl
      have hl : l = op := hl
      subst hl
      have s := st l (Nat.le_refl _)
      rw [if_pos o2] at s
      exact it_u1 s
    | succ d ih =>
      intro l hl
      have s := st l (by omega)
      have := o3 l (by omega)
      rw [if_neg (by omega)] at s
      rw [it_next (s' := nI (l + 1)) s]
      exact ih (l + 1) (by omega)
  unfold MX12_correct_256
  exact K op 0 (Nat.zero_add _)
end
