/-! a minute: the machines in turn -/

noncomputable def loM (i T : Nat) (m : Nat → Int32) : Nat → (Nat → Int32)
  | 0 => m
  | j + 1 => if loM i T m j (320230 + 183 * j + 28) = nI 0 ∧ 1 ≤ Nn (loM i T m j) (320230 + 183 * j + 29) then wkM (loM i T m j) j i T else loM i T m j
section
variable {tg : Nat → List Nat} {h h1 : Hp} {m m1 M kk t : Nat → Int32} {ii f u fr : Int32} {r x k q l en n T i o c s : Nat} {w : List Nat}
theorem lo_ca (hi : i < 8) (hk : k < 4) (hs : s < 300) (hq : q < 100) (hl : l < 40) (ho : o ≤ 300) (hw : w.length ≤ 401) {y : Nat} (hy : y < 130 ∨ (326582 ≤ y ∧ y < 337180) ∨ 337220 ≤ y) (y4 : y ≠ 4) : caM m s k q l i fr w o y = m y := by
  unfold caM caE
  rw [up_at, if_neg (by omega), up_at, if_neg (by omega), up_at, if_neg y4, ly_at, if_neg (by omega), if_neg (by omega), if_neg (by omega)]
  by_cases z : o = 0
  · rw [if_pos z, caB_o (by omega), if_pos (by omega)]
  · rw [if_neg z]
    unfold caP
    rw [up_at, if_neg (by omega), up_at, if_neg (by omega), up_at, if_neg (by omega), caB_o (by omega), if_pos (by omega)]
theorem lo_oM {fr : Nat} (hi : i < 8) (I : MI m) (JJ : JC m k q l en fr) (hk : k < 4) (n1 : 1 ≤ n) (n30 : n ≤ 30) (ho : o ≤ 300) {y : Nat} (hy : y < 130 ∨ (326582 ≤ y ∧ y < 337180) ∨ 337220 ≤ y) (y4 : y ≠ 4) : oM m k n q l en fr i T o y = m y := by
  have H := (ln_set I JJ.1 JJ.2.1 JJ.2.2.1).2.2.2.2.2
  unfold oM
  split
  · exact (sp_sh hk n1 n30).1.1 y (by omega)
  · split
    · unfold waM
      rw [up_at, if_neg (by omega)]
    · rename_i hn
      have s3 : Nn m 4 < 300 := Nat.lt_of_not_le (fun v => hn (Or.inl v))
      have l4 := ((I.2.1 q JJ.1).2.2.2.2.2.1.eq (by omega)).2
      have ll := JJ.2.2.1
      unfold adM
      split
      · rw [(ad_sh hk n1 n30).1.1 y (by omega)]
        exact lo_ca hi hk s3 JJ.1.1 (by omega) ho H hy y4
      · rw [up_at, if_neg (by omega)]
        exact lo_ca hi hk s3 JJ.1.1 (by omega) ho H hy y4
theorem lo_wk (hi : i < 8) (I : MI m) (hk : k < Nn m 3) (hj : 1 ≤ Nn m (320230 + 183 * k + 29)) {y : Nat} (hy : y < 130 ∨ (326582 ≤ y ∧ y < 337180) ∨ 337220 ≤ y) (y4 : y ≠ 4) : wkM m k i T y = m y := by
  have f3 := I.1.f.2.2.2.1.2
  obtain ⟨vq, J33, -⟩ := ja_f I hk hj
  have h30 := ((I.2.2.2.1 k hk).2.2.2.1.eq (by omega)).2
  obtain ⟨q, hq⟩ : ∃ q, q = Nn m (320230 + 183 * k + 33) := ⟨_, rfl⟩
  unfold wkM
  rw [← hq] at vq J33 ⊢
  unfold prM
  rcases o1_v I (I.2.1 q vq).2.2.2.2.1 with u3 | u3
  · rw [if_pos u3]
    cases hv : wyT m q (m 0) 0 with
    | none => exact (sp_sh (by omega) hj h30).1.1 y (by omega)
    | some v =>
      obtain ⟨IM, JJ, o⟩ := jc_se I vq hk hj J33 u3 hv
      show oM _ _ _ _ _ _ _ _ _ _ y = m y
      rw [lo_oM hi IM JJ (by omega) hj h30 (jc_eo IM JJ).2 hy y4]
      exact o y (by omega)
  · rw [if_neg (by rw [u3]; decide)]
    obtain ⟨m1, hm1⟩ : ∃ m1, m1 = if m (320230 + 183 * k + 37) = nI 1 then va_up m (320230 + 183 * k + 35) (m (130 + 645 * q + 4)) else m := ⟨_, rfl⟩
    rw [← hm1]
    obtain ⟨IM, JJ, o⟩ := jc_st I hk hj hq u3 hm1
    show oM _ _ _ _ _ _ _ _ _ _ y = m y
    rw [lo_oM hi IM JJ (by omega) hj h30 (jc_eo IM JJ).2 hy y4]
    exact o y (by omega)
/-- what a state of the class must hold in the loop -/
def LoS (tg : Nat → List Nat) (h : Hp) (r x : Nat) (m : Nat → Int32) (tg' : Nat → List Nat) (g : Hp) (M : Nat → Int32) : Prop := Rx tg h tg' g (fun y => y = x) ∧ cst g + rmP g r ≤ cst h + rmP h r ∧ RmS g r ∧ RmV g r M ∧ MI M ∧ ∀ y, y < 130 ∨ (326582 ≤ y ∧ y < 337180) ∨ 337220 ≤ y → y ≠ 4 → M y = m y
theorem c_loS (K : Rt tg h r x) (hr : r ≤ sz h) (h9 : 109 ≤ sz h) (S : RmS h r) (V : RmV h r m) (I : MI m) (e0 : m 0 = nI (T + 1)) (hT : T < 1000000) (e7 : Nn m 7 = i + 1) (hi : i < 8) : (∀ j, j ≤ Nn m 3 → ∃ tg' g, LoS tg h r x m tg' g (loM i T m j)) ∧ ∃ tg' g, MX7_passMinute_55 h r (nI 0) = some g ∧ LoS tg h r x m tg' g (loM i T m (Nn m 3)) := by
  obtain ⟨f3, f3'⟩ := I.1.f.2.2.2.1
  have st : ∀ j, j < Nn m 3 → ∀ tg1 g, LoS tg h r x m tg1 g (loM i T m j) → ∃ tg2 g2, BX7_passMinute_55 g r (nI j) = some (.inl (nI (j + 1), g2)) ∧ LoS tg h r x m tg2 g2 (loM i T m (j + 1)) := fun j hj tg1 g L => by
    obtain ⟨L1, L2, L3, L4, L5, L6⟩ := L
    obtain ⟨m', hm'⟩ : ∃ m', m' = loM i T m j := ⟨_, rfl⟩
    have el : loM i T m (j + 1) = if m' (320230 + 183 * j + 28) = nI 0 ∧ 1 ≤ Nn m' (320230 + 183 * j + 29) then wkM m' j i T else m' := by rw [hm']; rfl
    rw [el]
    rw [← hm'] at L4 L5 L6
    have K1 := L1.rt K hr h9
    have zs := L1.2.1
    have n3 : Nn m' 3 = Nn m 3 := Nn.c (L6 3 (by omega) (by omega))
    have hj' : j < Nn m' 3 := by omega
    obtain ⟨c0, cV⟩ := L4.2.2.2.2.2.2.2.2.1 j hj'
    have cS := L3.2.2.2.2.2.2.2.2.2.2.2.2.2.2.2.2.2.2.1 j c0
    obtain ⟨c, hc⟩ : ∃ c, c = gP g (gP g r 8) j := ⟨_, rfl⟩
    have ow := c_ownMachine L3 (by omega : j < 4) c0
    rw [← hc] at c0 cV cS ow
    have g9 : gI g r 9 = nI (Nn m 3) := by rw [L4.2.2.2.1, L6 3 (by omega) (by omega)]; exact f3
    obtain ⟨-, -, o28, o29, -⟩ := L5.2.2.2.1 j hj'
    obtain ⟨e29, h30⟩ := o29.eq (by omega)
    have c2 : gI g c 2 = m' (320230 + 183 * j + 28) := cV.2.2.1
    have c3 : gI g c 3 = nI (Nn m' (320230 + 183 * j + 29)) := cV.2.2.2.1.trans e29
    have pre : BX7_passMinute_55 g r (nI j) = if m' (320230 + 183 * j + 28) = nI 0 then (if Nn m' (320230 + 183 * j + 29) ≤ 0 then some (.inl (nI (j + 1), g)) else Option.bind (MX7_work g r (nI j) c) fun h20 => some (.inl (nI (j + 1), h20))) else some (.inl (nI (j + 1), g)) := by
      unfold BX7_passMinute_55
      simp only [ZL, nAdd]
      rw [gg_t L3.1, g9, if_neg (nI_ge hj (by omega)), ow, b2_some, gg_t cS.1, c2, c3]
      by_cases z : m' (320230 + 183 * j + 28) = nI 0
      · rw [if_pos z, if_pos z]
        by_cases y : Nn m' (320230 + 183 * j + 29) ≤ 0
        · rw [if_pos (nI_le y (by omega)), if_pos y]
        · rw [if_neg (nI_ge (by omega) (by omega)), if_neg y, gg_t L3.1]
      · rw [if_neg z, if_neg z]
    rw [pre]
    by_cases z : m' (320230 + 183 * j + 28) = nI 0
    · by_cases y : Nn m' (320230 + 183 * j + 29) ≤ 0
      · rw [if_pos z, if_pos y, if_neg (fun v => by omega)]
        exact ⟨tg1, g, rfl, L1, L2, L3, L4, L5, L6⟩
      · rw [if_pos z, if_neg y, if_pos ⟨z, by omega⟩]
        obtain ⟨tg2, g2, a1, a2, a3, a4, a5, a6⟩ := c_work (i := i) (T := T) K1 (by omega) (by omega) L3 L4 L5 hj' hc (by omega) (by rw [L6 0 (by omega) (by omega)]; exact e0) hT (by rw [Nn.c (L6 7 (by omega) (by omega))]; exact e7) hi
        refine ⟨tg2, g2, by rw [a1, ob_some], L1.trans a2, by omega, a4, a5, a6, fun y h1 h2 => ?_⟩
        rw [lo_wk hi L5 hj' (by omega) h1 h2]
        exact L6 y h1 h2
    · rw [if_neg z, if_neg (fun v => z v.1)]
      exact ⟨tg1, g, rfl, L1, L2, L3, L4, L5, L6⟩
  have L0 : LoS tg h r x m tg h (loM i T m 0) := ⟨Rx.rfl K.1, Nat.le_refl _, S, V, I, fun _ _ _ => rfl⟩
  refine ⟨fun j => ?_, ?_⟩
  · induction j with
    | zero => exact fun _ => ⟨tg, h, L0⟩
    | succ j ih =>
      intro hj
      obtain ⟨tg1, g, L⟩ := ih (by omega)
      obtain ⟨tg2, g2, -, L'⟩ := st j (by omega) tg1 g L
      exact ⟨tg2, g2, L'⟩
  · have fin : ∃ g, it (fun q : Int32 × Hp => BX7_passMinute_55 q.2 r q.1) (nI 0, h) = some g ∧ ∃ tg', LoS tg h r x m tg' g (loM i T m (Nn m 3)) := by
      refine it_cnt (fun j s => s.1 = nI j ∧ ∃ tg', LoS tg h r x m tg' s.2 (loM i T m j)) (Nn m 3) (fun j s hj pp => ?_) (fun s pp => ?_) ⟨rfl, tg, L0⟩
      · obtain ⟨v, g⟩ := s
        obtain ⟨p1, tg1, p2⟩ := pp
        replace p1 : v = nI j := p1
        subst p1
        obtain ⟨tg2, g2, a1, a2⟩ := st j hj tg1 g p2
        exact ⟨(nI (j + 1), g2), a1, rfl, tg2, a2⟩
      · obtain ⟨v, g⟩ := s
        obtain ⟨p1, tg1, p2⟩ := pp
        replace p1 : v = nI (Nn m 3) := p1
        subst p1
        refine ⟨g, ?_, tg1, p2⟩
        obtain ⟨L1, L2, L3, L4, L5, L6⟩ := p2
        have g9 : gI g r 9 = nI (Nn m 3) := by rw [L4.2.2.2.1, L6 3 (by omega) (by omega)]; exact f3
        show BX7_passMinute_55 g r (nI (Nn m 3)) = _
        unfold BX7_passMinute_55
        rw [gg_t L3.1, g9, if_pos (nI_le (Nat.le_refl _) (by omega))]
    obtain ⟨g, a1, tg', a2⟩ := fin
    exact ⟨tg', g, a1, a2⟩
theorem r_loop (R : RSt h m kk ii t u f) (A : ∀ j, j ≤ Nn m 3 → MI (loM i T m j) ∧ StM (loM i T m j) ∧ ∀ y, y < 130 ∨ (326582 ≤ y ∧ y < 337180) ∨ 337220 ≤ y → y ≠ 4 → loM i T m j y = m y) (e0 : m 0 = nI (T + 1)) (hT : T < 1000000) (e7 : Nn m 7 = i + 1) (hi : i < 8) : ∃ h2, MX12_minute_130 h 73 (nI 0) = some h2 ∧ Fr Rm h h2 ∧ RSt h2 (loM i T m (Nn m 3)) kk ii t u f ∧ gI h2 73 0 = gI h 73 0 := by
  have I := (A 0 (by omega)).1
  obtain ⟨f3, f3'⟩ := I.1.f.2.2.2.1
  replace f3 : m 3 = nI (Nn m 3) := f3
  replace f3' : Nn m 3 ≤ 4 := f3'
  unfold MX12_minute_130
  refine it_cnt (fun j s => s.1 = nI j ∧ Fr Rm h s.2 ∧ RSt s.2 (loM i T m j) kk ii t u f ∧ gI s.2 73 0 = gI h 73 0) (Nn m 3) (fun j s hj pp => ?_) (fun s pp => ?_) ⟨rfl, Fr.rfl, R, rfl⟩
  · obtain ⟨v, g⟩ := s
    obtain ⟨p1, p2, p3, p4⟩ := pp
    replace p1 : v = nI j := p1
    replace p2 : Fr Rm h g := p2
    replace p3 : RSt g (loM i T m j) kk ii t u f := p3
    replace p4 : gI g 73 0 = gI h 73 0 := p4
    subst p1
    obtain ⟨m', hm'⟩ : ∃ m', m' = loM i T m j := ⟨_, rfl⟩
    have el : loM i T m (j + 1) = if m' (320230 + 183 * j + 28) = nI 0 ∧ 1 ≤ Nn m' (320230 + 183 * j + 29) then wkM m' j i T else m' := by rw [hm']; rfl
    rw [el]
    obtain ⟨L5, Z, L6⟩ := A j (by omega)
    rw [← hm'] at L5 Z L6 p3
    have n3 : Nn m' 3 = Nn m 3 := Nn.c (L6 3 (by omega) (by omega))
    have hj' : j < Nn m' 3 := by omega
    obtain ⟨-, -, o28, o29, -⟩ := L5.2.2.2.1 j hj'
    obtain ⟨e29, h30⟩ := o29.eq (by omega)
    have d3 : gI g 74 3 = nI (Nn m 3) := by rw [p3.2.1, L6 3 (by omega) (by omega)]; exact f3
    have d28 : gI g 74 (320230 + 183 * j + 28) = m' (320230 + 183 * j + 28) := by rw [p3.2.1]
    have d29 : gI g 74 (320230 + 183 * j + 29) = nI (Nn m' (320230 + 183 * j + 29)) := by rw [p3.2.1]; exact e29
    have pre : BX12_minute_130 g 73 (nI j) = if m' (320230 + 183 * j + 28) = nI 0 then (if Nn m' (320230 + 183 * j + 29) ≤ 0 then some (.inl (nI (j + 1), g)) else Option.bind (MX12_runsOn g 73 (nI j)) fun h45 => some (.inl (nI (j + 1), h45))) else some (.inl (nI (j + 1), g)) := by
      unfold BX12_minute_130
      simp only [ZL, nAdd]
      rw [gg_t (RS.f p3.1).1, (RS.f p3.1).2.1, gg_t (RS.f p3.1).2.2.1, (RS.f p3.1).2.2.2.1, gg_in (by omega) (by omega), nCl (by omega), d3, if_neg (nI_ge hj (by omega)), r_machine0, ob_some, nAdd, gg_in (by omega) (by omega), nCl (by omega), d28, ob_some, nAdd, gg_in (by omega) (by omega), nCl (by omega), d29]
      by_cases z : m' (320230 + 183 * j + 28) = nI 0
      · rw [if_pos z, if_pos z]
        by_cases y : Nn m' (320230 + 183 * j + 29) ≤ 0
        · rw [if_pos (nI_le y (by omega)), if_pos y]
        · rw [if_neg (nI_ge (by omega) (by omega)), if_neg y]
      · rw [if_neg z, if_neg z]
    show ∃ s', BX12_minute_130 g 73 (nI j) = some (.inl s') ∧ _
    rw [pre]
    by_cases z : m' (320230 + 183 * j + 28) = nI 0
    · by_cases y : Nn m' (320230 + 183 * j + 29) ≤ 0
      · rw [if_pos z, if_pos y, if_neg (fun v => by omega)]
        exact ⟨_, rfl, rfl, p2, p3, p4⟩
      · rw [if_pos z, if_neg y, if_pos ⟨z, by omega⟩]
        obtain ⟨g2, a1, a2, a3, a4⟩ := r_runs (i := i) (T := T) p3 L5 Z hj' (by omega) (by rw [L6 0 (by omega) (by omega)]; exact e0) hT (by rw [Nn.c (L6 7 (by omega) (by omega))]; exact e7) hi
        exact ⟨(nI (j + 1), g2), by rw [a1, ob_some], rfl, p2.trans a2, a3, by rw [a4, p4]⟩
    · rw [if_neg z, if_neg (fun v => z v.1)]
      exact ⟨_, rfl, rfl, p2, p3, p4⟩
  · obtain ⟨v, g⟩ := s
    obtain ⟨p1, p2, p3, p4⟩ := pp
    replace p1 : v = nI (Nn m 3) := p1
    replace p2 : Fr Rm h g := p2
    replace p3 : RSt g (loM i T m (Nn m 3)) kk ii t u f := p3
    replace p4 : gI g 73 0 = gI h 73 0 := p4
    subst p1
    have d3 : gI g 74 3 = nI (Nn m 3) := by rw [p3.2.1, (A _ (Nat.le_refl _)).2.2 3 (by omega) (by omega)]; exact f3
    refine ⟨g, ?_, p2, p3, p4⟩
    show BX12_minute_130 g 73 (nI (Nn m 3)) = _
    unfold BX12_minute_130
    simp only [ZL]
    rw [gg_t (RS.f p3.1).1, (RS.f p3.1).2.1, gg_t (RS.f p3.1).2.2.1, (RS.f p3.1).2.2.2.1, gg_in (by omega) (by omega), nCl (by omega), d3, if_pos (nI_le (Nat.le_refl _) (by omega))]
end
