/-! fault, end, page, where, carry -/
def vX (x : Option ((Unit ⊕ Nat) × Hp)) : Option ((Int32 ⊕ Nat) × Hp) := match x with
  | some (.inl _, h) => some (.inl (nI 0), h)
  | some (.inr k, h) => some (.inr k, h)
  | none => none
def vY (x : Option Hp) : Option (Int32 × Hp) := match x with
  | some h => some (nI 0, h)
  | none => none
def nX (x : Option (Int32 × Hp)) : Option ((Int32 ⊕ Nat) × Hp) := match x with
  | some (v, h) => some (.inl v, h)
  | none => none
def fX (h : Hp) (x : Option Int32) : Option ((Int32 ⊕ Nat) × Hp) := match x with
  | some v => some (.inl v, h)
  | none => none
section
variable {tg : Nat → List Nat} {h h' : Hp} {m k t : Nat → Int32} {i n f : Int32}
theorem p_fault (C : CSt tg h m k i t n f) (R : RSt h m k i t n f) : Pr (cm []) Gq h (fX h (MX11_fault h 1)) (fun h' => MX12_fault h' 73) := by
  obtain ⟨O, X, X2, S, V, D, DV, I, T, Im, Tr⟩ := id C
  refine Pr.get C R f ?_ fun h' R' => ?_
  · simp only [MX11_fault, ↓reduceIte, Nat.reduceLT, Nat.reduceLeDiff, Nat.reduceEqDiff, ZL, nAdd, nMul, nSub, nLt, nLe, nEq, nCl, nDiv, nRem2, nM1, nM2, nM3, nM4, nM5, nM6, gg_in, gg_rf, gg_T, if_true, if_false, ↓lt_eq, ob_some, b2_some, up1_some, kd_sI, ln_sI, gP_sI, gI_sI, kd_rI, ln_rI, gP_rI, gI_rI, kd_bmp, ln_bmp, gP_bmp, gI_bmp, up_at, i0, i1, X.f, T.2.2.1, fX]
  · simp (disch := omega) only [MX12_fault, ↓reduceIte, Nat.reduceLT, Nat.reduceLeDiff, Nat.reduceEqDiff, ZL, nAdd, nMul, nSub, nLt, nLe, nEq, nCl, nDiv, nRem2, nM1, nM2, nM3, nM4, nM5, nM6, gg_in, gg_rf, gg_T, if_true, if_false, ↓lt_eq, ob_some, b2_some, up1_some, kd_sI, ln_sI, gP_sI, gI_sI, kd_rI, ln_rI, gP_rI, gI_rI, kd_bmp, ln_bmp, gP_bmp, gI_bmp, up_at, i0, i1, RS.f R'.1, R'.2.2.2.2.2.2]
/-- tape and numbers changed on both sides -/
theorem Pr.tape {cm : Nat → Nat} {X : Option ((Int32 ⊕ Nat) × Hp)} {Y : Hp → Option (Int32 × Hp)} {h1 : Hp} {t' : Nat → Int32} {n' f' : Int32} (C : CSt tg h m k i t n f) (R : RSt h m k i t n f) (v : Int32) (hX : X = some (.inl v, h1)) (F : Fr (fun b => b = 1 ∨ b = 2) h h1) (T' : TpV h1 t' n' f') (hY : ∀ h', RSt h' m k i t n f → ∃ h2, Y h' = some (v, h2) ∧ Fr Rc h' h2 ∧ RSt h2 m k i t' n' f' ∧ gI h2 73 0 = nI 0) : Pr cm Gq h X Y :=
  ⟨.inl v, h1, tg, m, k, i, t', n', f', hX, C.tape F T', F.rp (fun b hb => by rcases hb with rfl | rfl <;> omega), F.gq, fun h' o => by
    have R1 : RSt h1 m k i t n f := R.rp (F.rp (fun b hb => by rcases hb with rfl | rfl <;> omega))
    obtain ⟨h2, e1, e2, e3, e4⟩ := hY h' (R1.ou o)
    exact ⟨v, h2, e1, e2, e3, e4, Eq.refl _⟩⟩
theorem p_end (C : CSt tg h m k i t n f) (R : RSt h m k i t n f) (v : Int32) : Pr (cm []) Gq h (nX (MX11_end h 1 v)) (fun h' => MX12_end h' 73 v) := by
  obtain ⟨O, X, X2, S, V, D, DV, I, T, Im, Tr⟩ := id C
  obtain ⟨T1, ⟨l, hl, rfl⟩, T3, T4⟩ := T
  rcases ni_d v (l + 1) with hv | ⟨j, hj, rfl⟩
  · refine Pr.get C R (nI 0) ?_ fun h' R' => ?_
    · rcases ni_c (by omega) hv with z | ⟨z1, z2, z3⟩
      · simp (disch := omega) only [MX11_end, ↓reduceIte, Nat.reduceLT, Nat.reduceLeDiff, Nat.reduceEqDiff, ZL, nAdd, nMul, nSub, nLt, nLe, nEq, nCl, nDiv, nRem2, nM1, nM2, nM3, nM4, nM5, nM6, gg_in, gg_rf, gg_T, if_true, if_false, ↓lt_eq, ob_some, b2_some, up1_some, kd_sI, ln_sI, gP_sI, gI_sI, kd_rI, ln_rI, gP_rI, gI_rI, kd_bmp, ln_bmp, gP_bmp, gI_bmp, up_at, i0, i1, X.f, z, nX]
      · have z4 : ¬ v ≤ nI l := fun z => z3 (by
          rw [Int32.le_iff_toInt_le, nI_toInt (by omega)] at z
          rw [Int32.lt_iff_toInt_lt, nI_toInt (by omega)]
          omega)
        simp (disch := omega) only [MX11_end, ↓reduceIte, Nat.reduceLT, Nat.reduceLeDiff, Nat.reduceEqDiff, ZL, nAdd, nMul, nSub, nLt, nLe, nEq, nCl, nDiv, nRem2, nM1, nM2, nM3, nM4, nM5, nM6, gg_in, gg_rf, gg_T, if_true, if_false, ↓lt_eq, ob_some, b2_some, up1_some, kd_sI, ln_sI, gP_sI, gI_sI, kd_rI, ln_rI, gP_rI, gI_rI, kd_bmp, ln_bmp, gP_bmp, gI_bmp, up_at, i0, i1, X.f, if_neg z1, if_neg z4, T1, nX]
    · obtain ⟨r0, r1, r2, r3, r4, r5, r6⟩ := R'
      rcases ni_c (by omega) hv with z | ⟨z1, z2, z3⟩
      · simp (disch := omega) only [MX12_end, ↓reduceIte, Nat.reduceLT, Nat.reduceLeDiff, Nat.reduceEqDiff, ZL, nAdd, nMul, nSub, nLt, nLe, nEq, nCl, nDiv, nRem2, nM1, nM2, nM3, nM4, nM5, nM6, gg_in, gg_rf, gg_T, if_true, if_false, ↓lt_eq, ob_some, b2_some, up1_some, kd_sI, ln_sI, gP_sI, gI_sI, kd_rI, ln_rI, gP_rI, gI_rI, kd_bmp, ln_bmp, gP_bmp, gI_bmp, up_at, i0, i1, RS.f r0, z]
      · have z4 : ¬ v ≤ nI l := fun z => z3 (by
          rw [Int32.le_iff_toInt_le, nI_toInt (by omega)] at z
          rw [Int32.lt_iff_toInt_lt, nI_toInt (by omega)]
          omega)
        simp (disch := omega) only [MX12_end, ↓reduceIte, Nat.reduceLT, Nat.reduceLeDiff, Nat.reduceEqDiff, ZL, nAdd, nMul, nSub, nLt, nLe, nEq, nCl, nDiv, nRem2, nM1, nM2, nM3, nM4, nM5, nM6, gg_in, gg_rf, gg_T, if_true, if_false, ↓lt_eq, ob_some, b2_some, up1_some, kd_sI, ln_sI, gP_sI, gI_sI, kd_rI, ln_rI, gP_rI, gI_rI, kd_bmp, ln_bmp, gP_bmp, gI_bmp, up_at, i0, i1, RS.f r0, if_neg z1, if_neg z4, r5]
  · refine Pr.tape (h1 := sI h 1 1 (nI j)) (t' := t) (n' := nI j) (f' := f) C R (nI 1) ?_ (Fr.sI (Or.inl rfl)) ?_ fun h' R' => ?_
    · simp (disch := omega) only [MX11_end, ↓reduceIte, Nat.reduceLT, Nat.reduceLeDiff, Nat.reduceEqDiff, ZL, nAdd, nMul, nSub, nLt, nLe, nEq, nCl, nDiv, nRem2, nM1, nM2, nM3, nM4, nM5, nM6, gg_in, gg_rf, gg_T, if_true, if_false, ↓lt_eq, ob_some, b2_some, up1_some, kd_sI, ln_sI, gP_sI, gI_sI, kd_rI, ln_rI, gP_rI, gI_rI, kd_bmp, ln_bmp, gP_bmp, gI_bmp, up_at, i0, i1, X.f, T1, nX]
    · refine ⟨by simp (disch := omega) only [↓reduceIte, Nat.reduceLT, Nat.reduceLeDiff, Nat.reduceEqDiff, ZL, nAdd, nMul, nSub, nLt, nLe, nEq, nCl, nDiv, nRem2, nM1, nM2, nM3, nM4, nM5, nM6, gg_in, gg_rf, gg_T, if_true, if_false, ↓lt_eq, ob_some, b2_some, up1_some, kd_sI, ln_sI, gP_sI, gI_sI, kd_rI, ln_rI, gP_rI, gI_rI, kd_bmp, ln_bmp, gP_bmp, gI_bmp, up_at, i0, i1], ⟨j, by omega, rfl⟩, by simp (disch := omega) only [↓reduceIte, Nat.reduceLT, Nat.reduceLeDiff, Nat.reduceEqDiff, ZL, nAdd, nMul, nSub, nLt, nLe, nEq, nCl, nDiv, nRem2, nM1, nM2, nM3, nM4, nM5, nM6, gg_in, gg_rf, gg_T, if_true, if_false, ↓lt_eq, ob_some, b2_some, up1_some, kd_sI, ln_sI, gP_sI, gI_sI, kd_rI, ln_rI, gP_rI, gI_rI, kd_bmp, ln_bmp, gP_bmp, gI_bmp, up_at, i0, i1, T3], fun q hq => ?_⟩
      obtain ⟨a, b⟩ := T4 q hq
      exact ⟨by simp (disch := omega) only [↓reduceIte, Nat.reduceLT, Nat.reduceLeDiff, Nat.reduceEqDiff, ZL, nAdd, nMul, nSub, nLt, nLe, nEq, nCl, nDiv, nRem2, nM1, nM2, nM3, nM4, nM5, nM6, gg_in, gg_rf, gg_T, if_true, if_false, ↓lt_eq, ob_some, b2_some, up1_some, kd_sI, ln_sI, gP_sI, gI_sI, kd_rI, ln_rI, gP_rI, gI_rI, kd_bmp, ln_bmp, gP_bmp, gI_bmp, up_at, i0, i1, a], b⟩
    · obtain ⟨r0, r1, r2, r3, r4, r5, r6⟩ := R'
      refine ⟨sI (sI h' 73 0 (nI 0)) 73 6 (nI j), ?_, (th_fr (v := nI 0)).trans (Fr.sI (S := Rc) ⟨by omega, by omega⟩), ⟨r0.sI.sI, ?_, ?_, ?_, ?_, ?_, ?_⟩, ?_⟩
      · simp (disch := omega) only [MX12_end, ↓reduceIte, Nat.reduceLT, Nat.reduceLeDiff, Nat.reduceEqDiff, ZL, nAdd, nMul, nSub, nLt, nLe, nEq, nCl, nDiv, nRem2, nM1, nM2, nM3, nM4, nM5, nM6, gg_in, gg_rf, gg_T, if_true, if_false, ↓lt_eq, ob_some, b2_some, up1_some, kd_sI, ln_sI, gP_sI, gI_sI, kd_rI, ln_rI, gP_rI, gI_rI, kd_bmp, ln_bmp, gP_bmp, gI_bmp, up_at, i0, i1, RS.f r0, r5]
      · simp (disch := omega) only [↓reduceIte, Nat.reduceLT, Nat.reduceLeDiff, Nat.reduceEqDiff, ZL, nAdd, nMul, nSub, nLt, nLe, nEq, nCl, nDiv, nRem2, nM1, nM2, nM3, nM4, nM5, nM6, gg_in, gg_rf, gg_T, if_true, if_false, ↓lt_eq, ob_some, b2_some, up1_some, kd_sI, ln_sI, gP_sI, gI_sI, kd_rI, ln_rI, gP_rI, gI_rI, kd_bmp, ln_bmp, gP_bmp, gI_bmp, up_at, i0, i1, r1]
      · simp (disch := omega) only [↓reduceIte, Nat.reduceLT, Nat.reduceLeDiff, Nat.reduceEqDiff, ZL, nAdd, nMul, nSub, nLt, nLe, nEq, nCl, nDiv, nRem2, nM1, nM2, nM3, nM4, nM5, nM6, gg_in, gg_rf, gg_T, if_true, if_false, ↓lt_eq, ob_some, b2_some, up1_some, kd_sI, ln_sI, gP_sI, gI_sI, kd_rI, ln_rI, gP_rI, gI_rI, kd_bmp, ln_bmp, gP_bmp, gI_bmp, up_at, i0, i1, r2]
      · simp (disch := omega) only [↓reduceIte, Nat.reduceLT, Nat.reduceLeDiff, Nat.reduceEqDiff, ZL, nAdd, nMul, nSub, nLt, nLe, nEq, nCl, nDiv, nRem2, nM1, nM2, nM3, nM4, nM5, nM6, gg_in, gg_rf, gg_T, if_true, if_false, ↓lt_eq, ob_some, b2_some, up1_some, kd_sI, ln_sI, gP_sI, gI_sI, kd_rI, ln_rI, gP_rI, gI_rI, kd_bmp, ln_bmp, gP_bmp, gI_bmp, up_at, i0, i1, r3]
      · simp (disch := omega) only [↓reduceIte, Nat.reduceLT, Nat.reduceLeDiff, Nat.reduceEqDiff, ZL, nAdd, nMul, nSub, nLt, nLe, nEq, nCl, nDiv, nRem2, nM1, nM2, nM3, nM4, nM5, nM6, gg_in, gg_rf, gg_T, if_true, if_false, ↓lt_eq, ob_some, b2_some, up1_some, kd_sI, ln_sI, gP_sI, gI_sI, kd_rI, ln_rI, gP_rI, gI_rI, kd_bmp, ln_bmp, gP_bmp, gI_bmp, up_at, i0, i1, r4]
      · simp (disch := omega) only [↓reduceIte, Nat.reduceLT, Nat.reduceLeDiff, Nat.reduceEqDiff, ZL, nAdd, nMul, nSub, nLt, nLe, nEq, nCl, nDiv, nRem2, nM1, nM2, nM3, nM4, nM5, nM6, gg_in, gg_rf, gg_T, if_true, if_false, ↓lt_eq, ob_some, b2_some, up1_some, kd_sI, ln_sI, gP_sI, gI_sI, kd_rI, ln_rI, gP_rI, gI_rI, kd_bmp, ln_bmp, gP_bmp, gI_bmp, up_at, i0, i1]
      · simp (disch := omega) only [↓reduceIte, Nat.reduceLT, Nat.reduceLeDiff, Nat.reduceEqDiff, ZL, nAdd, nMul, nSub, nLt, nLe, nEq, nCl, nDiv, nRem2, nM1, nM2, nM3, nM4, nM5, nM6, gg_in, gg_rf, gg_T, if_true, if_false, ↓lt_eq, ob_some, b2_some, up1_some, kd_sI, ln_sI, gP_sI, gI_sI, kd_rI, ln_rI, gP_rI, gI_rI, kd_bmp, ln_bmp, gP_bmp, gI_bmp, up_at, i0, i1, r6]
      · simp (disch := omega) only [↓reduceIte, Nat.reduceLT, Nat.reduceLeDiff, Nat.reduceEqDiff, ZL, nAdd, nMul, nSub, nLt, nLe, nEq, nCl, nDiv, nRem2, nM1, nM2, nM3, nM4, nM5, nM6, gg_in, gg_rf, gg_T, if_true, if_false, ↓lt_eq, ob_some, b2_some, up1_some, kd_sI, ln_sI, gP_sI, gI_sI, kd_rI, ln_rI, gP_rI, gI_rI, kd_bmp, ln_bmp, gP_bmp, gI_bmp, up_at, i0, i1]
/-- where: rack and minute so far (a rack of -2: two of one minute) -/
def wstep (m : Nat → Int32) (s mi kn : Int32) (j : Nat) (w : Int32 × Int32) : Int32 × Int32 := if m (326582 + 4 * j) = s then (if kn < m (326582 + 4 * j + 3) then w else if mi < m (326582 + 4 * j + 2) then w else if w.2 ≤ m (326582 + 4 * j + 2) then (if m (326582 + 4 * j + 2) ≤ w.2 then (if w.1 = m (326582 + 4 * j + 1) then w.1 else -2, m (326582 + 4 * j + 2)) else (m (326582 + 4 * j + 1), m (326582 + 4 * j + 2))) else w) else w
def wst (m : Nat → Int32) (s mi kn : Int32) : Nat → Int32 × Int32
  | 0 => (-1, -1)
  | j + 1 => wstep m s mi kn j (wst m s mi kn j)
theorem wst_s {s mi kn : Int32} {j : Nat} : wst m s mi kn (j + 1) = wstep m s mi kn j (wst m s mi kn j) := rfl
def wOk (q : Int32 × Int32) : Prop := (q.1 = -1 ∧ q.2 = -1) ∨ ((q.1 = -2 ∨ ∃ x, x ≤ 9 ∧ q.1 = nI x) ∧ ∃ y, y ≤ 600 ∧ q.2 = nI y)
theorem wst_ok {s mi kn : Int32} (B : MIb m) (I : MIh m) : ∀ j, j ≤ Nn m 5 → wOk (wst m s mi kn j)
  | 0, _ => Or.inl ⟨rfl, rfl⟩
  | j + 1, hj => by
    have ih := wst_ok (s := s) (mi := mi) (kn := kn) B I j (by omega)
    obtain ⟨-, ⟨x, hx, ex⟩, ⟨y, hy, ey⟩, -⟩ := I.2.2.2 j (by omega)
    rw [wst_s]
    unfold wstep
    split
    · split
      · exact ih
      · split
        · exact ih
        · split
          · split
            · refine Or.inr ⟨?_, y, hy, ey⟩
              show (if (wst m s mi kn j).1 = m (326582 + 4 * j + 1) then (wst m s mi kn j).1 else (-2 : Int32)) = -2 ∨ ∃ x, x ≤ 9 ∧ (if (wst m s mi kn j).1 = m (326582 + 4 * j + 1) then (wst m s mi kn j).1 else (-2 : Int32)) = nI x
              split
              · rename_i z
                exact Or.inr ⟨x, hx, z.trans ex⟩
              · exact Or.inl rfl
            · exact Or.inr ⟨Or.inr ⟨x, hx, ex⟩, y, hy, ey⟩
          · exact ih
    · exact ih
def cr (r : Int32) : Int32 := if r = -2 then -1 else r
theorem r_where {s mi kn : Int32} (R : RSt h m k i t n f) (B : MIb m) (I : MIh m) : MX12_where_35 h 73 s mi kn (-nI 1) (-nI 1) (nI 0) = some (if nI 0 ≤ (wst m s mi kn (Nn m 5)).1 then (wst m s mi kn (Nn m 5)).1 else -nI 1, h) := by
  obtain ⟨-, -, -, -, -, ⟨b1, b2⟩, -⟩ := B.f
  unfold MX12_where_35
  refine it_seq2 (fun j => ((wst m s mi kn j).1, (wst m s mi kn j).2, nI j)) (Nn m 5) rfl (fun j hj => ?_) ?_
  · show BX12_where_35 h 73 s mi kn (wst m s mi kn j).1 (wst m s mi kn j).2 (nI j) = _
    rw [wst_s]
    generalize wst m s mi kn j = w
    unfold BX12_where_35 wstep
    by_cases z1 : m (326582 + 4 * j) = s
    · by_cases z2 : kn < m (326582 + 4 * j + 3)
      · simp (disch := omega) only [↓reduceIte, Nat.reduceLT, Nat.reduceLeDiff, Nat.reduceEqDiff, ZL, nAdd, nMul, nSub, nLt, nLe, nEq, nCl, nDiv, nRem2, nM1, nM2, nM3, nM4, nM5, nM6, gg_in, gg_rf, gg_T, if_true, if_false, ↓lt_eq, ob_some, b2_some, up1_some, kd_sI, ln_sI, gP_sI, gI_sI, kd_rI, ln_rI, gP_rI, gI_rI, kd_bmp, ln_bmp, gP_bmp, gI_bmp, up_at, i0, i1, RS.f R.1, R.2.1, b1, z1, z2]
      · by_cases z3 : mi < m (326582 + 4 * j + 2)
        · simp (disch := omega) only [↓reduceIte, Nat.reduceLT, Nat.reduceLeDiff, Nat.reduceEqDiff, ZL, nAdd, nMul, nSub, nLt, nLe, nEq, nCl, nDiv, nRem2, nM1, nM2, nM3, nM4, nM5, nM6, gg_in, gg_rf, gg_T, if_true, if_false, ↓lt_eq, ob_some, b2_some, up1_some, kd_sI, ln_sI, gP_sI, gI_sI, kd_rI, ln_rI, gP_rI, gI_rI, kd_bmp, ln_bmp, gP_bmp, gI_bmp, up_at, i0, i1, RS.f R.1, R.2.1, b1, z1, if_neg z2, z3]
        · by_cases z4 : w.2 ≤ m (326582 + 4 * j + 2)
          · by_cases z5 : m (326582 + 4 * j + 2) ≤ w.2
            · by_cases z6 : w.1 = m (326582 + 4 * j + 1)
              · simp (disch := omega) only [MX12_where_156, ↓reduceIte, Nat.reduceLT, Nat.reduceLeDiff, Nat.reduceEqDiff, ZL, nAdd, nMul, nSub, nLt, nLe, nEq, nCl, nDiv, nRem2, nM1, nM2, nM3, nM4, nM5, nM6, gg_in, gg_rf, gg_T, if_true, if_false, ↓lt_eq, ob_some, b2_some, up1_some, kd_sI, ln_sI, gP_sI, gI_sI, kd_rI, ln_rI, gP_rI, gI_rI, kd_bmp, ln_bmp, gP_bmp, gI_bmp, up_at, i0, i1, RS.f R.1, R.2.1, b1, z1, if_neg z2, if_neg z3, if_pos z4, if_pos z5, if_pos z6]
              · simp (disch := omega) only [MX12_where_156, ↓reduceIte, Nat.reduceLT, Nat.reduceLeDiff, Nat.reduceEqDiff, ZL, nAdd, nMul, nSub, nLt, nLe, nEq, nCl, nDiv, nRem2, nM1, nM2, nM3, nM4, nM5, nM6, gg_in, gg_rf, gg_T, if_true, if_false, ↓lt_eq, ob_some, b2_some, up1_some, kd_sI, ln_sI, gP_sI, gI_sI, kd_rI, ln_rI, gP_rI, gI_rI, kd_bmp, ln_bmp, gP_bmp, gI_bmp, up_at, i0, i1, RS.f R.1, R.2.1, b1, z1, if_neg z2, if_neg z3, if_pos z4, if_pos z5, if_neg z6]
            · simp (disch := omega) only [MX12_where_156, ↓reduceIte, Nat.reduceLT, Nat.reduceLeDiff, Nat.reduceEqDiff, ZL, nAdd, nMul, nSub, nLt, nLe, nEq, nCl, nDiv, nRem2, nM1, nM2, nM3, nM4, nM5, nM6, gg_in, gg_rf, gg_T, if_true, if_false, ↓lt_eq, ob_some, b2_some, up1_some, kd_sI, ln_sI, gP_sI, gI_sI, kd_rI, ln_rI, gP_rI, gI_rI, kd_bmp, ln_bmp, gP_bmp, gI_bmp, up_at, i0, i1, RS.f R.1, R.2.1, b1, z1, if_neg z2, if_neg z3, if_pos z4, if_neg z5]
          · simp (disch := omega) only [↓reduceIte, Nat.reduceLT, Nat.reduceLeDiff, Nat.reduceEqDiff, ZL, nAdd, nMul, nSub, nLt, nLe, nEq, nCl, nDiv, nRem2, nM1, nM2, nM3, nM4, nM5, nM6, gg_in, gg_rf, gg_T, if_true, if_false, ↓lt_eq, ob_some, b2_some, up1_some, kd_sI, ln_sI, gP_sI, gI_sI, kd_rI, ln_rI, gP_rI, gI_rI, kd_bmp, ln_bmp, gP_bmp, gI_bmp, up_at, i0, i1, RS.f R.1, R.2.1, b1, z1, if_neg z2, if_neg z3, if_neg z4]
    · simp (disch := omega) only [↓reduceIte, Nat.reduceLT, Nat.reduceLeDiff, Nat.reduceEqDiff, ZL, nAdd, nMul, nSub, nLt, nLe, nEq, nCl, nDiv, nRem2, nM1, nM2, nM3, nM4, nM5, nM6, gg_in, gg_rf, gg_T, if_true, if_false, ↓lt_eq, ob_some, b2_some, up1_some, kd_sI, ln_sI, gP_sI, gI_sI, kd_rI, ln_rI, gP_rI, gI_rI, kd_bmp, ln_bmp, gP_bmp, gI_bmp, up_at, i0, i1, RS.f R.1, R.2.1, b1, if_neg z1]
  · show BX12_where_35 h 73 s mi kn _ _ (nI (Nn m 5)) = _
    unfold BX12_where_35 MX12_where_173
    generalize wst m s mi kn (Nn m 5) = w
    by_cases z : nI 0 ≤ w.1
    · simp (disch := omega) only [↓reduceIte, Nat.reduceLT, Nat.reduceLeDiff, Nat.reduceEqDiff, ZL, nAdd, nMul, nSub, nLt, nLe, nEq, nCl, nDiv, nRem2, nM1, nM2, nM3, nM4, nM5, nM6, gg_in, gg_rf, gg_T, if_true, if_false, ↓lt_eq, ob_some, b2_some, up1_some, kd_sI, ln_sI, gP_sI, gI_sI, kd_rI, ln_rI, gP_rI, gI_rI, kd_bmp, ln_bmp, gP_bmp, gI_bmp, up_at, i0, i1, RS.f R.1, R.2.1, b1, if_pos z]
    · simp (disch := omega) only [↓reduceIte, Nat.reduceLT, Nat.reduceLeDiff, Nat.reduceEqDiff, ZL, nAdd, nMul, nSub, nLt, nLe, nEq, nCl, nDiv, nRem2, nM1, nM2, nM3, nM4, nM5, nM6, gg_in, gg_rf, gg_T, if_true, if_false, ↓lt_eq, ob_some, b2_some, up1_some, kd_sI, ln_sI, gP_sI, gI_sI, kd_rI, ln_rI, gP_rI, gI_rI, kd_bmp, ln_bmp, gP_bmp, gI_bmp, up_at, i0, i1, RS.f R.1, R.2.1, b1, if_neg z]
theorem c_where {s mi kn : Int32} (D : DkS h 48) (DV : DkV h 48 m) (B : MIb m) (I : MIh m) : MX2_rackOf h 48 s mi kn = some (cr (wst m s mi kn (Nn m 5)).1) := by
  obtain ⟨-, -, -, -, -, ⟨b1, b2⟩, -⟩ := B.f
  obtain ⟨dk, -, -, -, -, -, -, ⟨-, a1, a2⟩, ⟨-, a3, a4⟩, ⟨-, a5, a6⟩, ⟨-, a7, a8⟩, -⟩ := D
  obtain ⟨-, v5, -, -, vt⟩ := DV
  simp (disch := omega) only [MX2_rackOf, ZL]
  unfold MX2_rackOf_9
  refine it_seq2 (fun j => (cr (wst m s mi kn j).1, (wst m s mi kn j).2, nI j)) (Nn m 5) rfl (fun j hj => ?_) ?_
  · show BX2_rackOf_9 h 48 s mi kn (cr (wst m s mi kn j).1) (wst m s mi kn j).2 (nI j) = _
    have ok := wst_ok (s := s) (mi := mi) (kn := kn) B I j (by omega)
    obtain ⟨-, ⟨x, hx, ex⟩, ⟨y, hy, ey⟩, -⟩ := I.2.2.2 j (by omega)
    obtain ⟨t1, t2, t3, t4⟩ := vt j hj
    rw [wst_s]
    generalize wst m s mi kn j = w at ok ⊢
    unfold BX2_rackOf_9 wstep
    have hm1 : (-1 : Int32).toInt = -1 := by decide
    by_cases z1 : m (326582 + 4 * j) = s
    · by_cases z2 : kn < m (326582 + 4 * j + 3)
      · simp (disch := omega) only [↓reduceIte, Nat.reduceLT, Nat.reduceLeDiff, Nat.reduceEqDiff, ZL, nAdd, nMul, nSub, nLt, nLe, nEq, nCl, nDiv, nRem2, nM1, nM2, nM3, nM4, nM5, nM6, gg_in, gg_rf, gg_T, if_true, if_false, ↓lt_eq, ob_some, b2_some, up1_some, kd_sI, ln_sI, gP_sI, gI_sI, kd_rI, ln_rI, gP_rI, gI_rI, kd_bmp, ln_bmp, gP_bmp, gI_bmp, up_at, i0, i1, dk, v5, b1, a1, a2, a3, a4, a5, a6, a7, a8, t1, t2, t3, t4, z1, z2]
      · by_cases z3 : mi < m (326582 + 4 * j + 2)
        · have z3' : ¬ m (326582 + 4 * j + 2) ≤ mi := fun z => by
            rw [Int32.le_iff_toInt_le] at z
            rw [Int32.lt_iff_toInt_lt] at z3
            omega
          simp (disch := omega) only [↓reduceIte, Nat.reduceLT, Nat.reduceLeDiff, Nat.reduceEqDiff, ZL, nAdd, nMul, nSub, nLt, nLe, nEq, nCl, nDiv, nRem2, nM1, nM2, nM3, nM4, nM5, nM6, gg_in, gg_rf, gg_T, if_true, if_false, ↓lt_eq, ob_some, b2_some, up1_some, kd_sI, ln_sI, gP_sI, gI_sI, kd_rI, ln_rI, gP_rI, gI_rI, kd_bmp, ln_bmp, gP_bmp, gI_bmp, up_at, i0, i1, dk, v5, b1, a1, a2, a3, a4, a5, a6, a7, a8, t1, t2, t3, t4, z1, if_neg z2, z3, if_neg z3']
        · have z3' : m (326582 + 4 * j + 2) ≤ mi := by
            rw [Int32.le_iff_toInt_le]
            rw [Int32.lt_iff_toInt_lt] at z3
            omega
          by_cases z4 : w.2 ≤ m (326582 + 4 * j + 2)
          · by_cases z5 : m (326582 + 4 * j + 2) ≤ w.2
            · have z7 : m (326582 + 4 * j + 2) = w.2 := by
                rw [Int32.le_iff_toInt_le] at z4 z5
                exact Int32.toInt_inj.mp (by omega)
              by_cases z6 : w.1 = m (326582 + 4 * j + 1)
              · have z8 : m (326582 + 4 * j + 1) = cr w.1 := by
                  unfold cr
                  rw [if_neg, z6]
                  rw [z6, ex, ← Int32.toInt_inj, nI_toInt (by omega), show (-2 : Int32).toInt = -2 from by decide]
                  omega
                simp (disch := omega) only [↓reduceIte, Nat.reduceLT, Nat.reduceLeDiff, Nat.reduceEqDiff, ZL, nAdd, nMul, nSub, nLt, nLe, nEq, nCl, nDiv, nRem2, nM1, nM2, nM3, nM4, nM5, nM6, gg_in, gg_rf, gg_T, if_true, if_false, ↓lt_eq, ob_some, b2_some, up1_some, kd_sI, ln_sI, gP_sI, gI_sI, kd_rI, ln_rI, gP_rI, gI_rI, kd_bmp, ln_bmp, gP_bmp, gI_bmp, up_at, i0, i1, dk, v5, b1, a1, a2, a3, a4, a5, a6, a7, a8, t1, t2, t3, t4, z1, if_neg z2, if_neg z3, if_pos z3', if_pos z4, if_pos z5, if_pos z6, if_pos z7, if_pos z8]
                rw [z7]
              · have z8 : ¬ m (326582 + 4 * j + 1) = cr w.1 := by
                  unfold cr
                  split
                  · rw [ex, ← Int32.toInt_inj, nI_toInt (by omega), hm1]
                    omega
                  · exact fun z => z6 z.symm
                simp (disch := omega) only [↓reduceIte, Nat.reduceLT, Nat.reduceLeDiff, Nat.reduceEqDiff, ZL, nAdd, nMul, nSub, nLt, nLe, nEq, nCl, nDiv, nRem2, nM1, nM2, nM3, nM4, nM5, nM6, gg_in, gg_rf, gg_T, if_true, if_false, ↓lt_eq, ob_some, b2_some, up1_some, kd_sI, ln_sI, gP_sI, gI_sI, kd_rI, ln_rI, gP_rI, gI_rI, kd_bmp, ln_bmp, gP_bmp, gI_bmp, up_at, i0, i1, dk, v5, b1, a1, a2, a3, a4, a5, a6, a7, a8, t1, t2, t3, t4, z1, if_neg z2, if_neg z3, if_pos z3', if_pos z4, if_pos z5, if_neg z6, if_pos z7, if_neg z8]
                rw [z7]
                rfl
            · have z8 : cr (m (326582 + 4 * j + 1)) = m (326582 + 4 * j + 1) := by
                unfold cr
                rw [if_neg]
                rw [ex, ← Int32.toInt_inj, nI_toInt (by omega), show (-2 : Int32).toInt = -2 from by decide]
                omega
              simp (disch := omega) only [↓reduceIte, Nat.reduceLT, Nat.reduceLeDiff, Nat.reduceEqDiff, ZL, nAdd, nMul, nSub, nLt, nLe, nEq, nCl, nDiv, nRem2, nM1, nM2, nM3, nM4, nM5, nM6, gg_in, gg_rf, gg_T, if_true, if_false, ↓lt_eq, ob_some, b2_some, up1_some, kd_sI, ln_sI, gP_sI, gI_sI, kd_rI, ln_rI, gP_rI, gI_rI, kd_bmp, ln_bmp, gP_bmp, gI_bmp, up_at, i0, i1, dk, v5, b1, a1, a2, a3, a4, a5, a6, a7, a8, t1, t2, t3, t4, z1, if_neg z2, if_neg z3, if_pos z3', if_pos z4, if_neg z5, z8]
          · have z5 : m (326582 + 4 * j + 2) ≤ w.2 := by
              rw [Int32.le_iff_toInt_le] at z4 ⊢
              omega
            have z7 : ¬ m (326582 + 4 * j + 2) = w.2 := fun z => z4 (by rw [z, Int32.le_iff_toInt_le]; omega)
            simp (disch := omega) only [↓reduceIte, Nat.reduceLT, Nat.reduceLeDiff, Nat.reduceEqDiff, ZL, nAdd, nMul, nSub, nLt, nLe, nEq, nCl, nDiv, nRem2, nM1, nM2, nM3, nM4, nM5, nM6, gg_in, gg_rf, gg_T, if_true, if_false, ↓lt_eq, ob_some, b2_some, up1_some, kd_sI, ln_sI, gP_sI, gI_sI, kd_rI, ln_rI, gP_rI, gI_rI, kd_bmp, ln_bmp, gP_bmp, gI_bmp, up_at, i0, i1, dk, v5, b1, a1, a2, a3, a4, a5, a6, a7, a8, t1, t2, t3, t4, z1, if_neg z2, if_neg z3, if_pos z3', if_neg z4, if_pos z5, if_neg z7]
    · simp (disch := omega) only [↓reduceIte, Nat.reduceLT, Nat.reduceLeDiff, Nat.reduceEqDiff, ZL, nAdd, nMul, nSub, nLt, nLe, nEq, nCl, nDiv, nRem2, nM1, nM2, nM3, nM4, nM5, nM6, gg_in, gg_rf, gg_T, if_true, if_false, ↓lt_eq, ob_some, b2_some, up1_some, kd_sI, ln_sI, gP_sI, gI_sI, kd_rI, ln_rI, gP_rI, gI_rI, kd_bmp, ln_bmp, gP_bmp, gI_bmp, up_at, i0, i1, dk, v5, b1, a1, a2, a3, a4, a5, a6, a7, a8, t1, if_neg z1]
  · show BX2_rackOf_9 h 48 s mi kn _ _ (nI (Nn m 5)) = _
    unfold BX2_rackOf_9
    simp (disch := omega) only [↓reduceIte, Nat.reduceLT, Nat.reduceLeDiff, Nat.reduceEqDiff, ZL, nAdd, nMul, nSub, nLt, nLe, nEq, nCl, nDiv, nRem2, nM1, nM2, nM3, nM4, nM5, nM6, gg_in, gg_rf, gg_T, if_true, if_false, ↓lt_eq, ob_some, b2_some, up1_some, kd_sI, ln_sI, gP_sI, gI_sI, kd_rI, ln_rI, gP_rI, gI_rI, kd_bmp, ln_bmp, gP_bmp, gI_bmp, up_at, i0, i1, dk, v5, b1]
theorem p_where (C : CSt tg h m k i t n f) (R : RSt h m k i t n f) (v w u : Int32) : Pr (cm [1]) Gq h (MX11_where h 1 v w u) (fun h' => MX12_where h' 73 v w u) := by
  obtain ⟨O, X, X2, S, V, D, DV, I, T, Im, Tr⟩ := id C
  rcases ni_d v (Nn m 4) with hv | ⟨q, hq, rfl⟩
  · refine Pr.thr C R 1 1 rfl (by omega) (by omega) ?_ fun h' R' => ⟨nI 0, ?_⟩
    · unfold MX11_where
      rw [gg_t X.1, X5 X, gg_t S.1, c_findSlug_f S V I.1 hv, ob_some, if_pos rfl]
    · simp (disch := omega) only [MX12_where, ↓reduceIte, Nat.reduceLT, Nat.reduceLeDiff, Nat.reduceEqDiff, ZL, nAdd, nMul, nSub, nLt, nLe, nEq, nCl, nDiv, nRem2, nM1, nM2, nM3, nM4, nM5, nM6, gg_in, gg_rf, gg_T, if_true, if_false, ↓lt_eq, ob_some, b2_some, up1_some, kd_sI, ln_sI, gP_sI, gI_sI, kd_rI, ln_rI, gP_rI, gI_rI, kd_bmp, ln_bmp, gP_bmp, gI_bmp, up_at, i0, i1, RS.f R'.1, r_isSlug_f R'.1 R'.2.1 I.1 hv]
      simp (disch := omega) only [MX12_where_14, ↓reduceIte, Nat.reduceLT, Nat.reduceLeDiff, Nat.reduceEqDiff, ZL, nAdd, nMul, nSub, nLt, nLe, nEq, nCl, nDiv, nRem2, nM1, nM2, nM3, nM4, nM5, nM6, gg_in, gg_rf, gg_T, if_true, if_false, ↓lt_eq, ob_some, b2_some, up1_some, kd_sI, ln_sI, gP_sI, gI_sI, kd_rI, ln_rI, gP_rI, gI_rI, kd_bmp, ln_bmp, gP_bmp, gI_bmp, up_at, i0, i1, RS.f R'.1]
  · obtain ⟨-, -, -, -, ⟨b1, b2⟩, -⟩ := I.1.f
    obtain ⟨c, hc, ec, c0, cS, cV⟩ := c_findSlug_t S V I.1 hq
    have ok := wst_ok (s := nI q) (mi := w) (kn := u) I.1 I.2.2.2.2.1 (Nn m 5) (Nat.le_refl _)
    refine Pr.get C R (cr (wst m (nI q) w u (Nn m 5)).1) ?_ fun h' R' => ?_
    · unfold MX11_where
      rw [gg_t X.1, X5 X, gg_t S.1, ec, ob_some, if_neg c0, X6 X, gg_t D.1, c_where D DV I.1 I.2.2.2.2.1]
      rfl
    · have e : (if nI 0 ≤ (wst m (nI q) w u (Nn m 5)).1 then (wst m (nI q) w u (Nn m 5)).1 else -nI 1) = cr (wst m (nI q) w u (Nn m 5)).1 := by
        unfold cr
        rcases ok with ⟨z, -⟩ | ⟨z | ⟨x, hx, z⟩, -⟩
        · rw [z]; decide
        · rw [z]; decide
        · rw [z, if_pos (nI_le (by omega) (by omega)), if_neg]
          rw [← Int32.toInt_inj, nI_toInt (by omega), show (-2 : Int32).toInt = -2 from by decide]
          omega
      simp (disch := omega) only [MX12_where, MX12_where_14, ↓reduceIte, Nat.reduceLT, Nat.reduceLeDiff, Nat.reduceEqDiff, ZL, nAdd, nMul, nSub, nLt, nLe, nEq, nCl, nDiv, nRem2, nM1, nM2, nM3, nM4, nM5, nM6, gg_in, gg_rf, gg_T, if_true, if_false, ↓lt_eq, ob_some, b2_some, up1_some, kd_sI, ln_sI, gP_sI, gI_sI, kd_rI, ln_rI, gP_rI, gI_rI, kd_bmp, ln_bmp, gP_bmp, gI_bmp, up_at, i0, i1, RS.f R'.1, r_isSlug_t R'.1 R'.2.1 I.1 hq, r_where (R'.th (v := nI 0)) I.1 I.2.2.2.2.1, e]
end
