/-! brass -/
section
variable {tg : Nat → List Nat} {h h1 h' : Hp} {m m' kk t : Nat → Int32} {i n f w : Int32} {r x s k T c : Nat}
theorem r_ouI {v4 : Int32} (R : RS h) (em : gI h 74 = m) (I : MI m) (hc : c < Nn m 4) (hs : s < 27) : MX12_there_100 h 73 (nI k) (nI s) (nI T) v4 w (nI c) (nI (64630 + 852 * c)) (nI 0) = some (.inl (v4 - nI (sgQ m (64630 + 852 * c) s (Nn m (64630 + 852 * c + 9))), nI c + -nI 1)) := by
  obtain ⟨-, -, -, -, ⟨f4, f4'⟩, -⟩ := I.1.f
  have J := I.2.2.1 c hc
  obtain ⟨e9, l9⟩ := J.2.2.2.2.2.2.2.2.2.2.2.1.eq (by omega)
  have J14 := J.2.2.2.2.2.2.2.2.2.2.2.2.2.2.1
  obtain ⟨L, hL⟩ : ∃ L, L = Nn m (64630 + 852 * c + 9) := ⟨_, Eq.refl _⟩
  rw [← hL] at e9 l9 J14 ⊢
  unfold MX12_there_100
  refine it_seq2 (fun j => (v4 - nI (sgQ m (64630 + 852 * c) s j), nI j)) L (by
    show (v4, nI 0) = (v4 - nI 0, nI 0)
    rw [show v4 - nI 0 = v4 from Int32.sub_zero v4]) (fun j hj => ?_) ?_
  · show BX12_there_100 h 73 (nI k) (nI s) (nI T) (v4 - nI (sgQ m (64630 + 852 * c) s j)) w (nI c) (nI (64630 + 852 * c)) (nI j) = some (.inl (v4 - nI (sgQ m (64630 + 852 * c) s j + (if Nn m (64630 + 852 * c + 12 + j) = sgN s then 1 else 0)), nI (j + 1)))
    obtain ⟨eb, lb⟩ := (J14 j hj).1.eq (by omega)
    have nl : (nI L ≤ nI j) = False := eq_false (nI_ge hj (by omega))
    unfold BX12_there_100 MX12_there_149 MX12_there_157
    simp (disch := omega) only [RS.f R, gg_rf, gg_T, gg_in, em, e9, nAdd, nCl, ZL, nl, if_false, eb, nEq]
    unfold sgN
    by_cases z : s = 26
    · simp only [if_pos z]
      by_cases y : Nn m (64630 + 852 * c + 12 + j) = 45
      · rw [if_pos y, if_pos y, Int32.sub_sub, nAdd]
      · rw [if_neg y, if_neg y, Int32.sub_sub, nAdd]
    · simp only [if_neg z]
      by_cases y : Nn m (64630 + 852 * c + 12 + j) = 97 + s
      · rw [if_pos y, if_pos y, Int32.sub_sub, nAdd]
      · rw [if_neg y, if_neg y, Int32.sub_sub, nAdd]
  · show BX12_there_100 h 73 (nI k) (nI s) (nI T) (v4 - nI (sgQ m (64630 + 852 * c) s L)) w (nI c) (nI (64630 + 852 * c)) (nI L) = _
    have nl : (nI L ≤ nI L) = True := eq_true (nI_le (Nat.le_refl L) (by omega))
    unfold BX12_there_100
    simp (disch := omega) only [RS.f R, gg_rf, gg_T, gg_in, em, e9, nAdd, nCl, ZL, nl, if_true]
theorem r_there (R : RS h) (em : gI h 74 = m) (I : MI m) (hk : k < Nn m 3) (hs : s < 27) (hT : T < 1000000) : MX12_there h 73 (nI k) (nI s) (nI (T + 1)) = some (jmax (nI 0) (m (320230 + 183 * k + s) - nI (ouN m k (nI (T + 1) - m (320230 + 183 * k + 27)) T s (Nn m 4)))) := by
  obtain ⟨-, -, -, ⟨f3, f3'⟩, ⟨f4, f4'⟩, -⟩ := I.1.f
  obtain ⟨w, hw⟩ : ∃ w, w = nI (T + 1) - m (320230 + 183 * k + 27) := ⟨_, Eq.refl _⟩
  obtain ⟨v, hv⟩ : ∃ v, v = m (320230 + 183 * k + s) := ⟨_, Eq.refl _⟩
  rw [← hw, ← hv]
  have pre : MX12_there h 73 (nI k) (nI s) (nI (T + 1)) = MX12_there_39 h 73 (nI k) (nI s) (nI (T + 1)) v w (lV (Nn m 4)) := by
    unfold MX12_there MX12_machine0
    simp (disch := omega) only [RS.f R, gg_rf, gg_T, gg_in, em, nAdd, nMul, nCl, ZL, ob_some, f4, lV_m]
    rw [hw, hv]
  rw [pre]
  unfold MX12_there_39
  have K0 : ∃ y, it (fun q : Int32 × Int32 => BX12_there_39 h 73 (nI k) (nI s) (nI (T + 1)) q.1 w q.2) (v, lV (Nn m 4)) = some y ∧ y = jmax (nI 0) (v - nI (ouN m k w T s (Nn m 4))) := by
    refine it_up (P := fun c st => st.2 = lV c ∧ c ≤ Nn m 4 ∧ ∃ a, st.1 = v - nI a ∧ a + ouN m k w T s c = ouN m k w T s (Nn m 4)) (Nn m 4) (fun c st pp => ?_) _ ⟨Eq.refl _, Nat.le_refl _, 0, (Int32.sub_zero v).symm, Nat.zero_add _⟩
    obtain ⟨v1, v2⟩ := st
    obtain ⟨p2, p3, a, p1, p4⟩ := pp
    replace p1 : v1 = v - nI a := p1
    replace p2 : v2 = lV c := p2
    subst p1 p2
    have fin : MX12_there_172 h (v - nI a) = some (jmax (nI 0) (v - nI a)) := by
      unfold MX12_there_172 jmax
      by_cases z : 0 ≤ v - nI a
      · rw [if_pos z]
        by_cases z2 : nI 0 < v - nI a
        · rw [if_pos z2]
        · rw [if_neg z2]
          have z3 := Int32.not_lt.mp z2
          exact congrArg some (Int32.le_antisymm z3 z)
      · rw [if_neg z, if_neg (show ¬ nI 0 < v - nI a from fun e => z (Int32.le_of_lt e))]
        exact Eq.refl _
    by_cases z : c = 0
    · subst z
      refine Or.inl ⟨jmax (nI 0) (v - nI a), ?_, by rw [← p4]; exact Eq.refl _⟩
      show BX12_there_39 h 73 (nI k) (nI s) (nI (T + 1)) (v - nI a) w (lV 0) = _
      unfold BX12_there_39
      rw [if_pos (by decide), fin]
      exact Eq.refl _
    · obtain ⟨c', rfl⟩ : ∃ c', c = c' + 1 := ⟨c - 1, by omega⟩
      have J := I.2.2.1 c' (by omega)
      obtain ⟨e2, l2⟩ := J.2.2.2.2.1.eq (by omega)
      have ou : ouN m k w T s (c' + 1) = if m (64630 + 852 * c' + 2) < w then 0 else (if ouP m k T (64630 + 852 * c') then sgQ m (64630 + 852 * c') s (Nn m (64630 + 852 * c' + 9)) else 0) + ouN m k w T s c' := Eq.refl _
      have nc : (nI c' < nI 0) = False := eq_false (nI_pos (by omega))
      have step : BX12_there_39 h 73 (nI k) (nI s) (nI (T + 1)) (v - nI a) w (nI c') = if m (64630 + 852 * c' + 2) < w then some (.inr (jmax (nI 0) (v - nI a))) else if ouP m k T (64630 + 852 * c') then some (.inl (v - nI a - nI (sgQ m (64630 + 852 * c') s (Nn m (64630 + 852 * c' + 9))), lV c')) else some (.inl (v - nI a, lV c')) := by
        unfold BX12_there_39
        simp (disch := omega) only [RS.f R, gg_rf, gg_T, gg_in, em, nAdd, nMul, nCl, ZL, ob_some, nc, if_false, r_slug0, fin, up1_some]
        by_cases y : m (64630 + 852 * c' + 2) < w
        · rw [if_pos y, if_pos y]
        · rw [if_neg y, if_neg y]
          by_cases y1 : m (64630 + 852 * c' + 1) = nI k
          · rw [if_pos y1]
            have P : m (64630 + 852 * c' + 2) < nI (T + 1) ↔ ¬ nI T < m (64630 + 852 * c' + 2) := by
              rw [e2, nLt (by omega) (by omega), nLt (by omega) (by omega)]
              omega
            by_cases y2 : nI T < m (64630 + 852 * c' + 2)
            · rw [if_neg (fun e => P.mp e y2), if_neg (show ¬ ouP m k T (64630 + 852 * c') from fun e => e.2 y2), lV_s]
            · rw [if_pos (P.mpr y2), if_pos (show ouP m k T (64630 + 852 * c') from ⟨y1, y2⟩), r_ouI R em I (by omega) hs, lV_s]
          · rw [if_neg y1, if_neg (show ¬ ouP m k T (64630 + 852 * c') from fun e => y1 e.1), lV_s]
      by_cases y : m (64630 + 852 * c' + 2) < w
      · refine Or.inl ⟨jmax (nI 0) (v - nI a), ?_, ?_⟩
        · show BX12_there_39 h 73 (nI k) (nI s) (nI (T + 1)) (v - nI a) w (lV (c' + 1)) = _
          rw [lV_p (by omega), Nat.add_sub_cancel, step, if_pos y]
        · rw [ou, if_pos y, Nat.add_zero] at p4
          rw [p4]
      · rw [ou, if_neg y] at p4
        by_cases y1 : ouP m k T (64630 + 852 * c')
        · rw [if_pos y1] at p4
          refine Or.inr ⟨(v - nI a - nI (sgQ m (64630 + 852 * c') s (Nn m (64630 + 852 * c' + 9))), lV c'), c', by omega, ⟨Eq.refl _, by omega, a + sgQ m (64630 + 852 * c') s (Nn m (64630 + 852 * c' + 9)), ?_, by omega⟩, ?_⟩
          · show v - nI a - _ = v - nI _
            rw [Int32.sub_sub, nAdd]
          · show BX12_there_39 h 73 (nI k) (nI s) (nI (T + 1)) (v - nI a) w (lV (c' + 1)) = _
            rw [lV_p (by omega), Nat.add_sub_cancel, step, if_neg y, if_pos y1]
        · rw [if_neg y1, Nat.zero_add] at p4
          refine Or.inr ⟨(v - nI a, lV c'), c', by omega, ⟨Eq.refl _, by omega, a, Eq.refl _, p4⟩, ?_⟩
          show BX12_there_39 h 73 (nI k) (nI s) (nI (T + 1)) (v - nI a) w (lV (c' + 1)) = _
          rw [lV_p (by omega), Nat.add_sub_cancel, step, if_neg y, if_neg y1]
  obtain ⟨y, y1, y2⟩ := K0
  rw [y1, y2]
end
