/-! what a copy says -/
section
variable {h h0 h1 : Hp} {m : Nat → Int32} {p q k Y x : Nat} {js ks : List Nat}
theorem cy_at {l N : Nat} (C : Cy h0 h p q js ks) (hk : k ∈ ks) (hl : ln h0 (gP h0 p k) = N) (h1 : l < N) : gI h (gP h p k) l = gI h0 (gP h0 q k) l := by
  rw [C.1.2.2.1, C.2.2.2.2 k hk l, hl, if_pos h1]
theorem cy_sty (A : AP h0 p q) (hp : StyS h0 p) (C : Cy h0 h p q [1, 0] [6, 5, 4, 3, 2]) : StyS h p ∧ (StyV h0 q m Y → MIy m Y → StyV h p m Y) := by
  obtain ⟨a0, a2, a3, a4, a5, a6, a7, a8⟩ := id hp
  refine ⟨?_, fun V J => ?_⟩
  · unfold StyS ar
    rw [C.1.2.2.1, C.1.1, C.1.2.1]
    exact hp
  · obtain ⟨v0, v1, cd, ce, c0, H⟩ := V
    have n12 := (J.2.1.eq (by omega)).2
    refine ⟨by rw [C.2.1 0 (by simp)]; exact v0, by rw [C.2.1 1 (by simp)]; exact v1, cd, ce, c0, fun r hr => ?_⟩
    obtain ⟨b1, b2, b3, b4, b5, b6, b7, b8⟩ := H r hr
    refine ⟨by rw [cy_at C (by simp) a2.2.2 (by omega)]; exact b1, by rw [cy_at C (by simp) a3.2.2 (by omega)]; exact b2, by rw [cy_at C (by simp) a4.2.2 (by omega)]; exact b3, by rw [cy_at C (by simp) a5.2.2 (by omega)]; exact b4, b5, b6, fun i hi => ?_, b8⟩
    rw [cy_at C (by simp) a6.2.2 (by omega)]
    exact b7 i hi
theorem cy_ma (A : AP h0 p q) (hp : MaS h0 p) (hq : MaS h0 q) (C : Cy h0 h p q [6, 5, 4, 3, 2, 1] [10, 9, 8, 7, 0]) : MaS h p ∧ (MaV h0 q m k → oN m (320230 + 183 * k + 29) 30 → MaV h p m k) := by
  obtain ⟨a0, a1, a2, a3, a4, a5, a6, a7⟩ := id hp
  obtain ⟨b0, b1, b2, b3, b4, b5, b6, b7⟩ := id hq
  refine ⟨?_, fun V o => ?_⟩
  · unfold MaS ar
    rw [C.1.2.2.1, C.1.1, C.1.2.1, C.2.1 2 (by simp)]
    exact ⟨a0, a1, a2, a3, a4, a5, b6, fun l => cyz (C.2.2.2.2 10 (by simp) l) (b7 l) (a7 l)⟩
  · obtain ⟨v0, v1, v2, v3, v4, v5, v6, v7⟩ := V
    have l30 := (o.eq (by omega)).2
    refine ⟨fun i hi => by rw [cy_at C (by simp) a1.2.2 (by omega)]; exact v0 i hi, by rw [C.2.1 1 (by simp)]; exact v1, by rw [C.2.1 2 (by simp)]; exact v2, by rw [C.2.1 3 (by simp)]; exact v3, by rw [C.2.1 4 (by simp)]; exact v4, by rw [C.2.1 5 (by simp)]; exact v5, by rw [C.2.1 6 (by simp)]; exact v6, fun j hj => ?_⟩
    rw [cy_at C (by simp) a2.2.2 (by omega), cy_at C (by simp) a3.2.2 (by omega), cy_at C (by simp) a4.2.2 (by omega), cy_at C (by simp) a5.2.2 (by omega)]
    exact v7 j hj
theorem cy_pt (A : AP h0 p q) (hp : PtS h0 p) (hq : PtS h0 q) (C : Cy h0 h p q [11, 10, 8, 7, 9, 6, 5] [4, 3, 2, 1, 0]) : PtS h p ∧ (PtV h0 q m x → MIp m x → PtV h p m x) := by
  obtain ⟨a0, a1, a2, a3, a4, a5, a6, a7, a8, a9⟩ := id hp
  obtain ⟨b0, b1, b2, b3, b4, b5, b6, b7, b8, b9⟩ := id hq
  refine ⟨?_, fun V J => ?_⟩
  · unfold PtS ar
    rw [C.1.2.2.1, C.1.1, C.1.2.1, C.2.2.2.2 1 (by simp) 0, if_pos (by rw [a2.2.2]; omega), C.2.1 10 (by simp), C.2.1 11 (by simp)]
    exact ⟨a0, a1, a2, a3, a4, a5, b6, b7, b8, fun l => cyz (C.2.2.2.2 2 (by simp) l) (b9 l) (a9 l)⟩
  · have bg := V.bg hq J
    have ll := ls_le J
    obtain ⟨-, n40, -⟩ := J.n
    obtain ⟨v5, v6, v7, v8, v10, v11, vb, v9, vl⟩ := V
    have l40 := (J.2.2.2.2.2.1.eq (by omega)).2
    refine ⟨by rw [C.2.1 5 (by simp)]; exact v5, by rw [C.2.1 6 (by simp)]; exact v6, by rw [C.2.1 7 (by simp)]; exact v7, by rw [C.2.1 8 (by simp)]; exact v8, by rw [C.2.1 10 (by simp)]; exact v10, by rw [C.2.1 11 (by simp)]; exact v11, fun b hb => ?_, by rw [C.2.1 9 (by simp)]; exact v9, fun z l hl => ?_⟩
    · have hb' : b < nP m x := hb
      obtain ⟨w1, w2, w3⟩ := vb b hb
      rw [cy_at C (by simp) a2.2.2 (by omega), cy_at C (by simp) a2.2.2 (by omega), cy_at C (by simp) a3.2.2 (by omega)]
      refine ⟨w1, w2, fun i hi => ?_⟩
      have e := bg b (by omega)
      have e2 := ll b (by omega)
      have i12 := (J.bt hb').2.2.2.1
      rw [cy_at C (by simp) a1.2.2 (by rw [e, nCl (by omega)]; omega)]
      exact w3 i hi
    · rw [cy_at C (by simp) a4.2.2 (by omega), cy_at C (by simp) a5.2.2 (by omega)]
      exact vl z l hl
end
