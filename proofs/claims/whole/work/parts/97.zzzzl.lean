/-! copy is read: the reference, one word -/
section
variable {h0 g g1 : Hp} {b : Nat → Nat} {e i k p o : Nat} {s s0 s1 : TX}
def RdO (h0 : Hp) (b : Nat → Nat) (o e : Nat) (s0 : TX) (v : Int32) (g : Hp) : Prop := (v = nI 0 ∧ ∃ p, ERq h0 g p ∧ enT e (ruT 1 1 o b s0 e) = p + 1) ∨ (v = nI 1 ∧ ∃ s, ruT 1 1 o b s0 e = .inr s ∧ s.2.2.1 = false ∧ 0 < tw s ∧ RTq h0 g e 0 s.2.2.2.2.1 s.2.2.2.2.2.1 s.2.2.2.2.2.2.1 s.2.2.2.2.2.2.2 (gI h0 82))
theorem r_one (T : RTt h0 b e) (h8 : gI h0 73 8 = nI 0) (ho : o ≤ 40) : ∃ v g', MX12_readOne h0 73 (nI o) = some (v, g') ∧ RdO h0 b o e (tB0 (gI h0 82) (gI h0 81) (gI h0 78) (gI h0 79) (gI h0 80)) v g' := by
  have R1 := T.1
  have e400 := T.2.2.1
  obtain ⟨s0, hs0⟩ : ∃ s0, s0 = tB0 (gI h0 82) (gI h0 81) (gI h0 78) (gI h0 79) (gI h0 80) := ⟨_, rfl⟩
  rw [← hs0]
  have T0 : TI 1 1 o s0 := by rw [hs0]; exact ti_0 (by omega) ho
  have tw0 : tw s0 = 0 := by
    rw [hs0]
    show Nn (va_up (gI h0 82) 0 (nI 0)) 0 = 0
    rw [nnU (by omega), if_pos rfl]
  obtain ⟨G, hG⟩ : ∃ G, G = sI (sI h0 73 17 (nI 0)) 81 0 (nI 0) := ⟨_, rfl⟩
  have RG : RTq h0 G 0 0 s0.2.2.2.2.1 s0.2.2.2.2.2.1 s0.2.2.2.2.2.2.1 s0.2.2.2.2.2.2.2 (gI h0 82) := by
    rw [hG, hs0]
    refine ⟨FQ.tr (fq_f (by omega)) (fq_a (by omega) (by omega)), ?_, ?_, ?_, ?_, ?_, ?_, ?_, ?_⟩
    · rw [gI_sI, if_neg (by decide), gI_sI, if_pos rfl, up_at, if_neg (by decide)]; exact h8
    · rw [gI_sI, if_neg (by decide), gI_sI, if_pos rfl, up_at, if_pos rfl]
    · rw [gI_sI, if_pos rfl, gI_sI, if_neg (by decide)]
      rfl
    · rw [gI_sI, if_neg (by decide), gI_sI, if_neg (by decide)]
      rfl
    · rw [gI_sI, if_neg (by decide), gI_sI, if_neg (by decide)]
      rfl
    · rw [gI_sI, if_neg (by decide), gI_sI, if_neg (by decide)]
      rfl
    · rw [gI_sI, if_neg (by decide), gI_sI, if_neg (by decide)]
    · rw [gI_sI, if_neg (by decide), gI_sI, if_pos rfl, up_at, if_neg (by decide)]
  have hr0 : ruT 1 1 o b s0 0 = .inr s0 := rfl
  have b0 : s0.2.2.1 = false := by rw [hs0]; rfl
  obtain ⟨i2, g2, y1, y2, y3, y4, y5, y6⟩ := r_bls T (e - 0) 0 G (Nat.le_refl _) (by omega) RG
  obtain ⟨s2, u1, u2, u3, u4, u5, u6⟩ := ru_bs y2 y4 b0 hr0
  have r20 : s2.2.1 = 0 := by
    by_cases c : i2 = 0
    · rw [u5 c, hs0]
      rfl
    · exact u6 (by omega)
  have tw2 : tw s2 = 0 := by
    unfold tw at tw0 ⊢
    rw [u3, u4]; exact tw0
  have k2 : s2.1 = 0 := by rw [u3, hs0]; rfl
  obtain ⟨S1, S2, S3⟩ := rt_rs T y6.1
  have head : MX12_readOne h0 73 (nI o) = if e ≤ i2 then MX12_readOne_42 g2 73 else if lB (b i2) = false then MX12_readOne_42 g2 73 else b2 (MX12_readWord g2 73 (nI 0) (nI 0) (nI o)) fun (t30 : Int32) (h29 : Hp) => if t30 = nI 0 then some (nI 0, h29) else gg (kd h29 73 = 11) <| Option.bind (MX12_blanks h29 73) fun (h34 : Hp) => gg (kd h34 73 = 11) <| if (gI h34 73 7) ≤ (gI h34 73 8) then some (nI 1, h34) else b2 (MX12_fails h34 73) fun (t39 : Int32) (h38 : Hp) => if t39 = nI 0 then some (nI 0, h38) else some (nI 1, h38) := by
    unfold MX12_readOne
    simp only [ZL, RS.f R1]
    rw [gg_T, lt_eq, gg_T, gg_in (by omega) (by omega), nCl (by omega), lt_eq, ← hG, y1, ob_some]
    simp only [RS.f S1]
    rw [gg_T, S2, y6.2.1]
    by_cases z : e ≤ i2
    · rw [if_pos (nI_le z (by omega)), if_pos z]
    · rw [if_neg (nI_ge (by omega) (by omega)), if_neg z, gg_T, gg_in (by omega) (by omega), nCl (by omega), S3 i2 (by omega), r_isL (T.2.2.2 i2 (by omega)).2, ob_some]
      cases lB (b i2) with
      | true => rw [if_neg (by decide), if_neg (by decide)]
      | false => rw [if_pos (by decide), if_pos (show false = false from rfl)]
  have f42 : ∀ g i, RTq h0 g i 0 s2.2.2.2.2.1 s2.2.2.2.2.2.1 s2.2.2.2.2.2.2.1 s2.2.2.2.2.2.2.2 (gI h0 82) → MX12_readOne_42 g 73 = some (nI 0, sI g 73 9 (nI i)) := fun g i Rg => by
    have Q := (rt_rs T Rg.1).1
    unfold MX12_readOne_42 MX12_fails
    simp only [ZL]
    rw [gg_t (RS.f Q).1, gg_t (RS.f Q).1, Rg.2.1, lt_eq, b2_some, gg_t (by rw [zk0]; trivial)]
  have y6' : RTq h0 g2 i2 0 s2.2.2.2.2.1 s2.2.2.2.2.2.1 s2.2.2.2.2.2.2.1 s2.2.2.2.2.2.2.2 (gI h0 82) := by rw [u4]; exact y6
  by_cases z : e ≤ i2
  · have ie : i2 = e := by omega
    obtain ⟨f1, f2⟩ := rt_flt T y6'
    refine ⟨nI 0, sI g2 73 9 (nI i2), by rw [head, if_pos z, f42 g2 i2 y6'], Or.inl ⟨rfl, i2, f1, ?_⟩⟩
    rw [← ie, u1]
    show (if s2.2.2.1 = true ∨ tw s2 = 0 then i2 + 1 else 0) = i2 + 1
    rw [if_pos (Or.inr tw2)]
  · rw [if_neg z] at head
    have ie : i2 < e := by omega
    cases lc : lB (b i2) with
    | false =>
      rw [lc, if_pos rfl] at head
      obtain ⟨f1, f2⟩ := rt_flt T y6'
      refine ⟨nI 0, sI g2 73 9 (nI i2), by rw [head, f42 g2 i2 y6'], Or.inl ⟨rfl, i2, f1, ru_fl ie ?_⟩⟩
      rw [ruT_s u1]
      unfold stT
      rw [lc, u2, if_neg (by decide), if_neg (by decide), if_neg (show ¬ (b i2 = 45 ∧ 0 < s2.2.1) by omega), if_neg (show ¬ (b i2 = 47 ∧ 0 < tw s2 ∧ s2.1 + 1 < 1) by omega), if_neg (y5 ie)]
    | true =>
      rw [lc, if_neg (by decide)] at head
      have w1 : tw1 s2 = 0 + 1 := by unfold tw1; rw [u2, tw2, if_neg (by decide)]
      have PC := r_pcs (wd1 := va_up s2.2.2.2.1 0 (nI (0 + 1))) T T0 (by omega) (by omega) ho (show 0 + 1 ≤ 1 by omega) (e - i2) i2 s2 g2 (Nat.le_refl _) ie lc u1 r20 k2 w1 rfl y6'
      have wE : MX12_readWord g2 73 (nI 0) (nI 0) (nI o) = it (fun q : Int32 × Hp => BX12_readWord_3 q.2 73 (nI (40 * 0)) (nI 0) (nI o) q.1) (nI 1, g2) := by
        unfold MX12_readWord MX12_readWord_3
        simp only [ZL]
      rw [← wE] at PC
      rcases PC with ⟨g', p', a1, a2, a3⟩ | ⟨g', i', s', a1, a2, a3, a4, a5, a6, a7, a8, a9, a10⟩
      · exact ⟨nI 0, g', by rw [head, a1, b2_some, if_pos rfl], Or.inl ⟨rfl, p', a2, a3⟩⟩
      · obtain ⟨i3, g3, x1, x2, x3, x4, x5, x6⟩ := r_bls T (e - i') i' g' (Nat.le_refl _) a3 a10
        obtain ⟨s3, v1, v2, v3, v4, v5, v6⟩ := ru_bs x2 x4 a8 a4
        obtain ⟨P1, P2, P3⟩ := rt_rs T x6.1
        have twv : tw s3 = 1 := by
          unfold tw
          rw [v3, v4, a5, a6, nnU (by omega), if_pos rfl]
        have x6' : RTq h0 g3 i3 0 s3.2.2.2.2.1 s3.2.2.2.2.2.1 s3.2.2.2.2.2.2.1 s3.2.2.2.2.2.2.2 (gI h0 82) := by rw [v4]; exact x6
        have head2 : MX12_readOne h0 73 (nI o) = if e ≤ i3 then some (nI 1, g3) else some (nI 0, sI g3 73 9 (nI i3)) := by
          rw [head, a1, b2_some, if_neg (by decide), gg_t (RS.f (rt_rs T a10.1).1).1, x1, ob_some, gg_t (RS.f P1).1, P2, x6.2.1]
          by_cases z3 : e ≤ i3
          · rw [if_pos (nI_le z3 (by omega)), if_pos z3]
          · rw [if_neg (nI_ge (by omega) (by omega)), if_neg z3]
            unfold MX12_fails
            simp only [ZL]
            rw [gg_t (RS.f P1).1, x6.2.1, lt_eq, b2_some, if_pos rfl]
        by_cases z3 : e ≤ i3
        · rw [if_pos z3] at head2
          have ie3 : i3 = e := by omega
          rw [ie3] at v1 x6'
          exact ⟨nI 1, g3, head2, Or.inr ⟨rfl, s3, v1, v2, by omega, x6'⟩⟩
        · rw [if_neg z3] at head2
          have ie3 : i3 < e := by omega
          obtain ⟨f1, f2⟩ := rt_flt T x6'
          refine ⟨nI 0, _, head2, Or.inl ⟨rfl, i3, f1, ru_fl ie3 ?_⟩⟩
          have n32 := x5 ie3
          have k3 : s3.1 = 0 := by rw [v3, a5]
          rw [ruT_s v1]
          unfold stT
          rw [v2]
          by_cases c : i3 = i'
          · obtain ⟨l1, l2⟩ := a9 (by omega)
            rw [c] at n32 ⊢
            rw [l1, if_neg (by decide), if_neg (by decide), if_neg (fun x => l2 x.1), if_neg (by omega), if_neg n32]
          · have r0 := v6 (by omega)
            cases l3 : lB (b i3) with
            | true =>
              rw [if_pos rfl, if_pos r0, if_pos (Or.inl (by unfold tw1; rw [v2, twv, if_neg (by decide)]; omega))]
            | false =>
              rw [if_neg (by decide), if_neg (by decide), if_neg (by omega), if_neg (by omega), if_neg n32]
end
