/-! correct: the reference finds the word; the class's count -/
section
variable {h g : Hp} {m : Nat → Int32} {p q w r f f2 : Nat} {v1 v2 v3 : Int32}
theorem c_bow (S : PtS h p) (V : PtV h p m q) (J : MIp m q) (hw : w < Nn m (130 + 645 * q)) (F : FW m q w f) (F2 : FW m q (w + 1) f2) : MX5_bitsOfWord h p (nI w) = some (nI (f2 - f)) := by
  obtain ⟨a, a1, a2⟩ := c_fBit (w := w) S V J (by omega)
  obtain ⟨c, c1, c2⟩ := c_fBit (w := w + 1) S V J (by omega)
  have := FW_u a2 F
  have := FW_u c2 F2
  subst a c
  have lt := (FW_2 J F F2 hw).1
  unfold MX5_bitsOfWord
  simp only [ZL]
  rw [gg_t S.1, nAdd, c1, ob_some, a1, ob_some, nSub (by omega)]
theorem r_fst (R : RS g) (em : gI g 74 = m) (J : MIp m q) (hq : q < 100) (hw : w < Nn m (130 + 645 * q)) (F : FW m q w f) (F2 : FW m q (w + 1) f2) : MX12_correct_78 g 73 v1 (nI w) v3 (nI (130 + 645 * q)) (-nI 1) (nI 0) (nI 0) = MX12_correct_136 g 73 v1 (nI w) v3 (nI (130 + 645 * q)) (nI f) (nI (f2 - f)) := by
  obtain ⟨e1, b1⟩ := J.2.1.eq (by omega)
  have w24 : Nn m (130 + 645 * q) ≤ 24 := (J.1.eq (by omega)).2
  obtain ⟨lt, wh⟩ := FW_2 J F F2 hw
  have wb : ∀ x, x < Nn m (130 + 645 * q + 1) → m (130 + 645 * q + 85 + x) = nI (wP m q x) ∧ wP m q x ≤ 23 := fun x hx => (J.2.2.2.2.2.2.1 x hx).1.eq (by omega)
  have f2n := F2.1
  have K : ∀ d x, x + d = Nn m (130 + 645 * q + 1) → it (fun z : Int32 × Int32 × Int32 => BX12_correct_78 g 73 v1 (nI w) v3 (nI (130 + 645 * q)) z.1 z.2.1 z.2.2) ((if x ≤ f then -nI 1 else nI f), nI ((if x ≤ f2 then x else f2) - f), nI x) = MX12_correct_136 g 73 v1 (nI w) v3 (nI (130 + 645 * q)) (nI f) (nI (f2 - f)) := fun d => by
    induction d with
    | zero =>
      intro x hx
      have hx : x = Nn m (130 + 645 * q + 1) := hx
      refine it_u1 ?_
      show BX12_correct_78 g 73 v1 (nI w) v3 (nI (130 + 645 * q)) (if x ≤ f then -nI 1 else nI f) (nI ((if x ≤ f2 then x else f2) - f)) (nI x) = _
      unfold BX12_correct_78
      simp only [ZL, RS.f R]
      rw [gg_T, gg_T, nAdd, gg_in (by omega) (by omega), nCl (by omega), em, e1, if_pos (nI_le (by omega) (by omega)), if_neg (show ¬ x ≤ f by omega)]
      by_cases z : x ≤ f2
      · rw [if_pos z, show x = f2 by omega]
      · rw [if_neg z]
    | succ d ih =>
      intro x hx
      have xl : x < Nn m (130 + 645 * q + 1) := by omega
      obtain ⟨a1, a2⟩ := wb x xl
      have wx := wh x xl
      have head : ∀ v5 v6, BX12_correct_78 g 73 v1 (nI w) v3 (nI (130 + 645 * q)) v5 (nI v6) (nI x) = if wP m q x = w then (if v5 = -nI 1 then some (.inl (nI x, nI (v6 + 1), nI (x + 1))) else some (.inl (v5, nI (v6 + 1), nI (x + 1)))) else some (.inl (v5, nI v6, nI (x + 1))) := fun v5 v6 => by
        unfold BX12_correct_78 MX12_correct_125
        simp only [ZL, RS.f R]
        rw [gg_T, gg_T, nAdd, gg_in (by omega) (by omega), nCl (by omega), em, e1, if_neg (nI_ge xl (by omega)), nAdd, nAdd, gg_in (by omega) (by omega), nCl (by omega), a1, nAdd, nAdd]
        by_cases z : wP m q x = w
        · rw [if_pos (by rw [z]), if_pos z]
        · rw [if_neg (show ¬ nI (wP m q x) = nI w by rw [nEq (by omega) (by omega)]; exact z), if_neg z]
      have st : BX12_correct_78 g 73 v1 (nI w) v3 (nI (130 + 645 * q)) (if x ≤ f then -nI 1 else nI f) (nI ((if x ≤ f2 then x else f2) - f)) (nI x) = some (.inl ((if x + 1 ≤ f then -nI 1 else nI f), nI ((if x + 1 ≤ f2 then x + 1 else f2) - f), nI (x + 1))) := by
        rw [head]
        by_cases z1 : x < f
        · rw [if_neg (fun e => by have := wx.mp e; omega), if_pos (show x ≤ f by omega), if_pos (show x + 1 ≤ f by omega), if_pos (show x ≤ f2 by omega), if_pos (show x + 1 ≤ f2 by omega), show x - f = x + 1 - f by omega]
        · by_cases z2 : x < f2
          · rw [if_pos (wx.mpr ⟨by omega, z2⟩), if_neg (show ¬ x + 1 ≤ f by omega), if_pos (show x ≤ f2 by omega), if_pos (show x + 1 ≤ f2 by omega), show x - f + 1 = x + 1 - f by omega]
            by_cases z3 : x = f
            · rw [if_pos (show x ≤ f by omega), if_pos rfl, z3]
            · rw [if_neg (show ¬ x ≤ f by omega), if_neg (by rw [nM6 (by omega)]; exact id)]
          · rw [if_neg (fun e => by have := wx.mp e; omega), if_neg (show ¬ x ≤ f by omega), if_neg (show ¬ x + 1 ≤ f by omega), if_neg (show ¬ x + 1 ≤ f2 by omega)]
            by_cases z3 : x ≤ f2
            · rw [if_pos z3, show x = f2 by omega]
            · rw [if_neg z3]
      rw [it_next (s' := ((if x + 1 ≤ f then -nI 1 else nI f), nI ((if x + 1 ≤ f2 then x + 1 else f2) - f), nI (x + 1))) st]
      exact ih (x + 1) (by omega)
  have k := K (Nn m (130 + 645 * q + 1)) 0 (Nat.zero_add _)
  rw [if_pos (Nat.zero_le _), if_pos (Nat.zero_le _), Nat.zero_sub] at k
  unfold MX12_correct_78
  exact k
end
