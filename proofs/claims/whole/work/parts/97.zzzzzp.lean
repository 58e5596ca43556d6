/-! correct: a part that is set, the class up to the counted lines -/
/-- the rest of it, once there is a way -/
noncomputable def cwR (h18 : Hp) (p cc : Nat) (q op fr : Nat) : Option (Int32 × Hp) :=
  gg (kd h18 13 = 4) <| Option.bind (MX5_takeLines h18 13 p) fun (h23 : Hp) => gg (kd h23 19 = 6) <| gg (kd h23 (gP h23 19 14) = 0) <| Option.bind (MX0_putLines h23 (gP h23 19 14) 13 (nI op) (nI fr)) fun (h27 : Hp) => gg (kd h27 19 = 6) <| b2 (MX7_countSame h27 19 p 13 (nI op)) fun (t31 : Int32) (h30 : Hp) => gg (kd h30 19 = 6) <| Option.bind (MX7_movePlaces h30 19 p 13 (nI op) t31) fun (h34 : Hp) => gg (kd h34 p = 4) <| Option.bind (MX5_takeCopy h34 p 13) fun (h37 : Hp) => gg (kd h37 p = 4) <| Option.bind (MX5_takeLines h37 p 13) fun (h40 : Hp) => gg (kd h40 p = 4) <| if ((gI h40 p 9) - t31) ≤ nI op then MX7_correctWith_152 h40 (nI op) ((gI h40 p 9) - t31) else gg (kd h40 cc = 3) <| Option.bind (MX4_addJob h40 cc (nI q) (nI op) ((gI h40 p 9) - t31) (nI 1)) fun (h45 : Hp) => MX7_correctWith_152 h45 (nI op) ((gI h40 p 9) - t31)
section
variable {tg : Nat → List Nat} {h h1 h2 g : Hp} {m M M1 M2 : Nat → Int32} {p q f fr op n b cc : Nat} {w : Int32} {c : Nat → Nat} {D : Nat → Prop}
theorem op_u (O1 : OPn m q f op) {op' : Nat} (O2 : OPn m q f op') : op = op' := by
  by_cases z : op < op'
  · have := O2.2.2 op z
    have := O1.2.1
    omega
  · by_cases y : op' < op
    · have := O1.2.2 op' y
      have := O2.2.1
      omega
    · omega
/-- writes at the spare part -/
theorem rm_13 (K : Rt tg h 19 5) (F : Fr D h h1) (hD : ∀ y, D y → y ≠ 0 ∧ (tg y = [4] ∨ ∃ j, tg y = [j, 4])) (S : RmS h 19) (V : RmV h 19 m) : RmS h1 19 ∧ RmV h1 19 m := by
  have A : Aw tg D 5 := fun y hy => ⟨(hD y hy).1, fun z => by
    rcases (hD y hy).2 with u | ⟨j, u⟩
    · rw [u] at z
      exact absurd (suf1 z (List.suffix_refl [4])) (by omega)
    · rw [u] at z
      exact absurd (suf1 z (List.suffix_append [j] [4])) (by omega)⟩
  have e5 := sm3.fr (r := 19) K.1 K.2.1 F A (by omega) (by rw [K.2.2.1]; exact List.suffix_refl _)
  exact ⟨S.congr e5, V.congr e5⟩
theorem RmW.o (V : RmW h 19 m) (I : MIw m) (H2 : M 2 = m 2) (H16 : ∀ i, i < 54 → M (16 + i) = m (16 + i)) (Hy : ∀ y, 320962 ≤ y → M y = m y) : RmW h 19 M := by
  obtain ⟨v1, v2, v3⟩ := V
  refine ⟨by rw [H2]; exact v1, fun i hi => by rw [H16 i hi]; exact v2 i hi, fun y hy => ?_⟩
  rw [Nn.c H2] at hy
  exact ⟨(v3 y hy).1, (v3 y hy).2.mc (fun x hx => Hy _ (by omega)) (I.2 y hy).2.1⟩
theorem MIw.o (I : MIw m) (Hb : ∀ x, x < 130 → M x = m x) (Hy : ∀ y, 320962 ≤ y → M y = m y) : MIw M := by
  refine ⟨I.1.mc Hb, fun y hy => ?_⟩
  rw [Nn.c (Hb 2 (by omega))] at hy
  exact (I.2 y hy).mc fun x hx => Hy _ (by omega)
theorem PtX.k (V : PtX h p M q) (eP : gP h1 = gP h) (e5 : gI h1 p 5 = gI h p 5) (e6 : gI h1 p 6 = gI h p 6) (e7 : gI h1 p 7 = gI h p 7) (e8 : gI h1 p 8 = gI h p 8) (ea : ∀ j, j ≤ 2 → gI h1 (gP h p j) = gI h (gP h p j)) (e0 : M2 (130 + 645 * q) = M (130 + 645 * q)) (e1 : M2 (130 + 645 * q + 1) = M (130 + 645 * q + 1)) (e70 : M2 (70 + q / 5) = M (70 + q / 5)) (e90 : M2 (90 + q / 5) = M (90 + q / 5)) (ep : ∀ y, 130 + 645 * q + 85 ≤ y → M2 y = M y) : PtX h1 p M2 q := by
  obtain ⟨v5, v6, v7, v8, -, -, vb, -, -⟩ := V
  unfold PtX
  rw [eP, e5, e6, e7, e8, ea 0 (by omega), ea 1 (by omega), ea 2 (by omega), e0, e1, e70, e90, Nn.c e1]
  refine ⟨v5, v6, v7, v8, trivial, trivial, fun b hb => ?_, trivial, trivial⟩
  obtain ⟨w1, w2, w3⟩ := vb b hb
  rw [ep (130 + 645 * q + 85 + b) (by omega), ep (130 + 645 * q + 85 + (b + 1)) (by omega), ep (130 + 645 * q + 125 + b) (by omega), Nn.c (ep (130 + 645 * q + 125 + b) (by omega))]
  exact ⟨w1, w2, fun i hi => by rw [ep _ (by omega)]; exact w3 i hi⟩
/-- the spare part has the new copy; which way is found -/
theorem cw_a (O : Own tg h) (X : XS h) (X2 : XS2 h) (K : Rt tg h 19 5) (S : RmS h 19) (V : RmV h 19 m) (I : MI m) (vq : vP m q) (u3 : m (130 + 645 * q + 3) = nI 1) (hp : p = gP h (gP h 19 5) q) (p0 : p ≠ 0) (I1 : MIw M1) (C1 : MIc M1 q) (PX : PtX h 13 M1 q) (H0 : ∀ y, (y < 130 + 645 * q + 85 ∨ 130 + 645 * q + 645 ≤ y) → y ≠ 130 + 645 * q + 1 → M1 y = m y) (hf : MX5_firstBit h p w = some (nI f)) (fn : f < Nn m (130 + 645 * q + 1)) (fP : f < nP M1 q) (Op : OPn m q f op) : ∃ g, Sc tg 19 5 h g ∧ MX7_correctWith h 19 (nI q) w 13 cc = (if enL (wyT M1 q (m 0) (bgN m q op)) = -nI 1 then some (-nI 1, g) else cwR g p cc q op (bgN m q op)) ∧ gI g (gP h 19 14) 6 = nI (nP M1 q) ∧ kd g (gP h 19 14) = 0 ∧ (kd g (gP h (gP h 19 14) 12) = 20 ∧ ln g (gP h (gP h 19 14) 12) = 41) ∧ ∀ i v, bgN m q op ≤ i → i < nP M1 q → wyT M1 q (m 0) i = some v → gI g (gP h (gP h 19 14) 12) i = nI (v.2.2 - 1) := by
  have J := I.2.1 q vq
  obtain ⟨tp, p3, t13, N13, pd, np, nq, -, tq, -, -⟩ := sp_nm O X X2 S hp p0
  have P13 : PtS h 13 := X2.2.2.2.2.2.2.2.2.2.2.2.2.2
  obtain ⟨p', hp', ec, -, PS, PV⟩ := c_findPart_t S V I.1 vq
  rw [← hp] at hp'
  replace hp' := hp'.symm
  subst hp'
  obtain ⟨g1, g2, g3⟩ := op_bg J u3 Op
  have vq1 : vP M1 q := vq.b (fun x hx => H0 x (by have := vq.1; omega) (by omega))
  have q1 := vq.1
  have V1 : RmW h 19 M1 := V.rmw.o I.w (H0 2 (by omega) (by omega)) (fun i hi => H0 _ (by omega) (by omega)) (fun y hy => H0 y (by omega) (by omega))
  have A13 : Pa tg h 13 5 := by
    obtain ⟨-, s2, s3, s4, s5, s6, -⟩ := id P13
    have ta : ∀ j, gP h 13 j ≠ 0 → ¬ scT 5 (tg (gP h 13 j)) := fun j hj => by rw [tgc O hj (by omega), t13]; simp [scT]
    refine ⟨by rw [t13]; simp [scT], fun j hj => ?_⟩
    rcases (show j = 0 ∨ j = 1 ∨ j = 2 ∨ j = 3 ∨ j = 4 by omega) with rfl | rfl | rfl | rfl | rfl
    · exact ta 0 s2.1
    · exact ta 1 s3.1
    · exact ta 2 s4.1
    · exact ta 3 s5.1
    · exact ta 4 s6.1
  obtain ⟨z1, k1, k2, k3, k4, -, -⟩ := c_brX K S V1 I1 P13 PX C1.x A13 vq1 (m 0)
  obtain ⟨z2, y1, y2, y3⟩ := c_solveX (ps_q I1 (m 0)) k3 k4 I1.1 vq1 C1.x (fr := bgN m q op) (by omega)
  have A2 : Sc tg 19 5 h z2 := sc_dw K S k2 y2
  have e1 : gP z1 = gP h := k2.1.gp
  have lo := c_lineOf PS PV J u3 fn
  obtain ⟨op', lo1, lo2⟩ := lo
  have := op_u Op lo2
  subst this
  have fb := c_fbl PS PV J u3 Op.1
  have c11 : gI h p 11 = nI 1 := by rw [PV.2.2.2.2.2.1]; exact u3
  have c0 : gI h 19 0 = m 0 := V.1
  have S2 := A2.rs K S
  have bS := S2.2.2.2.2.2.2.2.2.2.2.2.2.2.2.2.1
  have eP2 : gP z2 = gP h := A2.1.gp
  rw [eP2] at bS
  have b12 := bS.2.2.2.2.2.2.1
  unfold ar at b12
  rw [eP2] at b12
  refine ⟨z2, A2, ?_, ?_, bS.2.1, ⟨b12.2.1, b12.2.2⟩, fun i v h3 h4 hv => ?_⟩
  · unfold MX7_correctWith
    simp only [ZL]
    rw [gg_t S.1, ec, ob_some, if_neg p0, gg_t PS.1, c11, if_neg (by decide), hf, ob_some, lo1, ob_some, fb, ob_some, c0, k1, b2_some, gg_t k3.1.1, y1, b2_some]
    rfl
  · have := y2.2.2.2.2.2.2 (gP h 19 14) (fun z => ?_)
    · rw [this]; exact k3.2.1.1
    · unfold Dw at z
      rw [e1] at z
      obtain ⟨b0, -⟩ := S.2.2.2.2.2.2.2.2.2.2.2.2.2.2.2.1
      have t14 := K.a b0
      have tt : ∀ i, gP h (gP h 19 14) i ≠ 0 → gP h 19 14 ≠ gP h (gP h 19 14) i := fun i hi e => by
        have := K.o hi
        rw [← e, t14] at this
        simp at this
      rcases z with z | z | z | z
      · exact tt 10 (by rw [← z]; exact b0) z
      · exact tt 11 (by rw [← z]; exact b0) z
      · exact tt 12 (by rw [← z]; exact b0) z
      · exact tt 13 (by rw [← z]; exact b0) z
  · have a := y3 i h3 (Nat.le_of_lt h4)
    have := (a.2 v hv).2 h4
    rw [eP2] at this
    exact this
end
