/-! correct: the head of the call on both sides -/
section
variable {h h' g z : Hp} {m k t : Nat → Int32} {i n fl : Int32} {a q f f2 w l c : Nat} {b : Nat → Nat} {s0 : TX} {v1 v2 v3 v4 v5 v6 : Int32}
theorem r_219t (R : RS g) (h1 : 1 ≤ c) (h4 : c ≤ 4) : MX12_correct_219 (sI g 73 0 (nI c)) 73 v1 v2 v3 v4 v5 v6 = some (nI 0, sI g 73 0 (nI c)) := by
  unfold MX12_correct_219
  simp only [ZL]
  rw [gg_t (show kd (sI g 73 0 (nI c)) 73 = 11 from (RS.f R).1), th_get, if_neg (nI_ge h1 (by omega))]
theorem r_197 (R : RS g) (em : gI g 74 = m) (I : MI m) (hk : a < Nn m 3) : MX12_correct_197 g 73 v1 v2 (nI a) v4 v5 v6 = if Nn m (320230 + 183 * a + 29) = 30 then MX12_correct_219 (sI g 73 0 (nI 4)) 73 v1 v2 (nI a) v4 v5 v6 else MX12_correct_219 g 73 v1 v2 (nI a) v4 v5 v6 := by
  obtain ⟨-, f3⟩ := I.1.f.2.2.2.1
  obtain ⟨e29, l29⟩ := (I.2.2.2.1 a hk).2.2.2.1.eq (by omega)
  unfold MX12_correct_197 MX12_machine0
  simp only [ZL, RS.f R, ob_some]
  rw [gg_T, gg_T, nMul, nAdd, nAdd, gg_in (by omega) (by omega), nCl (by omega), em, e29, lt_eq]
  by_cases c : Nn m (320230 + 183 * a + 29) = 30
  · rw [if_pos (by rw [c]), if_pos c]
  · rw [if_neg (by rw [nEq (by omega) (by omega)]; exact c), if_neg c]
theorem r_corF (R' : RSt h' m k i t (nI l) fl) (I : MI m) (vq : vP m q) (hk : a < Nn m 3) (hw : w < Nn m (130 + 645 * q)) (F : FW m q w f) (F2 : FW m q (w + 1) f2) (hb : ∀ j, j < 400 → t j = nI (b j) ∧ b j ≤ 255) (hl : l ≤ 400) (hs0 : s0 = tB0 (gI h' 82) (gI h' 81) (gI h' 78) (gI h' 79) (gI h' 80)) : ∃ h0 vv g, MX12_correct h' 73 (nI q) (nI w) (nI a) = (if vv = nI 0 then MX12_correct_219 (sI g 73 0 (nI 2)) 73 (nI q) (nI w) (nI a) (nI (130 + 645 * q)) (nI f) (nI (f2 - f)) else if m (130 + 645 * q + 3) = nI 1 then (if jQ m q = true then MX12_correct_219 (sI g 73 0 (nI 3)) 73 (nI q) (nI w) (nI a) (nI (130 + 645 * q)) (nI f) (nI (f2 - f)) else MX12_correct_197 g 73 (nI q) (nI w) (nI a) (nI (130 + 645 * q)) (nI f) (nI (f2 - f))) else MX12_correct_197 g 73 (nI q) (nI w) (nI a) (nI (130 + 645 * q)) (nI f) (nI (f2 - f))) ∧ Fr Rc h' h0 ∧ RSt h0 m k i t (nI 0) (-nI 1) ∧ gI h0 73 0 = nI 0 ∧ RS g ∧ gI g 74 = m ∧ RdO h0 b (Nn m (130 + 645 * q + 1) - (f2 - f)) l s0 vv g := by
  have q1 := vq.1
  have J := I.2.1 q vq
  obtain ⟨n1, b40⟩ := J.2.1.eq (by omega)
  obtain ⟨n0, b24⟩ := J.1.eq (by omega)
  obtain ⟨d1, d2⟩ := FW_2 J F F2 hw
  have f2n := F2.1
  obtain ⟨hu, u1, u2, u3, u4, u5, u6⟩ := r_use R'
  obtain ⟨h9, hh9⟩ : ∃ h9, h9 = sI hu 73 0 (nI 0) := ⟨_, rfl⟩
  obtain ⟨h0, hh0⟩ : ∃ h0, h0 = sI h9 73 9 (-nI 1) := ⟨_, rfl⟩
  have R9 : RSt h9 m k i t (nI 0) fl := by rw [hh9]; exact u3.th
  have R0 : RSt h0 m k i t (nI 0) (-nI 1) := by
    obtain ⟨r0, r1, r2, r3, r4, r5, r6⟩ := R9
    rw [hh0]
    exact ⟨r0.sI, by rw [gI_sI, if_neg (by decide)]; exact r1, by rw [gI_sI, if_neg (by decide)]; exact r2, by rw [gI_sI, if_pos rfl, up_at, if_neg (by decide)]; exact r3, by rw [gI_sI, if_neg (by decide)]; exact r4, by rw [gI_sI, if_pos rfl, up_at, if_neg (by decide)]; exact r5, by rw [gI_sI, if_pos rfl, up_at, if_pos rfl]⟩
  have z73 : ∀ j, gI h0 73 j = if j = 9 then -nI 1 else if j = 0 then nI 0 else gI hu 73 j := fun j => by rw [hh0, gI_sI, if_pos rfl, up_at, hh9, gI_sI, if_pos rfl, up_at]
  have zo : ∀ y, y ≠ 73 → gI h0 y = gI h' y := fun y hy => by rw [hh0, gI_sI, if_neg hy, hh9, gI_sI, if_neg hy]; exact u6 y hy
  have TT0 : RTt h0 b l := ⟨R0.1, by rw [z73, if_neg (by decide), if_neg (by decide)]; exact u4, hl, fun j hj => ⟨by rw [R0.2.2.2.2.1]; exact (hb j (by omega)).1, (hb j (by omega)).2⟩⟩
  obtain ⟨vv, g, a1, a2⟩ := r_one (o := Nn m (130 + 645 * q + 1) - (f2 - f)) TT0 (by rw [z73, if_neg (by decide), if_neg (by decide)]; exact u5) (by omega)
  rw [zo 82 (by omega), zo 81 (by omega), zo 78 (by omega), zo 79 (by omega), zo 80 (by omega), ← hs0] at a2
  have Fg : FQ h0 g := by
    rcases a2 with ⟨-, p, q, -⟩ | ⟨-, s, -, -, -, q⟩
    · exact q.1
    · exact q.1
  have Rg : RS g := R0.1.fr Fg.1
  have mg : gI g 74 = m := by rw [Fg.1.2.2.2.2.2.2 74 (by omega)]; exact R0.2.1
  refine ⟨h0, vv, g, ?_, ?_, R0, by rw [z73, if_neg (by decide), if_pos rfl], Rg, mg, a2⟩
  · have e51 : MX12_correct h' 73 (nI q) (nI w) (nI a) = MX12_correct_51 hu 73 (nI q) (nI w) (nI a) 73 (nI 0) := by
      unfold MX12_correct
      simp only [ZL, r_part0, ob_some]
      rw [gg_t (RS.f R'.1).1, u1, ob_some, gg_t (RS.f u3.1).1, r_isPart_t u3.1 u3.2.1 I.1 vq, ob_some, if_neg (by decide), r_isMachine_t u3.1 u3.2.1 I.1 hk, ob_some, if_neg (by decide)]
      simp only [RS.f u3.1]
      rw [gg_T, nAdd, gg_in (by omega) (by omega), nCl (by omega), u3.2.1, Nat.add_zero, n0, nSub (by have := wP_l J; omega), r_isIn_t (by omega) (by omega) (by omega), ob_some, if_neg (by decide)]
    have e136 : MX12_correct_51 hu 73 (nI q) (nI w) (nI a) 73 (nI 0) = MX12_correct_136 h9 73 (nI q) (nI w) (nI a) (nI (130 + 645 * q)) (nI f) (nI (f2 - f)) := by
      rw [← r_fst R9.1 R9.2.1 J q1 hw F F2]
      unfold MX12_correct_51
      simp only [ZL]
      rw [gg_t (RS.f u3.1).1, lt_eq, ← hh9, gg_t (RS.f u3.1).1, show gI h9 73 0 = nI 0 by rw [hh9]; exact th_get, if_pos (nI_le (Nat.le_refl _) (by omega)), r_part0, ob_some]
    rw [e51, e136]
    unfold MX12_correct_136
    simp only [ZL, RS.f R9.1]
    rw [gg_T, lt_eq, ← hh0, gg_T, nAdd, gg_in (by omega) (by omega), nCl (by omega), show gI h0 74 = m from R0.2.1, n1, nSub (by omega), a1, b2_some]
    simp only [RS.f Rg]
    rw [gg_T, gg_T, nAdd, gg_in (by omega) (by omega), nCl (by omega), mg, lt_eq]
    by_cases c1 : vv = nI 0
    · rw [if_pos c1, if_pos c1]
    · rw [if_neg c1, if_neg c1]
      by_cases c2 : m (130 + 645 * q + 3) = nI 1
      · rw [if_pos c2, if_pos c2, r_hasJob Rg mg I, ob_some]
        cases jQ m q with
        | true => rw [if_neg (show ¬ bI true = nI 0 by decide), if_pos rfl, gg_T, lt_eq]
        | false => rw [if_pos (show bI false = nI 0 from rfl), if_neg (by decide), gg_T]
      · rw [if_neg c2, if_neg c2, gg_T]
  · rw [hh0, hh9]
    exact (u2.trans th_fr).trans (Fr.sI (S := Rc) ⟨by omega, by omega⟩)
/-- the reference throws for a wrong number -/
theorem r_cor1 (R' : RSt h' m k i t n fl) (I : MI m) (v w z : Int32) (bad : (∀ q, vP m q → v ≠ nI q) ∨ (∃ q, vP m q ∧ v = nI q ∧ ((∀ k, k < Nn m 3 → z ≠ nI k) ∨ ∀ j, j < Nn m (130 + 645 * q) → w ≠ nI j))) : ∃ h2, MX12_correct h' 73 v w z = some (nI 0, h2) ∧ Fr Rc h' h2 ∧ RSt h2 m k i t (nI 0) fl ∧ gI h2 73 0 = nI 1 := by
  obtain ⟨hu, u1, u2, u3, u4, u5, u6⟩ := r_use R'
  have e21 : MX12_correct_51 hu 73 v w z 73 (nI 1) = some (nI 0, sI hu 73 0 (nI 1)) := by
    unfold MX12_correct_51
    simp only [ZL]
    rw [gg_t (RS.f u3.1).1, lt_eq, gg_t (RS.f u3.1).1, th_get, if_neg (nI_ge (by omega) (by omega))]
  refine ⟨sI hu 73 0 (nI 1), ?_, u2.trans th_fr, u3.th, th_get⟩
  rw [← e21]
  unfold MX12_correct MX12_correct_21
  simp only [ZL]
  rw [gg_t (RS.f R'.1).1, u1, ob_some, gg_t (RS.f u3.1).1]
  rcases bad with hv | ⟨q, vq, rfl, bad⟩
  · rw [r_isPart_f u3.1 u3.2.1 I.1 hv, ob_some, if_pos rfl]
  · have q1 := vq.1
    have J := I.2.1 q vq
    obtain ⟨n0, b24⟩ := J.1.eq (by omega)
    have w1 := wP_l J
    rw [r_isPart_t u3.1 u3.2.1 I.1 vq, ob_some, if_neg (by decide)]
    rcases ni_d z (Nn m 3) with hz | ⟨a, ha, rfl⟩
    · rw [r_isMachine_f u3.1 u3.2.1 I.1 hz, ob_some, if_pos rfl]
    · rcases bad with bad | bad
      · exact absurd rfl (bad a ha)
      · rw [r_isMachine_t u3.1 u3.2.1 I.1 ha, ob_some, if_neg (by decide), r_part0, ob_some]
        simp only [RS.f u3.1]
        rw [gg_T, nAdd, gg_in (by omega) (by omega), nCl (by omega), u3.2.1, Nat.add_zero, n0, nSub (by omega), r_isIn_f (b := Nn m (130 + 645 * q) - 1) (by omega) (fun j hj => bad j (by omega)), ob_some, if_pos rfl]
end
