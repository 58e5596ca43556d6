/-! correct: a part that is set, all of the reference -/
section
variable {h h1 g z z' : Hp} {m M1 M2 M3 kk t : Nat → Int32} {ii u fl : Int32} {k q f f2 op ol nl sn w pc : Nat} {v3 : Int32} {Ln' Lt' : Nat → Int32}
theorem r_corS (R : RSt g m kk ii t u fl) (e0 : gI g 73 0 = nI 0) (I : MI m) (vq : vP m q) (u3 : m (130 + 645 * q + 3) = nI 1) (q79 : gI g 79 = Ln') (q80 : gI g 80 = Lt') (q81 : gI g 81 0 = nI pc) (ff : f ≤ f2) (fn2 : f2 ≤ Nn m (130 + 645 * q + 1)) (h40 : f + pc + (Nn m (130 + 645 * q + 1) - f2) ≤ 40) (hM1 : M1 = chM m (130 + 645 * q) f f2 pc (Nn m (130 + 645 * q + 1)) (nI w) Ln' Lt') (I1 : MIw M1) (Z1 : StM M1) (C1 : MIc M1 q) (H0 : ∀ y, (y < 130 + 645 * q + 85 ∨ 130 + 645 * q + 645 ≤ y) → y ≠ 130 + 645 * q + 1 → M1 y = m y) (Ha : ∀ x, x < f → M1 (130 + 645 * q + 85 + x) = m (130 + 645 * q + 85 + x) ∧ M1 (130 + 645 * q + 125 + x) = m (130 + 645 * q + 125 + x)) (fn : f < Nn m (130 + 645 * q + 1)) (fP : f < nP M1 q) (Op : OPn m q f op) : (wyT M1 q (m 0) (bgN m q op) = none → ∃ z, MX12_correct_219 g 73 (nI q) (nI w) v3 (nI (130 + 645 * q)) (nI f) (nI (f2 - f)) = some (-nI 1, z) ∧ Fr Rc g z ∧ RSt z m kk ii t u fl ∧ gI z 73 0 = nI 0) ∧ ∀ v : Nat × Nat × Nat, wyT M1 q (m 0) (bgN m q op) = some v → ∀ M2 nl sn, M2 = clM M1 q op v.2.1 (lnB M1 q (m 0) (bgN m q op)) → nl = op + v.2.1 → sn = fsB (tEq m M2 q (Nn m (130 + 645 * q + 4)) nl) (min (Nn m (130 + 645 * q + 4)) nl - op) 0 → ∃ z, MX12_correct_219 g 73 (nI q) (nI w) v3 (nI (130 + 645 * q)) (nI f) (nI (f2 - f)) = MX12_correct_703 z 73 (nI q) v3 (nI op) (nI nl) (nI sn) ∧ Fr Rc g z ∧ RSt z (laM m M2 q op (Nn m (130 + 645 * q + 4)) nl sn (Nn m (130 + 645 * q + 4))) kk ii t u fl ∧ gI z 73 0 = nI 0 := by
  have q1 := vq.1
  have J := I.2.1 q vq
  obtain ⟨n1, b40⟩ := J.2.1.eq (by omega)
  obtain ⟨e4, l40⟩ := J.2.2.2.2.2.1.eq (by omega)
  have o1 := Op.1
  have vq1 : vP M1 q := vq.b (fun x hx => H0 x (by omega) (by omega))
  obtain ⟨g1', g2', g3'⟩ := op_bg J u3 Op
  have hd : MX12_correct_219 g 73 (nI q) (nI w) v3 (nI (130 + 645 * q)) (nI f) (nI (f2 - f)) = MX12_correct_279 g 73 (nI q) (nI w) v3 (nI (130 + 645 * q)) (nI f) (nI (f2 - f)) (nI op) := by
    rw [← r_256 (v1 := nI q) (v2 := nI w) (v3 := v3) (v6 := nI (f2 - f)) R.1 R.2.1 J q1 u3 (by omega) Op]
    unfold MX12_correct_219
    simp only [ZL, RS.f R.1]
    rw [gg_T, e0, if_pos (nI_le (Nat.le_refl _) (by omega)), gg_T, nAdd, gg_in (by omega) (by omega), nCl (by omega), R.2.1, u3, if_neg (by decide)]
  obtain ⟨z1, k1, F1, A1⟩ := r_279 (v2 := nI w) (v3 := v3) (v6 := nI (f2 - f)) R.1 R.2.1 I vq u3 (Nat.le_of_lt o1) (nI f)
  have R1 : RSt z1 m kk ii t u fl := Rk.st R F1.rk
  obtain ⟨z2, k2, F2, A96⟩ := r_386 (v2 := nI w) (v3 := v3) (v6 := nI (f2 - f)) R1.1 R1.2.1 J vq b40 (ln_set I vq u3 o1) (nI f) (nI (Nn m (130 + 645 * q + 4)))
  have F2k : Rk z1 z2 := Rk.w F2 (fun b hb => by omega)
  have R2 : RSt z2 m kk ii t u fl := Rk.st R1 F2k
  have o2 : ∀ y, y = 79 ∨ y = 80 ∨ y = 81 → gI z2 y = gI g y := fun y hy => by
    rw [F2.2.2.2.2.2.2 y (by omega), F1.1.2.2.2.2.2.2 y (by omega)]
  obtain ⟨z3, k3, F3, e3⟩ := r_changes (Ln := Ln') (Lt := Lt') (f := f) (f2 := f2) (pc := pc) (n := Nn m (130 + 645 * q + 1)) (w := nI w) R2.1 R2.2.1 (B := 130 + 645 * q) (by omega) ff fn2 b40 h40 n1 (by rw [o2 79 (by omega)]; exact q79) (by rw [o2 80 (by omega)]; exact q80) (by rw [o2 81 (by omega)]; exact q81)
  rw [← hM1] at e3
  have o3 : ∀ y, ¬ (y = 74 ∨ F99 y) → gI z3 y = gI z2 y := fun y hy => F3.2.2.2.2.2.2 y hy
  have R3 : RSt z3 M1 kk ii t u fl := ⟨R2.1.fr F3, e3, by rw [o3 75 (by unfold F99; omega)]; exact R2.2.2.1, by rw [o3 73 (by unfold F99; omega)]; exact R2.2.2.2.1, by rw [o3 77 (by unfold F99; omega)]; exact R2.2.2.2.2.1, by rw [o3 73 (by unfold F99; omega)]; exact R2.2.2.2.2.2.1, by rw [o3 73 (by unfold F99; omega)]; exact R2.2.2.2.2.2.2⟩
  obtain ⟨z4, k4, F4, -, AWz⟩ := r_work3 R3.1 R3.2.1 I1 Z1 vq1 C1.x (m 0)
  have R4 : RSt z4 M1 kk ii t u fl := Rk.st R3 F4.1
  have e30 : gI z3 74 0 = m 0 := by rw [e3]; exact H0 0 (by omega) (by omega)
  have t0 : gI z4 73 0 = nI 0 := by rw [F4.1.2.1, o3 73 (by unfold F99; omega), F2.2.2.2.2.2.2 73 (by decide), F1.2 0 (by omega)]; exact e0
  have FR4 : Fr Rc g z4 := ((F1.rk.fr.trans F2k.fr).trans (F3.mono (fun b hb => by unfold Rc; unfold F99 at hb; omega))).trans F4.1.fr
  have pre : MX12_correct_219 g 73 (nI q) (nI w) v3 (nI (130 + 645 * q)) (nI f) (nI (f2 - f)) = if gI z4 87 (bgN m q op) = -nI 1 then MX12_correct_466 z4 73 (nI (130 + 645 * q)) (nI 0) else MX12_correct_507 z4 73 (nI q) v3 (nI (130 + 645 * q)) (nI op) (nI (Nn m (130 + 645 * q + 4))) (nI (bgN m q op)) (nI op) := by
    rw [hd, k1, k2]
    unfold MX12_correct_430
    simp only [ZL, RS.f R2.1]
    rw [gg_T, k3, ob_some]
    simp only [RS.f R3.1]
    rw [gg_T, gg_T, gg_in (by omega) (by omega), nCl (by omega), e30, k4, ob_some]
    simp only [RS.f R4.1]
    rw [gg_T, gg_T, gg_in (by omega) (by omega), nCl (by omega)]
  have aw := AWz (bgN m q op) (Nat.zero_le _) (by omega)
  have c9 : ∀ y, 93 ≤ y → y ≤ 95 → gI z4 y = gI z1 y := fun y y1 y2 => by rw [F4.2.1 y y1 (by omega), o3 y (by unfold F99; omega), F2.2.2.2.2.2.2 y (by omega)]
  refine ⟨fun hn => ?_, fun v hv M2 nl sn hM2 hnl hsn => ?_⟩
  · rw [hn] at aw
    have a1 : gI z4 87 (bgN m q op) = -nI 1 := aw.1
    obtain ⟨z5, k5, F5, R5⟩ := r_466 (m := m) R4 q1 (fun x hx => by rw [F4.2.1 96 (by omega) (by omega), o3 96 (by unfold F99; omega)]; exact A96 x hx) (fun y hy => H0 y (by omega) (by omega))
    refine ⟨z5, ?_, FR4.trans (F5.mono (fun b hb => by unfold Rc; omega)), R5, by rw [F5.2.2.2.2.2.2 73 (by decide)]; exact t0⟩
    rw [pre, if_pos a1, k5]
  · rw [hv] at aw
    have P := ps_q (q := q) I1 (m 0)
    have vb := (wyD_bX P C1.x (i := bgN m q op) (by omega) hv).1
    have a1 : gI z4 87 (bgN m q op) = nI v.1 := aw.1
    obtain ⟨b1, h40', P2, Q2, bg⟩ := cl_ok I vq u3 fn Op I1 C1 H0 Ha fP hv
    obtain ⟨x1, x2, x3, x4, x5, x6⟩ := lnX_f (t := m 0) I1 C1.x vq1 (fr := bgN m q op) (by omega) hv
    rw [← hM2] at P2 Q2 bg
    rw [← hnl] at h40'
    obtain ⟨c, hc⟩ : ∃ c, c = lnB M1 q (m 0) (bgN m q op) := ⟨_, rfl⟩
    rw [← hc] at hM2 x3 x4 x5
    obtain ⟨n, hn⟩ : ∃ n, n = v.2.1 := ⟨_, rfl⟩
    rw [← hn] at hM2 hnl x4 x5 b1
    obtain ⟨c1, c2, c3, c4⟩ := cl_v (M := M1) (q := q) (c := c) (op := op) (n := n) (by omega)
    rw [← hM2] at c1 c2 c3 c4
    have p40 := C1.x.n.2.1
    obtain ⟨z5, k5, F5, R5⟩ := r_507 (v1 := nI q) (v2 := nI op) (v3 := v3) (v6 := nI (Nn m (130 + 645 * q + 4))) (c := c) (op := op) (n := n) (np := nP M1 q) R4 q1 (by omega) p40 C1.x.n.1 x4 (fun j hj => ⟨(x5 j hj).2.1, (x5 j hj).2.2.1⟩) (fun j hj => by
      obtain ⟨y1, y2, y3, w', y4, y5⟩ := x5 j hj
      rw [((AWz (c j) (Nat.zero_le _) (by omega)).2 w' y4).2 (by omega), y5])
    rw [x3, ← hnl] at k5
    rw [← hM2] at R5
    have v3' : M2 (130 + 645 * q + 3) = nI 1 := by rw [c4 _ (by omega), H0 _ (by omega) (by omega)]; exact u3
    have vq2 : vP M2 q := vq.b (fun x hx => by rw [c4 x (by omega), H0 x (by omega) (by omega)])
    have B2 : MIb M2 := I.1.mc (fun x hx => by rw [c4 x (by omega), H0 x (by omega) (by omega)])
    have n4 : Nn M2 (130 + 645 * q + 4) = nl := by unfold Nn; rw [c2, nCl (by omega), hnl]
    have A5 : OL z5 m q op (Nn m (130 + 645 * q + 4)) := (A1.fr (c9 93 (by omega) (by omega)) (c9 94 (by omega) (by omega)) (c9 95 (by omega) (by omega))).fr (F5.2.2.2.2.2.2 93 (by decide)) (F5.2.2.2.2.2.2 94 (by decide)) (F5.2.2.2.2.2.2 95 (by decide))
    obtain ⟨z6, k6, F6⟩ := r_580 (v3 := v3) R5.1 R5.2.1 I vq u3 B2 vq2 P2 Q2 v3' n4 (by omega) rfl o1 (by omega) A5
    rw [← hsn] at k6
    have R6 : RSt z6 M2 kk ii t u fl := Rk.st R5 F6.rk
    obtain ⟨f1, f2', f3⟩ := fsB_p (B := tEq m M2 q (Nn m (130 + 645 * q + 4)) nl) (min (Nn m (130 + 645 * q + 4)) nl - op) 0
    rw [← hsn] at f1 f2' f3
    obtain ⟨z7, k7, F7, R7⟩ := r_632 (v3 := v3) (m := m) (q := q) (op := op) (ol := Nn m (130 + 645 * q + 4)) (nl := nl) (sn := sn) R6 I vq u3 rfl (Nat.le_of_lt o1) (by omega) (by omega) (by omega) (by omega) (fun j h1 h2 => by rw [F6.1.2.2.2.2.2.2 95 (by decide)]; exact (A5 j h1 h2).2.1) (fun l h1 h2 => by
      have := (c1 (l - op) (by omega)).2
      rwa [show op + (l - op) = l by omega] at this) (fun y hy => by rw [c4 y (by omega), H0 y (by omega) (by omega)])
    refine ⟨z7, ?_, ((FR4.trans (F5.mono (fun b hb => by unfold Rc; omega))).trans F6.rk.fr).trans (F7.mono (fun b hb => by unfold Rc; omega)), R7, ?_⟩
    · rw [pre, if_neg (by rw [a1, nM6 (by omega)]; exact id), k5, k6, k7]
    · rw [F7.2.2.2.2.2.2 73 (by decide), F6.2 0 (by omega), F5.2.2.2.2.2.2 73 (by decide)]
      exact t0
end
