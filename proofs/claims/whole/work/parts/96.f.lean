/-! the class: the best way, its lines, the reach, by hand -/
theorem lV_lt {c f : Nat} (hc : c < 2147483648) (hf : f < 2147483648) : (lV c < nI f) = (c ≤ f) := by
  unfold lV
  by_cases z : c = 0
  · rw [if_pos z, nM1 hf]
    exact propext ⟨fun _ => by omega, fun _ => trivial⟩
  · rw [if_neg z, nLt (by omega) hf]
    exact propext ⟨fun _ => by omega, fun _ => by omega⟩
theorem lV_p {c : Nat} (z : c ≠ 0) : lV c = nI (c - 1) := by unfold lV; rw [if_neg z]
/-- the ways of part q under these numbers -/
def wyD (m : Nat → Int32) (q me le mo co : Nat) : Nat → BT := dpv (fun a j => sdB m q me le mo a (j - 1)) (fun a j => bdN m q me le co a (j - 1)) (nP m q)
/-- where the k-th line begins -/
def chn (D : Nat → BT) (fr : Nat) : Nat → Nat
  | 0 => fr
  | k + 1 => match D (chn D fr k) with
    | some v => v.2.2
    | none => chn D fr k
section
variable {h h1 h' : Hp} {m : Nat → Int32} {q b me le mo co : Nat}
theorem wyD_n (J : MIp m q) : wyD m q me le mo co (nP m q) = some (0, 0, 0) := dpv_n
theorem wyD_b (P : Ps me le mo co) (J : MIp m q) {i : Nat} (hi : i ≤ nP m q) {v : Nat × Nat × Nat} (hv : wyD m q me le mo co i = some v) : v.1 ≤ 6439960 ∧ v.2.1 ≤ nP m q - i ∧ (i < nP m q → i < v.2.2 ∧ v.2.2 ≤ nP m q ∧ sdB m q me le mo i (v.2.2 - 1) = true ∧ 1 ≤ v.2.1 ∧ ∃ w, wyD m q me le mo co v.2.2 = some w ∧ w.2.1 + 1 = v.2.1) := by
  obtain ⟨-, n40, -⟩ := J.n
  obtain ⟨b1, b2, b3⟩ := dpv_b n40 (fun a b => bd_le P.2.1 P.2.2.2.2.2) (nP m q - i) i (by omega) v hv
  refine ⟨by omega, b2, fun hi2 => ?_⟩
  obtain ⟨c1, c2, c3, c4, w, c5, -, c6⟩ := b3 hi2
  exact ⟨c1, c2, c3, c4, w, c5, c6.symm⟩
theorem chn_w (P : Ps me le mo co) (J : MIp m q) {fr : Nat} (hf : fr ≤ nP m q) {v : Nat × Nat × Nat} (hv : wyD m q me le mo co fr = some v) : ∀ k, k ≤ v.2.1 → ∃ w, wyD m q me le mo co (chn (wyD m q me le mo co) fr k) = some w ∧ w.2.1 + k = v.2.1 ∧ fr + k ≤ chn (wyD m q me le mo co) fr k ∧ chn (wyD m q me le mo co) fr k ≤ nP m q
  | 0, _ => ⟨v, hv, rfl, Nat.le_refl _, hf⟩
  | k + 1, hk => by
    obtain ⟨w, h1, h2, h3, h4⟩ := chn_w P J hf hv k (by omega)
    have z : chn (wyD m q me le mo co) fr k < nP m q := by
      rcases Nat.lt_or_ge (chn (wyD m q me le mo co) fr k) (nP m q) with z | z
      · exact z
      · have e : chn (wyD m q me le mo co) fr k = nP m q := by omega
        rw [e, wyD_n J] at h1
        have h1 := Option.some.inj h1
        subst h1
        have h2 : 0 + k = v.2.1 := h2
        omega
    obtain ⟨-, -, c⟩ := wyD_b P J h4 h1
    obtain ⟨c1, c2, -, -, x, c5, c6⟩ := c z
    have e : chn (wyD m q me le mo co) fr (k + 1) = w.2.2 := by
      show (match wyD m q me le mo co (chn (wyD m q me le mo co) fr k) with | some v => v.2.2 | none => _) = _
      rw [h1]
    rw [e]
    exact ⟨x, c5, by omega, by omega, c2⟩
theorem chn_e (P : Ps me le mo co) (J : MIp m q) {fr : Nat} (hf : fr ≤ nP m q) {v : Nat × Nat × Nat} (hv : wyD m q me le mo co fr = some v) : chn (wyD m q me le mo co) fr v.2.1 = nP m q := by
  obtain ⟨w, h1, h2, h3, h4⟩ := chn_w P J hf hv v.2.1 (Nat.le_refl _)
  rcases Nat.lt_or_ge (chn (wyD m q me le mo co) fr v.2.1) (nP m q) with z | z
  · obtain ⟨-, -, c⟩ := wyD_b P J h4 h1
    have := (c z).2.2.2.1
    omega
  · omega
theorem chn_s (P : Ps me le mo co) (J : MIp m q) {fr : Nat} (hf : fr ≤ nP m q) {v : Nat × Nat × Nat} (hv : wyD m q me le mo co fr = some v) {k : Nat} (hk : k < v.2.1) : ∃ w, wyD m q me le mo co (chn (wyD m q me le mo co) fr k) = some w ∧ w.2.2 = chn (wyD m q me le mo co) fr (k + 1) ∧ chn (wyD m q me le mo co) fr k < w.2.2 ∧ w.2.2 ≤ nP m q ∧ chn (wyD m q me le mo co) fr k < nP m q ∧ sdB m q me le mo (chn (wyD m q me le mo co) fr k) (w.2.2 - 1) = true := by
  obtain ⟨w, h1, h2, h3, h4⟩ := chn_w P J hf hv k (by omega)
  have z : chn (wyD m q me le mo co) fr k < nP m q := by
    rcases Nat.lt_or_ge (chn (wyD m q me le mo co) fr k) (nP m q) with z | z
    · exact z
    · have e : chn (wyD m q me le mo co) fr k = nP m q := by omega
      rw [e, wyD_n J] at h1
      have h1 := Option.some.inj h1
      subst h1
      have h2 : 0 + k = v.2.1 := h2
      omega
  obtain ⟨-, -, c⟩ := wyD_b P J h4 h1
  obtain ⟨c1, c2, c3, -⟩ := c z
  refine ⟨w, h1, ?_, c1, c2, z, c3⟩
  show _ = (match wyD m q me le mo co (chn (wyD m q me le mo co) fr k) with | some v => v.2.2 | none => _)
  rw [h1]
theorem c_solve (P : Ps me le mo co) (L : BL h b m q me le mo co) (Q : BQ h b) (B : MIb m) (hq : vP m q) (J : MIp m q) {fr : Nat} (hf : fr < nP m q) : ∃ h1, MX0_solve h b (nI fr) = some (enL (wyD m q me le mo co fr), h1) ∧ Fr (Dw h b) h h1 ∧ AR h1 b (wyD m q me le mo co) fr (nP m q) := by
  obtain ⟨n, hn⟩ : ∃ n, n = nP m q := ⟨_, rfl⟩
  have j40 := (J.n).2.1
  rw [← hn] at hf j40 ⊢
  have k0 := L.1.1
  obtain ⟨-, k10, l10⟩ := L.1.2.2.2.1
  obtain ⟨-, k11, l11⟩ := L.1.2.2.2.2.1
  have c6 : gI h b 6 = nI n := by rw [hn]; exact L.2.1.1
  have n1011 := Q.2 10 11 (by omega) (by omega) (by omega) (by omega) (by omega)
  have nb10 := Q.1 10 (by omega) (by omega)
  have nb11 := Q.1 11 (by omega) (by omega)
  obtain ⟨g0, hg0⟩ : ∃ g, g = sI (sI h (gP h b 10) n (nI 0)) (gP h b 11) n (nI 0) := ⟨_, rfl⟩
  have G0 : Fr (Dw h b) h g0 := by rw [hg0]; exact (Fr.sI (Or.inl rfl)).trans (Fr.sI (Or.inr (Or.inl rfl)))
  have e0 : MX0_solve h b (nI fr) = MX0_solve_27 g0 b (nI fr) (lV n) := by
    unfold MX0_solve
    rw [gg_t k0, gg_t k10, c6, l10, gg_in (by omega) (by omega), nCl (by omega), lt_eq, gg_t k11, gI_sI, if_neg nb10.n, c6, l11, gg_in (by omega) (by omega), nCl (by omega), lt_eq, gI_sI, if_neg nb11.n, gI_sI, if_neg nb10.n, c6, hg0]
    simp only [ZL]
    rw [lV_m]
  rw [e0]
  unfold MX0_solve_27
  have K : ∃ r, it (fun s : Int32 × Hp => BX0_solve_27 s.2 b (nI fr) s.1) (lV n, g0) = some r ∧ (r.1 = enL (wyD m q me le mo co fr) ∧ Fr (Dw h b) h r.2 ∧ AR r.2 b (wyD m q me le mo co) fr n) := by
    refine it_cnt (fun d s => s.1 = lV (n - d) ∧ Fr (Dw h b) h s.2 ∧ AR s.2 b (wyD m q me le mo co) (n - d) n) (n - fr) (fun d s hd p => ?_) (fun s p => ?_) ⟨rfl, G0, ?_⟩
    · obtain ⟨a, g⟩ := s
      obtain ⟨p1, G, p3⟩ := p
      have p1 : a = lV (n - d) := p1
      have G : Fr (Dw h b) h g := G
      have p3 : AR g b (wyD m q me le mo co) (n - d) n := p3
      subst p1
      have A1 : AR g b (wyD m q me le mo co) (n - d - 1 + 1) (nP m q) := by rw [show n - d - 1 + 1 = n - d by omega, ← hn]; exact p3
      obtain ⟨g1, k1, k2, k3⟩ := c_solveAt P (L.fr Q G) (Q.fr G) B hq J (i := n - d - 1) (by omega) A1
      have k2 : Fr (Dw g b) g g1 := k2
      have k2' : Fr (Dw h b) g g1 := k2.mono (fun c z => by unfold Dw at z ⊢; rw [G.2.2.1] at z; exact z)
      refine ⟨(lV (n - (d + 1)), g1), ?_, rfl, G.trans k2', ?_⟩
      · show BX0_solve_27 g b (nI fr) (lV (n - d)) = _
        unfold BX0_solve_27
        rw [if_neg (by rw [lV_lt (by omega) (by omega)]; omega), gg_t (L.fr Q G).1.1, lV_p (by omega), k1, ob_some, show nI (n - d - 1) + (-1 : Int32) = lV (n - d - 1) from lV_s _]
        exact rfl
      · show AR g1 b (wyD m q me le mo co) (n - (d + 1)) n
        rw [show n - (d + 1) = n - d - 1 by omega, hn]
        rw [hn] at k3
        exact k3
    · obtain ⟨a, g⟩ := s
      obtain ⟨p1, G, p3⟩ := p
      have p1 : a = lV (n - (n - fr)) := p1
      have G : Fr (Dw h b) h g := G
      have p4 : AR g b (wyD m q me le mo co) fr n := by
        have p3 : AR g b (wyD m q me le mo co) (n - (n - fr)) n := p3
        rw [show n - (n - fr) = fr by omega] at p3
        exact p3
      rw [show n - (n - fr) = fr by omega] at p1
      subst p1
      obtain ⟨r1, r2⟩ := p4 fr (Nat.le_refl _) (by omega)
      refine ⟨(enL (wyD m q me le mo co fr), g), ?_, rfl, G, p4⟩
      show BX0_solve_27 g b (nI fr) (lV fr) = _
      unfold BX0_solve_27 MX0_solve_43
      have Lg := L.fr Q G
      obtain ⟨-, k11', l11'⟩ := Lg.1.2.2.2.2.1
      rw [if_pos (by rw [lV_lt (by omega) (by omega)]; omega), gg_t Lg.1.1, gg_t k11', l11', gg_in (by omega) (by omega), nCl (by omega), r1]
      rfl
    · show AR g0 b (wyD m q me le mo co) (n - 0) n
      intro i hi1 hi2
      have hi : i = n := by omega
      subst hi
      have en : wyD m q me le mo co i = some (0, 0, 0) := by rw [hn]; exact wyD_n J
      rw [en, hg0]
      refine ⟨by show gI (sI _ (gP h b 11) i (nI 0)) (gP h b 11) i = _; rw [gIl]; rfl, fun v hv => ?_⟩
      have hv := Option.some.inj hv
      subst hv
      refine ⟨?_, fun hlt => absurd hlt (Nat.lt_irrefl _)⟩
      show gI (sI (sI h (gP h b 10) i (nI 0)) (gP h b 11) i (nI 0)) (gP h b 10) i = nI 0
      rw [gI_sI, if_neg n1011.n, gIl]
  obtain ⟨⟨a, g⟩, k1, k2, k3, k4⟩ := K
  have k2 : a = enL (wyD m q me le mo co fr) := k2
  exact ⟨g, by rw [k1, k2], k3, k4⟩
/-- the end of a line of the way from the first piece on -/
theorem c_endOfLine (P : Ps me le mo co) (L : BL h b m q me le mo co) (J : MIp m q) (A : AR h b (wyD m q me le mo co) 0 (nP m q)) {v : Nat × Nat × Nat} (hv : wyD m q me le mo co 0 = some v) (x : Int32) : ((∀ k, k < v.2.1 → x ≠ nI k) → MX0_endOfLine h b x = some (-nI 1)) ∧ ∀ k, k < v.2.1 → x = nI k → MX0_endOfLine h b x = some (nI (chn (wyD m q me le mo co) 0 (k + 1) - 1)) := by
  obtain ⟨-, j40, j1⟩ := J.n
  have vb := (wyD_b P J (Nat.zero_le _) hv).2.1
  have k0 := L.1.1
  obtain ⟨-, k11, l11⟩ := L.1.2.2.2.2.1
  obtain ⟨-, k12, l12⟩ := L.1.2.2.2.2.2.1
  have e0 : gI h (gP h b 11) 0 = nI v.2.1 := by rw [(A 0 (by omega) (by omega)).1, hv]; rfl
  obtain ⟨D, hD⟩ : ∃ D, D = wyD m q me le mo co := ⟨_, rfl⟩
  have st : ∀ k, k < v.2.1 → x ≠ nI k → BX0_endOfLine_4 h b x (nI (chn D 0 k)) (nI k) = some (.inl (nI (chn D 0 (k + 1)), nI (k + 1))) := fun k hk hx => by
    obtain ⟨w, h1, h2, h3, h4, h5, -⟩ := chn_s P J (Nat.zero_le _) hv hk
    rw [← hD] at h1 h2 h3 h5
    have e12 := ((A (chn D 0 k) (by omega) (by omega)).2 w (by rw [← hD]; exact h1)).2 h5
    unfold BX0_endOfLine_4
    simp only [ZL]
    rw [gg_t k0, gg_t k11, l11, gg_in (by omega) (by omega), nCl (by omega), e0, if_neg (nI_ge hk (by omega)), if_neg (fun z => hx z.symm), gg_t k12, l12, gg_in (by omega) (by omega), nCl (by omega), e12, nAdd, nAdd, ← h2, show w.2.2 - 1 + 1 = w.2.2 by omega]
  have pre : MX0_endOfLine h b x = it (fun s : Int32 × Int32 => BX0_endOfLine_4 h b x s.1 s.2) (nI (chn D 0 0), nI 0) := rfl
  rw [pre, ← hD]
  refine ⟨fun hx => ?_, fun k hk hx => ?_⟩
  · refine it_seq (fun k => (nI (chn D 0 k), nI k)) v.2.1 (fun k hk => st k hk (hx k hk)) (it_done ?_)
    show BX0_endOfLine_4 h b x (nI (chn D 0 v.2.1)) (nI v.2.1) = _
    unfold BX0_endOfLine_4
    simp only [ZL]
    rw [gg_t k0, gg_t k11, l11, gg_in (by omega) (by omega), nCl (by omega), e0, if_pos (nI_le (Nat.le_refl _) (by omega))]
  · refine it_seq (fun k => (nI (chn D 0 k), nI k)) k (fun j hj => st j (by omega) (by rw [hx, Ne, nEq (by omega) (by omega)]; omega)) (it_done ?_)
    obtain ⟨w, h1, h2, h3, h4, h5, -⟩ := chn_s P J (Nat.zero_le _) hv hk
    rw [← hD] at h1 h2 h3 h5
    have e12 := ((A (chn D 0 k) (by omega) (by omega)).2 w (by rw [← hD]; exact h1)).2 h5
    show BX0_endOfLine_4 h b x (nI (chn D 0 k)) (nI k) = _
    unfold BX0_endOfLine_4 MX0_endOfLine_19
    simp only [ZL]
    rw [gg_t k0, gg_t k11, l11, gg_in (by omega) (by omega), nCl (by omega), e0, if_neg (nI_ge hk (by omega)), if_pos hx.symm, gg_t k12, l12, gg_in (by omega) (by omega), nCl (by omega), e12, h2, gg_t k0]
    rfl
end
