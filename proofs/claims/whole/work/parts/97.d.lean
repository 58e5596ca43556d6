/-! the reach and by hand, on both sides -/
section
variable {h h1 h2 h' : Hp} {m : Nat → Int32} {q b me le mo co : Nat}
theorem c_reach (P : Ps me le mo co) (L : BL h b m q me le mo co) (Q : BQ h b) (B : MIb m) (hq : vP m q) (J : MIp m q) : ∃ h1, MX0_reach h b = some (nI (mxN (rcT (fun a j => sdB m q me le mo a (j - 1)) (nP m q) (nP m q)) (nP m q)), h1) ∧ Fr (Dw h b) h h1 := by
  obtain ⟨S, hS⟩ : ∃ S : Nat → Nat → Bool, S = fun a j => sdB m q me le mo a (j - 1) := ⟨_, rfl⟩
  rw [← hS]
  obtain ⟨n, hn⟩ : ∃ n, n = nP m q := ⟨_, rfl⟩
  have j40 := (J.n).2.1
  rw [← hn] at j40 ⊢
  have k0 := L.1.1
  obtain ⟨-, k13, l13⟩ := L.1.2.2.2.2.2.2.1
  have nb13 := Q.1 13 (by omega) (by omega)
  have c6 : gI h b 6 = nI n := by rw [hn]; exact L.2.1.1
  have keep : ∀ {g : Hp}, Fr (fun c => c = gP h b 13) h g → BL g b m q me le mo co ∧ Fr (Dw h b) h g ∧ gI g b 6 = nI n := fun G => by
    have G2 : Fr (Dw h b) h _ := G.mono (fun c z => Or.inr (Or.inr (Or.inr z)))
    have L2 := L.fr Q G2
    exact ⟨L2, G2, by rw [hn]; exact L2.2.1.1⟩
  -- the outer loop
  have outer : ∀ g, Fr (fun c => c = gP h b 13) h g → (∀ j, j ≤ n → gI g (gP h b 13) j = bI (decide (j = 0))) → ∃ h1, MX0_reach_33 g b (nI 0) = some (nI (mxN (rcT S n n) n), h1) ∧ Fr (Dw h b) h h1 := fun g G hg => by
    unfold MX0_reach_33 MX0_reach_35
    have K : ∃ r, it (fun s : Int32 × Int32 × Hp => BX0_reach_35 s.2.2 b s.1 s.2.1) (nI 0, nI 0, g) = some r ∧ (r.1 = nI (mxN (rcT S n n) n) ∧ Fr (fun c => c = gP h b 13) h r.2) := by
      refine it_cnt (fun i s => s.1 = nI (mxN (rcT S n i) n) ∧ s.2.1 = nI i ∧ Fr (fun c => c = gP h b 13) h s.2.2 ∧ ∀ j, j ≤ n → gI s.2.2 (gP h b 13) j = bI (rcT S n i j)) n (fun i s hi p => ?_) (fun s p => ?_) ⟨?_, rfl, G, hg⟩
      · obtain ⟨a1, a2, f⟩ := s
        obtain ⟨p1, p2, G', p4⟩ := p
        replace p1 : a1 = nI (mxN (rcT S n i) n) := p1
        replace p2 : a2 = nI i := p2
        replace G' : Fr (fun c => c = gP h b 13) h f := G'
        replace p4 : ∀ j, j ≤ n → gI f (gP h b 13) j = bI (rcT S n i j) := p4
        subst p1 p2
        obtain ⟨Lf, -, f6⟩ := keep G'
        have e1 : BX0_reach_35 f b (nI (mxN (rcT S n i) n)) (nI i) = MX0_reach_45 f b (nI (mxN (rcT S n i) n)) (nI i) (nI i) := by
          unfold BX0_reach_35
          rw [gg_t Lf.1.1, f6, if_neg (nI_ge hi (by omega))]
        show ∃ s', BX0_reach_35 f b (nI (mxN (rcT S n i) n)) (nI i) = some (.inl s') ∧ _
        rw [e1]
        unfold MX0_reach_45
        cases hri : rcT S n i i with
        | false =>
          have e2 : rcT S n (i + 1) = rcT S n i := by rw [← rcP_n (by omega), rcP_f hri]
          refine ⟨(nI (mxN (rcT S n i) n), nI (i + 1), f), it_done ?_, by rw [e2], rfl, G', by rw [e2]; exact p4⟩
          show BX0_reach_45 f b (nI (mxN (rcT S n i) n)) (nI i) (nI i) = _
          obtain ⟨-, k13', l13'⟩ := Lf.1.2.2.2.2.2.2.1
          unfold BX0_reach_45
          rw [gg_t Lf.1.1, gg_t k13', l13', gg_in (by omega) (by omega), nCl (by omega), G'.2.2.1, p4 i (by omega), hri, if_pos (show bI false = 0 from rfl), nI_1]
        | true =>
          have K2 : ∃ r, it (fun s : Int32 × Int32 × Hp => BX0_reach_45 s.2.2 b s.1 (nI i) s.2.1) (nI (mxN (rcT S n i) n), nI i, f) = some r ∧ (∃ s', r = .inl s' ∧ (s'.1 = nI (mxN (rcT S n (i + 1)) n) ∧ s'.2.1 = nI (i + 1) ∧ Fr (fun c => c = gP h b 13) h s'.2.2 ∧ ∀ j, j ≤ n → gI s'.2.2 (gP h b 13) j = bI (rcT S n (i + 1) j))) := by
            refine it_cnt (fun d s => s.1 = nI (mxN (rcP S n i d) n) ∧ s.2.1 = nI (i + d) ∧ Fr (fun c => c = gP h b 13) h s.2.2 ∧ ∀ j, j ≤ n → gI s.2.2 (gP h b 13) j = bI (rcP S n i d j)) (n - i) (fun d s hd p => ?_) (fun s p => ?_) ⟨by rw [mxN_c n (fun j _ _ => rcP_0.symm)], rfl, G', fun j hj => by rw [rcP_0]; exact p4 j hj⟩
            · obtain ⟨a1, a2, g1⟩ := s
              obtain ⟨p1, p2, G1, p5⟩ := p
              replace p1 : a1 = nI (mxN (rcP S n i d) n) := p1
              replace p2 : a2 = nI (i + d) := p2
              replace G1 : Fr (fun c => c = gP h b 13) h g1 := G1
              replace p5 : ∀ j, j ≤ n → gI g1 (gP h b 13) j = bI (rcP S n i d j) := p5
              subst p1 p2
              obtain ⟨Lg, -, g6⟩ := keep G1
              obtain ⟨-, k13', l13'⟩ := Lg.1.2.2.2.2.2.2.1
              have lb := c_lineBad P Lg B hq J (i := i) (k := i + d) (by omega) (by omega)
              have eS : S i (i + d + 1) = sdB m q me le mo i (i + d) := by rw [hS]; rfl
              rw [← eS] at lb
              have bb := bd_le (m := m) (q := q) (a := i) (b := i + d) (me := me) (le := le) (co := co) P.2.1 P.2.2.2.2.2
              have mb := mxN_le (f := rcP S n i d) n
              have pre : BX0_reach_45 g1 b (nI (mxN (rcP S n i d) n)) (nI i) (nI (i + d)) = if (if S i (i + d + 1) = true then nI (bdN m q me le co i (i + d)) else -nI 1) = -nI 1 then some (.inl (nI (mxN (rcP S n i d) n), nI (i + (d + 1)), g1)) else some (.inl (jmax (nI (mxN (rcP S n i d) n)) (nI (i + d + 1)), nI (i + (d + 1)), sI g1 (gP h b 13) (i + d + 1) (nI 1))) := by
                unfold BX0_reach_45
                rw [gg_t Lg.1.1, gg_t k13', l13', gg_in (by omega) (by omega), nCl (by omega), G1.2.2.1, p5 i (by omega), rcP_i, hri, if_neg (by decide), g6, if_neg (nI_ge (by omega) (by omega)), lb, ob_some]
                simp only [ZL]
                rw [nAdd (i + d) 1, gg_in (by omega) (by omega), nCl (by omega), vB1]
                rfl
              show ∃ s', BX0_reach_45 g1 b (nI (mxN (rcP S n i d) n)) (nI i) (nI (i + d)) = some (.inl s') ∧ _
              rw [pre]
              by_cases zS : S i (i + d + 1) = true
              · rw [if_pos zS, if_neg (by rw [nM6 (by omega)]; exact id)]
                refine ⟨_, rfl, ?_, rfl, G1.trans (Fr.sI (S := fun c => c = gP h b 13) rfl), fun j hj => ?_⟩
                · show jmax _ _ = _
                  rw [n_jmax (by omega) (by omega), mxN_up (f := rcP S n i d) (g := rcP S n i (d + 1)) (a := i + d + 1) (by omega) n (by omega) (fun j _ _ => by
                    rw [rcP_s hri]
                    exact ⟨fun z => z.imp id (fun w => w.1), fun z => z.imp id (fun w => ⟨w, zS⟩)⟩)]
                · show gI (sI g1 (gP h b 13) (i + d + 1) (nI 1)) (gP h b 13) j = _
                  rw [gI_sI, if_pos rfl, up_at]
                  by_cases y : j = i + d + 1
                  · rw [if_pos y, (rcP_s hri).mpr (Or.inr ⟨y, zS⟩)]
                    rfl
                  · rw [if_neg y, p5 j hj, bool_c (a := rcP S n i (d + 1) j) (b := rcP S n i d j) (by
                      rw [rcP_s hri]
                      exact ⟨fun z => z.elim id (fun w => absurd w.1 y), fun z => Or.inl z⟩)]
              · rw [if_neg zS, if_pos rfl]
                have e9 : ∀ j, rcP S n i (d + 1) j = rcP S n i d j := fun j => bool_c (by
                  rw [rcP_s hri]
                  exact ⟨fun z => z.elim id (fun w => absurd w.2 zS), fun z => Or.inl z⟩)
                refine ⟨_, rfl, by rw [mxN_c n (fun j _ _ => e9 j)], rfl, G1, fun j hj => by rw [e9]; exact p5 j hj⟩
            · obtain ⟨a1, a2, g1⟩ := s
              obtain ⟨p1, p2, G1, p5⟩ := p
              replace p1 : a1 = nI (mxN (rcP S n i (n - i)) n) := p1
              replace p2 : a2 = nI (i + (n - i)) := p2
              replace G1 : Fr (fun c => c = gP h b 13) h g1 := G1
              have p6 : ∀ j, j ≤ n → gI g1 (gP h b 13) j = bI (rcT S n (i + 1) j) := by
                replace p5 : ∀ j, j ≤ n → gI g1 (gP h b 13) j = bI (rcP S n i (n - i) j) := p5
                rw [rcP_n (by omega)] at p5
                exact p5
              rw [rcP_n (by omega)] at p1
              rw [show i + (n - i) = n by omega] at p2
              clear p5
              subst p1 p2
              obtain ⟨Lg, -, g6⟩ := keep G1
              obtain ⟨-, k13', l13'⟩ := Lg.1.2.2.2.2.2.2.1
              refine ⟨.inl (nI (mxN (rcT S n (i + 1)) n), nI (i + 1), g1), ?_, _, rfl, rfl, rfl, G1, p6⟩
              show BX0_reach_45 g1 b (nI (mxN (rcT S n (i + 1)) n)) (nI i) (nI n) = _
              unfold BX0_reach_45
              rw [gg_t Lg.1.1, gg_t k13', l13', gg_in (by omega) (by omega), nCl (by omega), G1.2.2.1, p6 i (by omega), rcT_lo (Nat.le_refl i), hri, if_neg (by decide), g6, if_pos (nI_le (Nat.le_refl n) (by omega)), nI_1]
          obtain ⟨r, k1, s', k2, k3⟩ := K2
          exact ⟨s', by rw [k1, k2], k3⟩
      · obtain ⟨a1, a2, f⟩ := s
        obtain ⟨p1, p2, G', p4⟩ := p
        replace p1 : a1 = nI (mxN (rcT S n n) n) := p1
        replace p2 : a2 = nI n := p2
        replace G' : Fr (fun c => c = gP h b 13) h f := G'
        subst p1 p2
        obtain ⟨Lf, -, f6⟩ := keep G'
        refine ⟨(nI (mxN (rcT S n n) n), f), ?_, rfl, G'⟩
        show BX0_reach_35 f b (nI (mxN (rcT S n n) n)) (nI n) = _
        unfold BX0_reach_35
        rw [gg_t Lf.1.1, f6, if_pos (nI_le (Nat.le_refl n) (by omega))]
      · show nI 0 = nI (mxN (rcT S n 0) n)
        have : ∀ k, mxN (rcT S n 0) k = 0 := fun k => by
          induction k with
          | zero => rfl
          | succ k ih =>
            have e : ¬ rcT S n 0 (k + 1) = true := by
              show ¬ decide (k + 1 = 0) = true
              simp
            exact (if_neg e).trans ih
        rw [this]
    obtain ⟨⟨a1, f⟩, k1, k2, k3⟩ := K
    have k2 : a1 = nI (mxN (rcT S n n) n) := k2
    exact ⟨f, by simp only [ZL]; rw [k1, k2], (keep k3).2.1⟩
  -- the first loop: only piece 0 is reached
  unfold MX0_reach MX0_reach_4
  have K1 : ∃ r, it (fun s : Int32 × Hp => BX0_reach_4 s.2 b (nI 0) s.1) (nI 0, h) = some r ∧ (r.1 = nI (mxN (rcT S n n) n) ∧ Fr (Dw h b) h r.2) := by
    refine it_cnt (fun i s => s.1 = nI i ∧ Fr (fun c => c = gP h b 13) h s.2 ∧ ∀ j, j < i → gI s.2 (gP h b 13) j = bI (decide (j = 0))) (n + 1) (fun i s hi p => ?_) (fun s p => ?_) ⟨rfl, Fr.rfl, fun j hj => absurd hj (by omega)⟩
    · obtain ⟨a1, g⟩ := s
      obtain ⟨p1, G, p3⟩ := p
      replace p1 : a1 = nI i := p1
      subst p1
      replace G : Fr (fun c => c = gP h b 13) h g := G
      replace p3 : ∀ j, j < i → gI g (gP h b 13) j = bI (decide (j = 0)) := p3
      obtain ⟨Lg, -, g6⟩ := keep G
      obtain ⟨-, k13', l13'⟩ := Lg.1.2.2.2.2.2.2.1
      refine ⟨(nI (i + 1), sI g (gP h b 13) i (bI (decide (i = 0)))), ?_, rfl, G.trans (Fr.sI (S := fun c => c = gP h b 13) rfl), fun j hj => ?_⟩
      · show BX0_reach_4 g b (nI 0) (nI i) = _
        unfold BX0_reach_4 MX0_reach_26
        rw [gg_t Lg.1.1, g6, if_neg (nI_nlt (by omega) (by omega)), gg_t k13', l13', gg_in (by omega) (by omega), gg_t k13', gg_in (by omega) (by omega), nCl (by omega), G.2.2.1]
        by_cases z : i = 0
        · subst z
          rw [if_pos (show nI 0 = 0 from rfl), decide_eq_true rfl, bIT]
          simp only [ZL]
          rw [vB1, lt_eq, nAdd]
        · rw [if_neg (by rw [show (0 : Int32) = nI 0 from rfl, nEq (by omega) (by omega)]; exact z), decide_eq_false z, bIF]
          simp only [ZL]
          rw [vB0, lt_eq, nAdd]
      · show gI (sI g (gP h b 13) i (bI (decide (i = 0)))) (gP h b 13) j = _
        rw [gI_sI, if_pos rfl, up_at]
        by_cases z : j = i
        · rw [if_pos z, z]
        · rw [if_neg z]; exact p3 j (by omega)
    · obtain ⟨a1, g⟩ := s
      obtain ⟨p1, G, p3⟩ := p
      replace p1 : a1 = nI (n + 1) := p1
      replace G : Fr (fun c => c = gP h b 13) h g := G
      replace p3 : ∀ j, j < n + 1 → gI g (gP h b 13) j = bI (decide (j = 0)) := p3
      subst p1
      obtain ⟨Lg, -, g6⟩ := keep G
      obtain ⟨g1, k1, k2⟩ := outer g G (fun j hj => p3 j (by omega))
      refine ⟨(nI (mxN (rcT S n n) n), g1), ?_, rfl, k2⟩
      show BX0_reach_4 g b (nI 0) (nI (n + 1)) = _
      unfold BX0_reach_4
      rw [gg_t Lg.1.1, g6, if_pos (nI_lt (by omega) (by omega)), k1]
      rfl
  obtain ⟨⟨a1, f⟩, k1, k2, k3⟩ := K1
  have k2 : a1 = nI (mxN (rcT S n n) n) := k2
  exact ⟨f, by simp only [ZL]; rw [k1, k2], k3⟩
end
