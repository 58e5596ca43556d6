/-! a part is set: what the memory keeps -/
/-- M is m but that part q is set in n lines, the k-th of which ends before piece c (k + 1); the first job of machine k goes to line n -/
def Se (m M : Nat → Int32) (q n k : Nat) (c : Nat → Nat) : Prop := (∀ y, ¬ (130 + 645 * q + 3 ≤ y ∧ y < 130 + 645 * q + 85) → y ≠ 320230 + 183 * k + 35 → M y = m y) ∧ M (130 + 645 * q + 3) = nI 1 ∧ M (130 + 645 * q + 4) = nI n ∧ (∀ j, j < n → M (130 + 645 * q + 5 + j) = nI (c (j + 1) - 1) ∧ M (130 + 645 * q + 45 + j) = nI 0) ∧ M (320230 + 183 * k + 35) = nI n
section
variable {m M : Nat → Int32} {k q l a b n : Nat} {c : Nat → Nat}
theorem bitL_b (B : MIb m) (J : MIp m q) (hk : k < nP m q) : ∀ x ∈ bitL m q k, x ≤ 122 := fun x hx => by
  unfold bitL at hx
  obtain ⟨i, hi, rfl⟩ := List.mem_map.mp hx
  have := by_r B J hk (List.mem_range.mp hi)
  omega
theorem txR_b (B : MIb m) (J : MIp m q) : ∀ d, a + d ≤ nP m q → ∀ x ∈ txR m q a d, x ≤ 122
  | 0, _, x, hx => absurd hx (by unfold txR; exact List.not_mem_nil)
  | d + 1, h, x, hx => by
    rw [txR_s, List.mem_append, List.mem_append] at hx
    rcases hx with (hx | hx) | hx
    · exact txR_b B J d (by omega) x hx
    · unfold blL at hx
      split at hx
      · have := List.mem_singleton.mp hx
        omega
      · exact absurd hx List.not_mem_nil
    · exact bitL_b B J (by omega) x hx
theorem wt_b (B : MIb m) (J : MIp m q) (hb : b < nP m q) : ∀ j, j < (wtX m q a b).length → (wtX m q a b).getD j 0 ≤ 122 := fun j hj => by
  have : ∀ x ∈ wtX m q a b, x ≤ 122 := fun x hx => by
    unfold wtX at hx
    rw [List.mem_append] at hx
    rcases hx with hx | hx
    · rcases Nat.lt_or_ge b a with z | z
      · rw [show b + 1 - a = 0 by omega] at hx
        exact absurd hx (by unfold txR; exact List.not_mem_nil)
      · exact txR_b B J _ (by omega) x hx
    · unfold hyL at hx
      split at hx
      · have := List.mem_singleton.mp hx
        omega
      · exact absurd hx List.not_mem_nil
  refine this _ ?_
  rw [List.getD_eq_getElem?_getD, List.getElem?_eq_getElem hj]
  exact List.getElem_mem hj
theorem wp_ls (B : MIb m) (J : MIp m q) (hf : Nn m (70 + q / 5) ≤ 1) : ∀ d, a + d ≤ nP m q → lsN m q (a + d) + wpN m q a ≤ wpN m q (a + d) + lsN m q a
  | 0, _ => by rw [Nat.add_zero]; omega
  | d + 1, hk => by
    have ih := wp_ls B J hf d (by omega)
    have c := wl_le B J hf (k := a + d) (by omega) _ (Nat.le_refl _)
    show lsN m q (a + d) + Nn m (130 + 645 * q + 125 + (a + d)) + wpN m q a ≤ wpN m q (a + d) + wlN m q (a + d) (Nn m (130 + 645 * q + 125 + (a + d))) + lsN m q a
    omega
/-- a line that stands says no more than 400 bytes -/
theorem sd_400 {me le mo co : Nat} (P : Ps me le mo co) (B : MIb m) (J : MIp m q) (hf : Nn m (70 + q / 5) ≤ 1) (hab : a ≤ b) (hb : b < nP m q) (hs : sdB m q me le mo a b = true) : lsN m q (b + 1) + wkN m q b ≤ 400 + lsN m q a + wkN m q a := by
  have w1 := wp_ls B J hf (a := a) (b + 1 - a) (by omega)
  rw [show a + (b + 1 - a) = b + 1 by omega] at w1
  have w2 := wp_mono (m := m) (q := q) (a := a) (b + 1 - a)
  rw [show a + (b + 1 - a) = b + 1 by omega] at w2
  have wa : weN m q a = wkN m q a := by unfold weN; rw [if_neg (by omega)]
  have wb : weN m q b = wkN m q b := by unfold weN; rw [if_neg (by omega)]
  unfold sdB at hs
  have hs := of_decide_eq_true (Bool.and_eq_true_iff.mp hs).1
  unfold tiN wiN gaN at hs
  obtain ⟨p1, p2, p3, -⟩ := P
  rw [wa, wb] at hs
  have : wkN m q b - wkN m q a ≤ (wkN m q b - wkN m q a) * le := Nat.le_mul_of_pos_right _ (by omega)
  omega
theorem se_mi (I : MI m) (vq : vP m q) (u3 : m (130 + 645 * q + 3) = nI 0) (hk : k < Nn m 3) (hj : 1 ≤ Nn m (320230 + 183 * k + 29)) (J0 : m (320230 + 183 * k + 33) = nI q) (hn1 : 1 ≤ n) (hn : n ≤ 40) (c0 : c 0 = 0) (cm : ∀ j, j < n → c j < c (j + 1)) (cn : c n = nP m q) (ct : ∀ j, j < n → lsN m q (c (j + 1)) + wkN m q (c (j + 1) - 1) ≤ 400 + lsN m q (c j) + wkN m q (c j)) (H : Se m M q n k c) : MI M := by
  obtain ⟨H0, H3, H4, Hl, Hj⟩ := H
  obtain ⟨B, Ip, Is, Im, Ih, Iy, Iz, Iq, Il⟩ := I
  obtain ⟨⟨g0, f0⟩, ⟨g1, f1⟩, ⟨g2, f2⟩, ⟨g3, f3⟩, ⟨g4, f4⟩, -⟩ := B.f
  have vb := vq.1
  have J := Ip q vq
  obtain ⟨e1, j40, j1⟩ := J.n
  have cle : ∀ d, d ≤ n → c (n - d) + d ≤ nP m q := fun d => by
    induction d with
    | zero => intro _; rw [Nat.sub_zero, cn]; exact Nat.le_refl _
    | succ d ih =>
      intro hd
      have := ih (by omega)
      have h2 := cm (n - (d + 1)) (by omega)
      rw [show n - (d + 1) + 1 = n - d by omega] at h2
      omega
  have cP : ∀ j, j ≤ n → c j ≤ nP m q := fun j hj => by
    have := cle (n - j) (by omega)
    rw [show n - (n - j) = j by omega] at this
    omega
  have Hb : ∀ x, x < 130 → M x = m x := fun x hx => H0 x (by omega) (by omega)
  have Ho : ∀ x, (x < 130 + 645 * q + 3 ∨ 130 + 645 * q + 85 ≤ x) → x ≠ 320230 + 183 * k + 35 → M x = m x := fun x h1 h2 => H0 x (by omega) h2
  have Hs : ∀ s', s' < 300 → ∀ x, x < 852 → M (64630 + 852 * s' + x) = m (64630 + 852 * s' + x) := fun s' h1 x hx => Ho _ (by omega) (by omega)
  have Np : ∀ q', q' < 100 → q' ≠ q → ∀ x, x < 645 → M (130 + 645 * q' + x) = m (130 + 645 * q' + x) := fun q' h0 h1 x hx => Ho _ (by omega) (by omega)
  -- the job
  obtain ⟨b1, b2, b3, b4, b5, b6, b7, b8⟩ := (Im k hk).2.2.2.2 0 hj
  rw [show 320230 + 183 * k + 33 + 5 * 0 = 320230 + 183 * k + 33 by omega] at b1 b2 b3 b4 b5 b6 b7 b8
  have nq : Nn m (320230 + 183 * k + 33) = q := by unfold Nn; rw [J0, nCl (by omega)]
  rw [nq] at b2 b7 b8
  have n01 : nI 0 ≠ nI 1 := by decide
  have fl : ∀ x, oN m x 1 → m x ≠ nI 0 → m x = nI 1 := fun x ⟨y, hy, e⟩ hn => by
    rcases (show y = 0 ∨ y = 1 by omega) with z | z
    · exact absurd (by rw [e, z]) hn
    · rw [e, z]
  have fk : m (320230 + 183 * k + 33 + 4) = nI 1 := fl _ b6 (fun z => n01 (by rw [← u3]; exact (b7 z).1))
  obtain ⟨d2, d3, d4, duni⟩ := b8 fk
  have jq : ∀ k', k' < Nn m 3 → ∀ j', j' < Nn m (320230 + 183 * k' + 29) → Nn m (320230 + 183 * k' + 33 + 5 * j') = q → k' = k ∧ j' = 0 := fun k' hk' j' hj' e => by
    obtain ⟨y1, y2, y3, y4, y5, y6, y7, y8⟩ := (Im k' hk').2.2.2.2 j' hj'
    rw [e] at y7
    refine duni k' hk' j' hj' (fl _ y6 (fun z => n01 (by rw [← u3]; exact (y7 z).1))) ?_
    rw [(y1.eq (by omega)).1, e, J0]
  refine ⟨B.mc Hb, fun q' hq' => ?_, fun s' hs' => ?_, fun k' hk' => ?_, Ih.mc B (fun x hx => Hb x (by omega)) (fun x h1 h2 => Ho x (by omega) (by omega)), fun y hy => ?_, Iz.mc (fun x hx => Hb x (by omega)) (fun q' h1 h2 y h3 h4 => Np q' h1 (fun e => by have := vq.2.1; rw [e] at h2; omega) y (by omega)) (fun k' h1 h2 i h3 h4 => Ho _ (by omega) (by omega)), ?_, ?_⟩
  · have hq := hq'.b' Hb
    by_cases z : q' = q
    · subst z
      obtain ⟨o0, o1, o1', o2, o3, o4, ob, ow, ow1, ow2, oz, os⟩ := J
      have e : ∀ x, x < 645 → (x < 3 ∨ 85 ≤ x) → M (130 + 645 * q' + x) = m (130 + 645 * q' + x) := fun x hx hn => Ho _ (by omega) (by omega)
      have e0 : M (130 + 645 * q') = m (130 + 645 * q') := e 0 (by omega) (by omega)
      have ew : ∀ b, b < 40 → M (130 + 645 * q' + 85 + b) = m (130 + 645 * q' + 85 + b) := fun b hb => by
        have := e (85 + b) (by omega) (by omega)
        rwa [← Nat.add_assoc] at this
      have el : ∀ b, b < 40 → M (130 + 645 * q' + 125 + b) = m (130 + 645 * q' + 125 + b) := fun b hb => by
        have := e (125 + b) (by omega) (by omega)
        rwa [← Nat.add_assoc] at this
      have n1 := Nn.c (e 1 (by omega) (by omega))
      have n4 : Nn M (130 + 645 * q' + 4) = n := by unfold Nn; rw [H4, nCl (by omega)]
      have n1' : Nn m (130 + 645 * q' + 1) = nP m q' := rfl
      have ne : ∀ j, j < n → Nn M (130 + 645 * q' + 5 + j) = c (j + 1) - 1 := fun j hj => by
        have := cP (j + 1) (by omega)
        unfold Nn; rw [(Hl j hj).1, nCl (by omega)]
      refine ⟨o0.c e0, o1.c (e 1 (by omega) (by omega)), by rw [n1]; exact o1', o2.c (e 2 (by omega) (by omega)), ⟨1, by omega, H3⟩, ⟨n, hn, H4⟩, fun b hb => ?_, by rw [Nn.c (e 85 (by omega) (by omega))]; exact ow, fun b hb => ?_, ?_, fun hz => absurd (hz.symm.trans H3) n01, fun _ => ?_⟩
      · rw [n1] at hb
        obtain ⟨c1, c2, c3, c4⟩ := ob b hb
        have c2b := (c2.eq (by omega)).2
        refine ⟨c1.c (ew b (by omega)), c2.c (el b (by omega)), by rw [Nn.c (el b (by omega))]; exact c3, fun i hi => ?_⟩
        rw [Nn.c (el b (by omega))] at hi
        have := e (165 + 12 * b + i) (by omega) (by omega)
        rw [← Nat.add_assoc, ← Nat.add_assoc] at this
        exact (c4 i hi).c this
      · rw [n1] at hb
        rw [Nn.c (ew b (by omega)), Nn.c (ew (b + 1) (by omega))]
        exact ow1 b hb
      · rw [n1, Nn.c (ew _ (by omega)), Nn.c e0]
        exact ow2
      · rw [e 2 (by omega) (by omega), n4, n1, ne _ (by omega), show n - 1 + 1 = n by omega, cn, n1']
        refine ⟨d2, hn1, by omega, fun l hl => ?_⟩
        have x1 := cP (l + 1) (by omega)
        have x2 := cm l hl
        refine ⟨⟨c (l + 1) - 1, by omega, (Hl l hl).1⟩, ⟨0, by omega, (Hl l hl).2⟩, fun h2 => ?_, fun h2 => absurd (Hl l hl).2 h2⟩
        rw [ne l hl, ne (l + 1) h2]
        have := cm (l + 1) h2
        omega
    · have I' := Ip q' hq
      have hb := hq.1
      refine I'.mc (fun x hx => ?_)
      rcases hx with rfl | ⟨h1, h2⟩ | ⟨l, hl, hz, h1, h2⟩
      · exact Hb 4 (by omega)
      · have := Np q' hb z (x - (130 + 645 * q')) (by omega)
        rwa [show 130 + 645 * q' + (x - (130 + 645 * q')) = x by omega] at this
      · by_cases es : m (130 + 645 * q' + 3) = nI 1
        · obtain ⟨y1, y2, y3, y4⟩ := ((I'.2.2.2.2.2.2.2.2.2.2.2 es).2.2.2 l hl)
          have := (y2.eq (by omega)).2
          exact Ho _ (by omega) (by omega)
        · have e3 : m (130 + 645 * q' + 3) = nI 0 := by
            obtain ⟨y, hy, ey⟩ := I'.2.2.2.2.1
            rcases (show y = 0 ∨ y = 1 by omega) with w | w
            · rw [ey, w]
            · exact absurd (by rw [ey, w]) es
          have := I'.2.2.2.2.2.2.2.2.2.2.1 e3
          have n4 : Nn m (130 + 645 * q' + 4) = 0 := by unfold Nn; rw [this, nCl (by omega)]
          omega
  · rw [Nn.c (Hb 4 (by omega))] at hs'
    refine (Is s' hs').mc Hb (Hs s' (by omega)) (fun hz => ?_)
    obtain ⟨y1, y2, y3, y4, y5, y6⟩ := (Is s' hs').2.2.2.2.2.2.2.2.2.2.2.2.2.2.2.2 hz
    have nq' : Nn m (64630 + 852 * s' + 6) ≠ q := fun e => by
      rw [e, u3] at y4
      exact n01 y4
    have l39 := (y1.eq (by omega)).2
    have := y3.1
    refine ⟨Np _ this nq' 3 (by omega), Np _ this nq' 4 (by omega), ?_⟩
    have := Np _ this nq' (45 + Nn m (64630 + 852 * s' + 5)) (by omega)
    rwa [← Nat.add_assoc] at this
  · rw [Nn.c (Hb 3 (by omega))] at hk'
    obtain ⟨a0, a1, a2, a3, a4⟩ := Im k' hk'
    have h30 := (a3.eq (by omega)).2
    have e : ∀ x, x < 183 → x ≠ 35 → M (320230 + 183 * k' + x) = m (320230 + 183 * k' + x) := fun x hx hn => Ho _ (by omega) (by omega)
    refine ⟨fun i hi => (a0 i hi).c (e i (by omega) (by omega)), a1.c (e _ (by omega) (by omega)), a2.c (e _ (by omega) (by omega)), a3.c (e _ (by omega) (by omega)), fun j' hj' => ?_⟩
    rw [Nn.c (e 29 (by omega) (by omega))] at hj'
    obtain ⟨y1, y2, y3, y4, y5, y6, y7, y8⟩ := a4 j' hj'
    have e1 : ∀ x, x < 5 → x ≠ 2 → M (320230 + 183 * k' + 33 + 5 * j' + x) = m (320230 + 183 * k' + 33 + 5 * j' + x) := fun x hx hn => Ho _ (by omega) (by rcases Nat.lt_trichotomy k' k with z | z | z <;> omega)
    have e10 : M (320230 + 183 * k' + 33 + 5 * j') = m (320230 + 183 * k' + 33 + 5 * j') := e1 0 (by omega) (by omega)
    have uni : ∀ k2, k2 < Nn M 3 → ∀ j2, j2 < Nn M (320230 + 183 * k2 + 29) → M (320230 + 183 * k2 + 33 + 5 * j2 + 4) = m (320230 + 183 * k2 + 33 + 5 * j2 + 4) ∧ M (320230 + 183 * k2 + 33 + 5 * j2) = m (320230 + 183 * k2 + 33 + 5 * j2) ∧ k2 < Nn m 3 ∧ j2 < Nn m (320230 + 183 * k2 + 29) := fun k2 h1 j2 h2 => by
      rw [Nn.c (Hb 3 (by omega))] at h1
      have h30' := ((Im k2 h1).2.2.2.1.eq (by omega)).2
      rw [Nn.c (Ho (320230 + 183 * k2 + 29) (by omega) (by omega))] at h2
      exact ⟨Ho _ (by omega) (by omega), Ho _ (by omega) (by omega), h1, h2⟩
    by_cases z : Nn m (320230 + 183 * k' + 33 + 5 * j') = q
    · obtain ⟨z1, z2⟩ := jq k' hk' j' hj' z
      subst z1 z2
      rw [show 320230 + 183 * k' + 33 + 5 * 0 = 320230 + 183 * k' + 33 by omega] at y1 y2 y3 y4 y5 y6 y7 y8 e1 e10 z ⊢
      rw [Nn.c e10, z, Nn.c (e1 1 (by omega) (by omega)), H3, Ho (130 + 645 * q + 2) (by omega) (by omega), e1 1 (by omega) (by omega), e1 4 (by omega) (by omega)]
      have n4 : Nn M (130 + 645 * q + 4) = n := by unfold Nn; rw [H4, nCl (by omega)]
      rw [n4]
      refine ⟨y1.c e10, vq.b Hb, y3.c (e1 1 (by omega) (by omega)), ⟨n, hn, Hj⟩, y5.c (e1 3 (by omega) (by omega)), y6.c (e1 4 (by omega) (by omega)), fun w => absurd (w.symm.trans fk) n01, fun _ => ⟨d2, fun w => absurd w.symm n01, fun _ => ?_, fun k2 h1 j2 h2 h3 h4 => ?_⟩⟩
      · have : Nn m (320230 + 183 * k' + 33 + 1) = 0 := by unfold Nn; rw [d3 u3, nCl (by omega)]
        omega
      · obtain ⟨x1, x2, x3, x4⟩ := uni k2 h1 j2 h2
        rw [x1] at h3
        rw [x2, e10] at h4
        exact duni k2 x3 j2 x4 h3 h4
    · have e12 : M (320230 + 183 * k' + 33 + 5 * j' + 2) = m (320230 + 183 * k' + 33 + 5 * j' + 2) := by
        refine Ho _ (by omega) (fun w => ?_)
        have : k' = k ∧ j' = 0 := by omega
        rw [this.1, this.2] at z
        exact z nq
      have hb := y2.1
      have P := Np _ hb z
      rw [Nn.c e10, P 3 (by omega), P 2 (by omega), Nn.c (P 4 (by omega)), Nn.c (e1 1 (by omega) (by omega)), Nn.c e12, e1 4 (by omega) (by omega), e1 1 (by omega) (by omega), e10]
      refine ⟨y1.c e10, y2.b Hb, y3.c (e1 1 (by omega) (by omega)), y4.c e12, y5.c (e1 3 (by omega) (by omega)), y6.c (e1 4 (by omega) (by omega)), y7, fun w => ?_⟩
      obtain ⟨x1, x2, x3, x4⟩ := y8 w
      refine ⟨x1, x2, x3, fun k2 h1 j2 h2 h3 h4 => ?_⟩
      obtain ⟨w1, w2, w3, w4⟩ := uni k2 h1 j2 h2
      rw [w1] at h3
      rw [w2] at h4
      exact x4 k2 w3 j2 w4 h3 h4
  · rw [Nn.c (Hb 2 (by omega))] at hy
    exact (Iy y hy).mc fun x hx => Ho _ (by omega) (by omega)
  · intro q' hq' hs l hl
    have hq := hq'.b' Hb
    have hb := hq.1
    by_cases z : q' = q
    · subst z
      have n4 : Nn M (130 + 645 * q' + 4) = n := by unfold Nn; rw [H4, nCl (by omega)]
      rw [n4] at hl
      have x1 := cP (l + 1) (by omega)
      have x2 := cm l hl
      have e : ∀ x, x < 645 → 85 ≤ x → M (130 + 645 * q' + x) = m (130 + 645 * q' + x) := fun x hx hn => Ho _ (by omega) (by omega)
      have ew : ∀ b, b < 41 → Nn M (130 + 645 * q' + 85 + b) = Nn m (130 + 645 * q' + 85 + b) := fun b hb => by
        have := e (85 + b) (by omega) (by omega)
        rw [← Nat.add_assoc] at this
        exact Nn.c this
      have el : ∀ k, k < 41 → lsN M q' k = lsN m q' k := fun k hk => lsN.mc k (fun x hx => by
        have := e (125 + x) (by omega) (by omega)
        rwa [← Nat.add_assoc] at this)
      have ne : ∀ j, j < n → Nn M (130 + 645 * q' + 5 + j) = c (j + 1) - 1 := fun j hj => by
        have := cP (j + 1) (by omega)
        unfold Nn; rw [(Hl j hj).1, nCl (by omega)]
      have eg : bgN M q' l = c l := by
        unfold bgN
        by_cases z : l = 0
        · rw [if_pos z, z, c0]
        · have x3 := cm (l - 1) (by omega)
          rw [if_neg z, ne (l - 1) (by omega)]
          rw [show l - 1 + 1 = l by omega] at x3 ⊢
          omega
      rw [ne l hl, eg, show c (l + 1) - 1 + 1 = c (l + 1) by omega, el _ (by omega), el _ (by omega), ew _ (by omega), ew _ (by omega)]
      exact ct l hl
    · have e : ∀ x, x < 645 → M (130 + 645 * q' + x) = m (130 + 645 * q' + x) := Np q' hb z
      rw [e 3 (by omega)] at hs
      rw [Nn.c (e 4 (by omega))] at hl
      have J' := Iq q' hq hs l hl
      obtain ⟨-, -, -, -, -, o4, -, -, -, -, -, os⟩ := Ip q' hq
      obtain ⟨-, o4b⟩ := o4.eq (by omega)
      obtain ⟨-, -, -, c3⟩ := os hs
      have ee : ∀ l, l < Nn m (130 + 645 * q' + 4) → Nn M (130 + 645 * q' + 5 + l) = Nn m (130 + 645 * q' + 5 + l) ∧ Nn m (130 + 645 * q' + 5 + l) ≤ 39 := fun l hl => by
        have := e (5 + l) (by omega)
        rw [← Nat.add_assoc] at this
        exact ⟨Nn.c this, ((c3 l hl).1.eq (by omega)).2⟩
      have ew : ∀ b, b < 41 → Nn M (130 + 645 * q' + 85 + b) = Nn m (130 + 645 * q' + 85 + b) := fun b hb => by
        have := e (85 + b) (by omega)
        rw [← Nat.add_assoc] at this
        exact Nn.c this
      have el : ∀ k, k < 41 → lsN M q' k = lsN m q' k := fun k hk => lsN.mc k (fun x hx => by
        have := e (125 + x) (by omega)
        rwa [← Nat.add_assoc] at this)
      have eg : bgN M q' l = bgN m q' l ∧ bgN m q' l < 41 := by
        unfold bgN
        by_cases z : l = 0
        · rw [if_pos z, if_pos z]; exact ⟨Eq.refl _, by omega⟩
        · obtain ⟨c1, c2⟩ := ee (l - 1) (by omega)
          rw [if_neg z, if_neg z, c1]; exact ⟨Eq.refl _, by omega⟩
      obtain ⟨d1, d2⟩ := ee l hl
      rw [d1, eg.1, el _ (by omega), el _ eg.2, ew _ (by omega), ew _ eg.2]
      exact J'
  · exact Il.mc (Hb 4 (by omega)) Is (fun s hs x hx => Hs s (by omega) x (by omega))
end
