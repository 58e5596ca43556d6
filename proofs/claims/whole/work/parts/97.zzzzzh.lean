/-! correct: the lines behind a change of a part that is set -/
/-- the begins of the new lines -/
noncomputable def lnB (M : Nat → Int32) (q : Nat) (t : Int32) (fr : Nat) : Nat → Nat := chn (wyT M q t) fr
/-- the first line that is opened -/
def OPn (m : Nat → Int32) (q f op : Nat) : Prop := op < Nn m (130 + 645 * q + 4) ∧ f ≤ Nn m (130 + 645 * q + 5 + op) ∧ ∀ l, l < op → Nn m (130 + 645 * q + 5 + l) < f
/-- n lines from line op on are written -/
def clM (M : Nat → Int32) (q op n : Nat) (c : Nat → Nat) : Nat → Int32 := fun y => if 130 + 645 * q + 5 + op ≤ y ∧ y < 130 + 645 * q + 5 + op + n then nI (c (y - (130 + 645 * q + 5 + op) + 1) - 1) else if 130 + 645 * q + 45 + op ≤ y ∧ y < 130 + 645 * q + 45 + op + n then nI 0 else if y = 130 + 645 * q + 4 then nI (op + n) else M y
section
variable {m M M1 : Nat → Int32} {q f f2 w op n a b : Nat} {c : Nat → Nat} {t : Int32} {s : TX}
theorem lnX_f (I : MIw M) (J : MIx M q) (vq : vP M q) {fr : Nat} (hf : fr < nP M q) {v : Nat × Nat × Nat} (hv : wyT M q t fr = some v) : 1 ≤ v.2.1 ∧ fr + v.2.1 ≤ nP M q ∧ lnB M q t fr 0 = fr ∧ lnB M q t fr v.2.1 = nP M q ∧ (∀ j, j < v.2.1 → fr ≤ lnB M q t fr j ∧ lnB M q t fr j < lnB M q t fr (j + 1) ∧ lnB M q t fr (j + 1) ≤ nP M q ∧ ∃ w, wyT M q t (lnB M q t fr j) = some w ∧ w.2.2 = lnB M q t fr (j + 1)) ∧ ∀ j, j < v.2.1 → lsN M q (lnB M q t fr (j + 1)) + wkN M q (lnB M q t fr (j + 1) - 1) ≤ 400 + lsN M q (lnB M q t fr j) + wkN M q (lnB M q t fr j) := by
  have P := ps_q (q := q) I t
  obtain ⟨-, j40, j1⟩ := J.n
  have hv' : wyD M q (pme M q t) (ple M q t) (pmo M q t) (pco M q t) fr = some v := hv
  obtain ⟨y1, y2, y3⟩ := wyD_bX P J (Nat.le_of_lt hf) hv'
  have hs : ∀ j, j < v.2.1 → ∃ w, wyT M q t (lnB M q t fr j) = some w ∧ w.2.2 = lnB M q t fr (j + 1) ∧ lnB M q t fr j < w.2.2 ∧ w.2.2 ≤ nP M q ∧ lnB M q t fr j < nP M q ∧ sdB M q (pme M q t) (ple M q t) (pmo M q t) (lnB M q t fr j) (w.2.2 - 1) = true := fun j hj => chn_sX P J (Nat.le_of_lt hf) hv' hj
  refine ⟨(y3 hf).2.2.2.1, by omega, rfl, chn_eX P J (Nat.le_of_lt hf) hv', fun j hj => ?_, fun j hj => ?_⟩
  · obtain ⟨w, w1, w2, w3, w4, w5, w6⟩ := hs j hj
    obtain ⟨x, x1, x2, x3, x4⟩ := chn_wX P J (Nat.le_of_lt hf) hv' j (Nat.le_of_lt hj)
    have x3 : fr + j ≤ lnB M q t fr j := x3
    exact ⟨by omega, by omega, by omega, w, w1, w2⟩
  · obtain ⟨w, w1, w2, w3, w4, w5, w6⟩ := hs j hj
    have := sd_400X P I.1 J (fc_v I.1 vq).2 (by omega) (by omega) w6
    rwa [w2, show lnB M q t fr (j + 1) - 1 + 1 = lnB M q t fr (j + 1) by omega] at this
theorem cl_v (h40 : op + n ≤ 40) : (∀ j, j < n → clM M q op n c (130 + 645 * q + 5 + (op + j)) = nI (c (j + 1) - 1) ∧ clM M q op n c (130 + 645 * q + 45 + (op + j)) = nI 0) ∧ clM M q op n c (130 + 645 * q + 4) = nI (op + n) ∧ (∀ l, l < op → clM M q op n c (130 + 645 * q + 5 + l) = M (130 + 645 * q + 5 + l) ∧ clM M q op n c (130 + 645 * q + 45 + l) = M (130 + 645 * q + 45 + l)) ∧ ∀ y, (y < 130 + 645 * q + 4 ∨ 130 + 645 * q + 85 ≤ y) → clM M q op n c y = M y := by
  unfold clM
  refine ⟨fun j hj => ⟨?_, ?_⟩, ?_, fun l hl => ⟨?_, ?_⟩, fun y hy => ?_⟩
  · rw [if_pos (by omega)]
    exact congrArg (fun z => nI (c z - 1)) (by omega)
  · rw [if_neg (by omega), if_pos (by omega)]
  · rw [if_neg (by omega), if_neg (by omega), if_pos rfl]
  · rw [if_neg (by omega), if_neg (by omega), if_neg (by omega)]
  · rw [if_neg (by omega), if_neg (by omega), if_neg (by omega)]
  · rw [if_neg (by omega), if_neg (by omega), if_neg (by omega)]
/-- where line op begins -/
theorem op_bg (J : MIp m q) (u3 : m (130 + 645 * q + 3) = nI 1) (O : OPn m q f op) : bgN m q op ≤ f ∧ op ≤ bgN m q op ∧ (∀ l, l < op → bgN m q l ≤ Nn m (130 + 645 * q + 5 + l) ∧ Nn m (130 + 645 * q + 5 + l) < bgN m q op ∧ l ≤ bgN m q l) := by
  obtain ⟨o1, o2, o3⟩ := O
  obtain ⟨-, -, -, -, -, -, -, -, -, -, -, os⟩ := id J
  obtain ⟨-, -, -, c3⟩ := os u3
  have up : ∀ d l, l + d < Nn m (130 + 645 * q + 4) → Nn m (130 + 645 * q + 5 + l) + d ≤ Nn m (130 + 645 * q + 5 + (l + d)) := fun d => by
    induction d with
    | zero => intro l _; exact Nat.le_refl _
    | succ d ih =>
      intro l hd
      have := ih l (by omega)
      have h2 := (c3 (l + d) (by omega)).2.2.1 (by omega)
      show _ ≤ Nn m (130 + 645 * q + 5 + (l + d + 1))
      omega
  have bl : ∀ l, l ≤ op → l ≤ bgN m q l ∧ (l < op → bgN m q l ≤ Nn m (130 + 645 * q + 5 + l)) := fun l hl => by
    unfold bgN
    by_cases z : l = 0
    · rw [if_pos z]
      exact ⟨by omega, fun _ => Nat.zero_le _⟩
    · rw [if_neg z]
      have := up (l - 1) 0 (by omega)
      rw [show 0 + (l - 1) = l - 1 by omega] at this
      refine ⟨by omega, fun hlt => ?_⟩
      have h2 := (c3 (l - 1) (by omega)).2.2.1 (by omega)
      rw [show l - 1 + 1 = l by omega] at h2
      omega
  refine ⟨?_, (bl op (Nat.le_refl _)).1, fun l hl => ⟨(bl l (by omega)).2 hl, ?_, (bl l (by omega)).1⟩⟩
  · unfold bgN
    by_cases z : op = 0
    · rw [if_pos z]; exact Nat.zero_le _
    · rw [if_neg z]
      have := o3 (op - 1) (by omega)
      omega
  · have e : bgN m q op = Nn m (130 + 645 * q + 5 + (op - 1)) + 1 := by unfold bgN; rw [if_neg (by omega)]
    have := up (op - 1 - l) l (by omega)
    rw [show l + (op - 1 - l) = op - 1 by omega] at this
    omega
/-- of a part's lines, places and pieces: what the memory keeps of it alone -/
theorem MIc.x (H : MIc M q) : MIx M q := by
  obtain ⟨a1, a2, a3, a4, a5, a6, a7⟩ := H
  exact ⟨a1, a2, a3, trivial, trivial, trivial, a4, a5, a6, a7, trivial, trivial⟩
theorem MIx.cc (H : MIx M q) : MIc M q := by
  obtain ⟨a1, a2, a3, -, -, -, a4, a5, a6, a7, -, -⟩ := H
  exact ⟨a1, a2, a3, a4, a5, a6, a7⟩
/-- the lines behind it: those ahead stay, the others are of the best way -/
theorem cl_ok (I : MI m) (vq : vP m q) (u3 : m (130 + 645 * q + 3) = nI 1) (fn : f < Nn m (130 + 645 * q + 1)) (O : OPn m q f op) (I1 : MIw M1) (C1 : MIc M1 q) (H0 : ∀ y, (y < 130 + 645 * q + 85 ∨ 130 + 645 * q + 645 ≤ y) → y ≠ 130 + 645 * q + 1 → M1 y = m y) (Ha : ∀ x, x < f → M1 (130 + 645 * q + 85 + x) = m (130 + 645 * q + 85 + x) ∧ M1 (130 + 645 * q + 125 + x) = m (130 + 645 * q + 125 + x)) (fP : f < nP M1 q) {v : Nat × Nat × Nat} (hv : wyT M1 q t (bgN m q op) = some v) : 1 ≤ v.2.1 ∧ op + v.2.1 ≤ 40 ∧ MIp (clM M1 q op v.2.1 (lnB M1 q t (bgN m q op))) q ∧ MIq1 (clM M1 q op v.2.1 (lnB M1 q t (bgN m q op))) q ∧ ∀ j, j < v.2.1 → bgN (clM M1 q op v.2.1 (lnB M1 q t (bgN m q op))) q (op + j) = lnB M1 q t (bgN m q op) j := by
  have J := I.2.1 q vq
  obtain ⟨fr, hfr⟩ : ∃ fr, fr = bgN m q op := ⟨_, rfl⟩
  obtain ⟨g1, g2, g3⟩ := op_bg J u3 O
  rw [← hfr] at g1 g2 g3 hv ⊢
  have vq1 : vP M1 q := vq.b (fun x hx => H0 x (by have := vq.1; omega) (by omega))
  obtain ⟨b1, b2, b3, b4, b5, b6⟩ := lnX_f (t := t) I1 C1.x vq1 (fr := fr) (by omega) hv
  obtain ⟨n, hn⟩ : ∃ n, n = v.2.1 := ⟨_, rfl⟩
  obtain ⟨c, hc⟩ : ∃ c, c = lnB M1 q t fr := ⟨_, rfl⟩
  rw [← hn] at b1 b2 b4 b5 b6
  rw [← hc] at b3 b4 b5 b6
  rw [← hn, ← hc]
  have x40 : nP M1 q ≤ 40 := C1.x.n.2.1
  have h40 : op + n ≤ 40 := by omega
  obtain ⟨c1, c2, c3, c4⟩ := cl_v (M := M1) (q := q) (c := c) h40
  obtain ⟨M2, hM2⟩ : ∃ M2, M2 = clM M1 q op n c := ⟨_, rfl⟩
  rw [← hM2] at c1 c2 c3 c4 ⊢
  obtain ⟨-, f4⟩ := I.1.f.2.2.2.2.1
  have vb := vq.1
  obtain ⟨o1, o2, o3⟩ := id O
  obtain ⟨p0, p1, p1', p2, p3, p4, pb, pw, pw1, pw2, pz, ps⟩ := id J
  have l40 := (p4.eq (by omega)).2
  obtain ⟨s2, s1, sl, sp⟩ := ps u3
  have C2 : MIc M2 q := C1.c (fun y h1 h2 h3 => c4 y (by omega))
  have nn : Nn M2 (130 + 645 * q + 1) = nP M1 q := Nn.c (c4 _ (by omega))
  have n4 : Nn M2 (130 + 645 * q + 4) = op + n := by unfold Nn; rw [c2, nCl (by omega)]
  have v3 : M2 (130 + 645 * q + 3) = nI 1 := by rw [c4 _ (by omega), H0 _ (by omega) (by omega)]; exact u3
  have v2 : M2 (130 + 645 * q + 2) = nI 1 := by rw [c4 _ (by omega), H0 _ (by omega) (by omega)]; exact s2
  have eo : ∀ l, l < op → M2 (130 + 645 * q + 5 + l) = m (130 + 645 * q + 5 + l) ∧ M2 (130 + 645 * q + 45 + l) = m (130 + 645 * q + 45 + l) := fun l hl => by
    rw [(c3 l hl).1, (c3 l hl).2, H0 _ (by omega) (by omega), H0 _ (by omega) (by omega)]
    exact ⟨rfl, rfl⟩
  have en : ∀ j, j < n → Nn M2 (130 + 645 * q + 5 + (op + j)) = c (j + 1) - 1 := fun j hj => by
    have := b5 j hj
    unfold Nn
    rw [(c1 j hj).1, nCl (by omega)]
  have bg : ∀ j, j < n → bgN M2 q (op + j) = c j := fun j hj => by
    unfold bgN
    by_cases z : j = 0
    · rw [z, b3, hfr, Nat.add_zero]
      unfold bgN
      by_cases y : op = 0
      · rw [if_pos y, if_pos y]
      · rw [if_neg y, if_neg y, Nn.c (eo (op - 1) (by omega)).1]
    · have := en (j - 1) (by omega)
      rw [show op + (j - 1) = op + j - 1 by omega, show j - 1 + 1 = j by omega] at this
      have h5 := b5 (j - 1) (by omega)
      rw [show j - 1 + 1 = j by omega] at h5
      rw [if_neg (by omega), this]
      omega
  have bo : ∀ l, l < op → bgN M2 q l = bgN m q l := fun l hl => by
    unfold bgN
    by_cases z : l = 0
    · rw [if_pos z, if_pos z]
    · rw [if_neg z, if_neg z, Nn.c (eo (l - 1) (by omega)).1]
  refine ⟨b1, h40, ?_, ?_, bg⟩
  · obtain ⟨a1, a2, a3, a4, a5, a6, a7⟩ := C2
    refine ⟨a1, a2, a3, ⟨1, by omega, v2⟩, ⟨1, by omega, v3⟩, ⟨op + n, h40, c2⟩, a4, a5, a6, a7, fun z => by rw [v3] at z; exact absurd z (by decide), fun _ => ⟨v2, by rw [n4]; omega, ?_, fun l hl => ?_⟩⟩
    · have := en (n - 1) (by omega)
      rw [show n - 1 + 1 = n by omega, b4] at this
      rw [n4, show op + n - 1 = op + (n - 1) by omega, this, nn]
      have := C1.x.n.2.2
      omega
    · rw [n4] at hl
      by_cases z : l < op
      · obtain ⟨d1, d2, d3, d4⟩ := sp l (by omega)
        obtain ⟨e1, e2⟩ := eo l z
        have lw := g3 l z
        have e4 : M2 4 = m 4 := by rw [c4 _ (by omega), H0 _ (by omega) (by omega)]
        refine ⟨d1.c e1, d2.c e2, fun h1 => ?_, fun h1 => ?_⟩
        · rw [Nn.c e1]
          by_cases y : l + 1 < op
          · rw [Nn.c (eo (l + 1) y).1]
            exact d3 (by omega)
          · have := en 0 (by omega)
            rw [show op + 0 = l + 1 by omega, Nat.zero_add] at this
            have h5 := b5 0 (by omega)
            rw [this]
            rw [b3, Nat.zero_add] at h5
            omega
        · rw [e2] at h1
          have := d4 h1
          have e : ∀ x, x < 852 → M2 (64630 + 852 * (Nn m (130 + 645 * q + 45 + l) - 1) + x) = m (64630 + 852 * (Nn m (130 + 645 * q + 45 + l) - 1) + x) := fun x hx => by
            rw [c4 _ (by omega), H0 _ (by omega) (by omega)]
          rw [Nn.c e2, Nn.c e4, e 4 (by omega), e 5 (by omega), e 6 (by omega)]
          exact this
      · obtain ⟨j, rfl⟩ : ∃ j, l = op + j := ⟨l - op, by omega⟩
        have hj : j < n := by omega
        have h5 := b5 j hj
        refine ⟨⟨c (j + 1) - 1, by omega, (c1 j hj).1⟩, ⟨0, by omega, (c1 j hj).2⟩, fun h1 => ?_, fun h1 => absurd (c1 j hj).2 h1⟩
        have h6 := b5 (j + 1) (by omega)
        rw [en j hj, show op + j + 1 = op + (j + 1) from rfl, en (j + 1) (by omega)]
        omega
  · intro _ l hl
    rw [n4] at hl
    have ls2 : ∀ k, k ≤ nP M1 q → lsN M2 q k = lsN M1 q k := fun k hk => lsN.mc k (fun x hx => c4 _ (by omega))
    have w2 : ∀ k, Nn M2 (130 + 645 * q + 85 + k) = wkN M1 q k := fun k => Nn.c (c4 _ (by omega))
    by_cases z : l < op
    · obtain ⟨e1, e2⟩ := eo l z
      obtain ⟨lw1, lw2, lw3⟩ := g3 l z
      have ls1 : ∀ k, k ≤ f → lsN M1 q k = lsN m q k := fun k hk => lsN.mc k (fun x hx => (Ha x (by omega)).2)
      have w1 : ∀ k, k < f → wkN M1 q k = Nn m (130 + 645 * q + 85 + k) := fun k hk => Nn.c (Ha k hk).1
      have Q := I.2.2.2.2.2.2.2.1 q vq u3 l (by omega)
      rw [Nn.c e1, bo l z, ls2 _ (by omega), ls2 _ (by omega), w2, w2, ls1 _ (by omega), ls1 _ (by omega), w1 _ (by omega), w1 _ (by omega)]
      exact Q
    · obtain ⟨j, rfl⟩ : ∃ j, l = op + j := ⟨l - op, by omega⟩
      have hj : j < n := by omega
      have h5 := b5 j hj
      have h6 := b6 j hj
      rw [en j hj, bg j hj, ls2 _ (by omega), ls2 _ (by omega), w2, w2, show c (j + 1) - 1 + 1 = c (j + 1) by omega]
      exact h6
end
