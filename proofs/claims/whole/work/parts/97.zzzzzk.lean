/-! correct: what the memory keeps when all lines are laid anew -/
section
variable {m M M2 : Nat → Int32} {q op ol nl sm d s l x y : Nat}
theorem la_mip (I : MI m) (vq : vP m q) (u3 : m (130 + 645 * q + 3) = nI 1) (eol : ol = Nn m (130 + 645 * q + 4)) (h1 : op < ol) (hsm : sm ≤ ol - op) (hsn : sm ≤ nl - op) (hn : nl ≤ 40) (ho : op ≤ nl) (P2 : MIp M2 q) (e3 : M2 (130 + 645 * q + 3) = nI 1) (e4 : M2 (130 + 645 * q + 4) = nI nl) (hM : ∀ y, (y < 130 ∨ 64630 ≤ y) → M2 y = m y) (h45o : ∀ l, l < op → M2 (130 + 645 * q + 45 + l) = m (130 + 645 * q + 45 + l)) (h45 : ∀ l, op ≤ l → l < nl → M2 (130 + 645 * q + 45 + l) = nI 0) : MIp (laM m M2 q op ol nl sm ol) q := by
  have q1 := vq.1
  obtain ⟨-, f4⟩ := I.1.f.2.2.2.2.1
  have l40 := ((I.2.1 q vq).2.2.2.2.2.1.eq (by omega)).2
  obtain ⟨M, hMM⟩ : ∃ M, M = laM m M2 q op ol nl sm ol := ⟨_, rfl⟩
  have e : ∀ x, x < 645 → ¬ (45 ≤ x ∧ x < 85) → M (130 + 645 * q + x) = M2 (130 + 645 * q + x) := fun x hx hn' => by
    rw [hMM]; exact la_o (by omega) hn (by unfold slX; omega)
  have ep : ∀ l, l < 40 → M (130 + 645 * q + 45 + l) = if nl - sm ≤ l ∧ l < nl ∧ l + ol < nl + ol then m (130 + 645 * q + 45 + l + ol - nl) else M2 (130 + 645 * q + 45 + l) := fun l hl => by
    rw [hMM]; exact la_p q1 hl (by omega)
  have es : ∀ s x, 4 ≤ x → x ≤ 6 → s < 300 → M (64630 + 852 * s + x) = if s < Nn m 4 ∧ m (64630 + 852 * s + 4) = nI 0 ∧ Nn m (64630 + 852 * s + 6) = q ∧ op ≤ Nn m (64630 + 852 * s + 5) ∧ Nn m (64630 + 852 * s + 5) < ol then (if Nn m (64630 + 852 * s + 5) < ol - sm then (if x = 4 then nI 2 else -nI 1) else if x = 5 then nI (Nn m (64630 + 852 * s + 5) + nl - ol) else m (64630 + 852 * s + x)) else M2 (64630 + 852 * s + x) := fun s x h1 h2 h3 => by
    rw [hMM]; exact la_s h1 h2 h3 (by omega)
  have eM4 : M 4 = m 4 := by rw [hMM, la_o (by omega) hn (by unfold slX; omega)]; exact hM 4 (by omega)
  rw [← hMM]
  obtain ⟨o0, o1, o1', o2, o3, o4, ob, ow, ow1, ow2, oz, os⟩ := P2
  obtain ⟨-, o1b⟩ := o1.eq (by omega)
  have n4 : Nn M2 (130 + 645 * q + 4) = nl := by unfold Nn; rw [e4, nCl (by omega)]
  have e0 : M (130 + 645 * q) = M2 (130 + 645 * q) := e 0 (by omega) (by omega)
  have ew : ∀ b, b < 41 → M (130 + 645 * q + 85 + b) = M2 (130 + 645 * q + 85 + b) := fun b hb => by
    have := e (85 + b) (by omega) (by omega)
    rwa [← Nat.add_assoc] at this
  have el : ∀ b, b < 40 → M (130 + 645 * q + 125 + b) = M2 (130 + 645 * q + 125 + b) := fun b hb => by
    have := e (125 + b) (by omega) (by omega)
    rwa [← Nat.add_assoc] at this
  have ee : ∀ b, b < 40 → M (130 + 645 * q + 5 + b) = M2 (130 + 645 * q + 5 + b) := fun b hb => by
    have := e (5 + b) (by omega) (by omega)
    rwa [← Nat.add_assoc] at this
  have n1 := Nn.c (e 1 (by omega) (by omega))
  have n4' := Nn.c (e 4 (by omega) (by omega))
  refine ⟨o0.c e0, o1.c (e 1 (by omega) (by omega)), by rw [n1]; exact o1', o2.c (e 2 (by omega) (by omega)), o3.c (e 3 (by omega) (by omega)), o4.c (e 4 (by omega) (by omega)), fun b hb => ?_, by rw [Nn.c (e 85 (by omega) (by omega))]; exact ow, fun b hb => ?_, ?_, by rw [e 3 (by omega) (by omega), e 4 (by omega) (by omega)]; exact oz, ?_⟩
  · rw [n1] at hb
    obtain ⟨c1, c2, c3, c4⟩ := ob b hb
    have c2b := (c2.eq (by omega)).2
    refine ⟨c1.c (ew b (by omega)), c2.c (el b (by omega)), by rw [Nn.c (el b (by omega))]; exact c3, fun i hi => ?_⟩
    rw [Nn.c (el b (by omega))] at hi
    have := e (165 + 12 * b + i) (by omega) (by omega)
    rw [← Nat.add_assoc, ← Nat.add_assoc] at this
    exact (c4 i hi).c this
  · rw [n1] at hb
    rw [Nn.c (ew b (by omega)), Nn.c (ew (b + 1) (by omega))]
    exact ow1 b hb
  · rw [n1, Nn.c (ew _ (by omega)), Nn.c e0]
    exact ow2
  · rw [e 3 (by omega) (by omega), e 2 (by omega) (by omega), n4', n1]
    intro hs
    obtain ⟨c0, c1, c2, c3⟩ := os hs
    rw [n4] at c1 c2 c3 ⊢
    rw [Nn.c (ee (nl - 1) (by omega))]
    refine ⟨c0, c1, c2, fun l hl => ?_⟩
    obtain ⟨d1, d2, d3, d4⟩ := c3 l hl
    rw [Nn.c (ee l (by omega)), Nn.c eM4]
    refine ⟨d1.c (ee l (by omega)), ?_, fun h2 => by rw [Nn.c (ee (l + 1) (by omega))]; exact d3 h2, ?_⟩
    · by_cases z : nl - sm ≤ l ∧ l < nl ∧ l + ol < nl + ol
      · have := ep l (by omega)
        rw [if_pos z, show 130 + 645 * q + 45 + l + ol - nl = 130 + 645 * q + 45 + (l + ol - nl) by omega] at this
        rcases lk_p I vq u3 (l := l + ol - nl) (by omega) with k | ⟨s, k1, k2, -⟩
        · exact ⟨0, by omega, by rw [this, k]⟩
        · exact ⟨s + 1, by omega, by rw [this, k2]⟩
      · have := ep l (by omega)
        rw [if_neg z] at this
        exact d2.c this
    · intro hz
      by_cases z : nl - sm ≤ l ∧ l < nl ∧ l + ol < nl + ol
      · have := ep l (by omega)
        rw [if_pos z, show 130 + 645 * q + 45 + l + ol - nl = 130 + 645 * q + 45 + (l + ol - nl) by omega] at this
        rcases lk_p I vq u3 (l := l + ol - nl) (by omega) with k | ⟨s, k1, k2, k3, k4, k5⟩
        · exact absurd (by rw [this, k]) hz
        · have np : Nn M (130 + 645 * q + 45 + l) = s + 1 := by unfold Nn; rw [this, k2, nCl (by omega)]
          have n5 : Nn m (64630 + 852 * s + 5) = l + ol - nl := by unfold Nn; rw [k4, nCl (by omega)]
          have n6 : Nn m (64630 + 852 * s + 6) = q := by unfold Nn; rw [k5, nCl (by omega)]
          have cd : s < Nn m 4 ∧ m (64630 + 852 * s + 4) = nI 0 ∧ Nn m (64630 + 852 * s + 6) = q ∧ op ≤ Nn m (64630 + 852 * s + 5) ∧ Nn m (64630 + 852 * s + 5) < ol := ⟨k1, k3, n6, by omega, by omega⟩
          have nlt : ¬ Nn m (64630 + 852 * s + 5) < ol - sm := by omega
          rw [np, Nat.add_sub_cancel, es s 4 (by omega) (by omega) (by omega), es s 5 (by omega) (by omega) (by omega), es s 6 (by omega) (by omega) (by omega), if_pos cd, if_pos cd, if_pos cd, if_neg nlt, if_neg nlt, if_neg nlt, if_neg (by omega), if_pos rfl, if_neg (by omega), n5]
          exact ⟨by omega, k3, congrArg nI (by omega), k5⟩
      · have := ep l (by omega)
        rw [if_neg z] at this
        rw [this] at hz
        have lo : l < op := Classical.byContradiction fun w => hz (h45 l (by omega) hl)
        rw [h45o l lo] at hz
        rcases lk_p I vq u3 (l := l) (by omega) with k | ⟨s, k1, k2, k3, k4, k5⟩
        · exact absurd k hz
        · have np : Nn M (130 + 645 * q + 45 + l) = s + 1 := by unfold Nn; rw [this, h45o l lo, k2, nCl (by omega)]
          have n5 : Nn m (64630 + 852 * s + 5) = l := by unfold Nn; rw [k4, nCl (by omega)]
          have cd : ¬ (s < Nn m 4 ∧ m (64630 + 852 * s + 4) = nI 0 ∧ Nn m (64630 + 852 * s + 6) = q ∧ op ≤ Nn m (64630 + 852 * s + 5) ∧ Nn m (64630 + 852 * s + 5) < ol) := fun w => by omega
          rw [np, Nat.add_sub_cancel, es s 4 (by omega) (by omega) (by omega), es s 5 (by omega) (by omega) (by omega), es s 6 (by omega) (by omega) (by omega), if_neg cd, if_neg cd, if_neg cd, hM _ (by omega), hM _ (by omega), hM _ (by omega)]
          exact ⟨by omega, k3, k4, k5⟩
theorem la_mi (I : MI m) (vq : vP m q) (u3 : m (130 + 645 * q + 3) = nI 1) (eol : ol = Nn m (130 + 645 * q + 4)) (h1 : op < ol) (hsm : sm ≤ ol - op) (hsn : sm ≤ nl - op) (hn : nl ≤ 40) (ho : op ≤ nl) (P2 : MIp M2 q) (Q2 : MIq1 M2 q) (e3 : M2 (130 + 645 * q + 3) = nI 1) (e4 : M2 (130 + 645 * q + 4) = nI nl) (hM : ∀ y, (y < 130 + 645 * q + 1 ∨ 130 + 645 * q + 645 ≤ y ∨ y = 130 + 645 * q + 2 ∨ y = 130 + 645 * q + 3) → M2 y = m y) (h45o : ∀ l, l < op → M2 (130 + 645 * q + 45 + l) = m (130 + 645 * q + 45 + l)) (h45 : ∀ l, op ≤ l → l < nl → M2 (130 + 645 * q + 45 + l) = nI 0) (J : ∀ k, k < Nn m 3 → ∀ j, j < Nn m (320230 + 183 * k + 29) → Nn m (320230 + 183 * k + 33 + 5 * j) ≠ q) : MI (laM m M2 q op ol nl sm ol) := by
  have q1 := vq.1
  obtain ⟨-, f4⟩ := I.1.f.2.2.2.2.1
  have l40 := ((I.2.1 q vq).2.2.2.2.2.1.eq (by omega)).2
  have P3 := la_mip I vq u3 eol h1 hsm hsn hn ho P2 e3 e4 (fun y hy => hM y (by omega)) h45o h45
  obtain ⟨M, hMM⟩ : ∃ M, M = laM m M2 q op ol nl sm ol := ⟨_, rfl⟩
  have eo : ∀ y, (y < 130 + 645 * q + 45 ∨ 130 + 645 * q + 85 ≤ y) → ¬ slX y → M y = M2 y := fun y h1 h2 => by
    rw [hMM]; exact la_o h1 hn h2
  have ep : ∀ l, l < 40 → M (130 + 645 * q + 45 + l) = if nl - sm ≤ l ∧ l < nl ∧ l + ol < nl + ol then m (130 + 645 * q + 45 + l + ol - nl) else M2 (130 + 645 * q + 45 + l) := fun l hl => by
    rw [hMM]; exact la_p q1 hl (by omega)
  have es : ∀ s x, 4 ≤ x → x ≤ 6 → s < 300 → M (64630 + 852 * s + x) = if s < Nn m 4 ∧ m (64630 + 852 * s + 4) = nI 0 ∧ Nn m (64630 + 852 * s + 6) = q ∧ op ≤ Nn m (64630 + 852 * s + 5) ∧ Nn m (64630 + 852 * s + 5) < ol then (if Nn m (64630 + 852 * s + 5) < ol - sm then (if x = 4 then nI 2 else -nI 1) else if x = 5 then nI (Nn m (64630 + 852 * s + 5) + nl - ol) else m (64630 + 852 * s + x)) else M2 (64630 + 852 * s + x) := fun s x h1 h2 h3 => by
    rw [hMM]; exact la_s h1 h2 h3 (by omega)
  rw [← hMM] at P3 ⊢
  have e4' : M (130 + 645 * q + 4) = nI nl := by rw [eo _ (by omega) (by unfold slX; omega)]; exact e4
  have n4' : Nn M (130 + 645 * q + 4) = nl := by unfold Nn; rw [e4', nCl (by omega)]
  refine pm_mi I vq (fun y hy hx => ?_) J P3 ?_ (by rw [eo _ (by omega) (by unfold slX; omega)]; exact e3) (fun s hs => ⟨fun z => ?_, fun z => ?_⟩)
  · rw [eo y (by omega) hx]
    exact hM y hy
  · intro hs3 l hl
    have nn4 : Nn M2 (130 + 645 * q + 4) = nl := by unfold Nn; rw [e4, nCl (by omega)]
    have Q := Q2 e3 l (by rw [nn4, ← n4']; exact hl)
    rw [n4'] at hl
    obtain ⟨-, -, c2, c3⟩ := P3.2.2.2.2.2.2.2.2.2.2.2 hs3
    have ee : ∀ l, l < 40 → Nn M (130 + 645 * q + 5 + l) = Nn M2 (130 + 645 * q + 5 + l) := fun l hl => Nn.c (eo _ (by omega) (by unfold slX; omega))
    have b39 : Nn M2 (130 + 645 * q + 5 + l) ≤ 39 := by
      have := ((c3 l (by rw [n4']; exact hl)).1.eq (by omega)).2
      rw [ee l (by omega)] at this
      exact this
    have bg : bgN M q l = bgN M2 q l ∧ bgN M2 q l ≤ 40 := by
      unfold bgN
      by_cases z : l = 0
      · rw [if_pos z, if_pos z]; exact ⟨rfl, by omega⟩
      · have := ((c3 (l - 1) (by rw [n4']; omega)).1.eq (by omega)).2
        rw [ee (l - 1) (by omega)] at this
        rw [if_neg z, if_neg z, ee (l - 1) (by omega)]; exact ⟨rfl, by omega⟩
    have ls : ∀ k, k ≤ 40 → lsN M q k = lsN M2 q k := fun k hk => lsN.mc k (fun x hx => eo _ (by omega) (by unfold slX; omega))
    have w : ∀ k, k ≤ 40 → Nn M (130 + 645 * q + 85 + k) = Nn M2 (130 + 645 * q + 85 + k) := fun k hk => Nn.c (eo _ (by omega) (by unfold slX; omega))
    rw [ee l (by omega), bg.1, ls _ (by omega), ls _ bg.2, w _ (by omega), w _ bg.2]
    exact Q
  · obtain ⟨z4, z6⟩ := z
    obtain ⟨k1, k2, k3, k4, k5, k6⟩ := lk_s I hs z4 z6
    have s3 : s < 300 := by omega
    by_cases y : op ≤ Nn m (64630 + 852 * s + 5)
    · have cd : s < Nn m 4 ∧ m (64630 + 852 * s + 4) = nI 0 ∧ Nn m (64630 + 852 * s + 6) = q ∧ op ≤ Nn m (64630 + 852 * s + 5) ∧ Nn m (64630 + 852 * s + 5) < ol := ⟨hs, z4, z6, y, by omega⟩
      have E4 := es s 4 (by omega) (by omega) s3
      have E5 := es s 5 (by omega) (by omega) s3
      have E6 := es s 6 (by omega) (by omega) s3
      rw [if_pos cd] at E4 E5 E6
      by_cases w : Nn m (64630 + 852 * s + 5) < ol - sm
      · rw [if_pos w, if_pos rfl] at E4
        rw [if_pos w, if_neg (by omega)] at E5 E6
        rw [E4, E5, E6]
        exact ⟨⟨2, by omega, E4⟩, fun _ => ⟨rfl, rfl⟩, fun e => absurd e (by decide)⟩
      · rw [if_neg w, if_neg (by omega), z4] at E4
        rw [if_neg w, if_pos rfl] at E5
        rw [if_neg w, if_neg (by omega), k5] at E6
        have n5 : Nn M (64630 + 852 * s + 5) = Nn m (64630 + 852 * s + 5) + nl - ol := by unfold Nn; rw [E5, nCl (by unfold Nn at k6; omega)]; rfl
        refine ⟨⟨0, by omega, E4⟩, fun e => absurd E4 e, fun _ => ⟨⟨_, by omega, E5⟩, E6, by rw [n5, n4']; omega, ?_⟩⟩
        rw [n5, ep _ (by omega), if_pos (by omega), show 130 + 645 * q + 45 + (Nn m (64630 + 852 * s + 5) + nl - ol) + ol - nl = 130 + 645 * q + 45 + Nn m (64630 + 852 * s + 5) by omega]
        exact k3
    · have cd : ¬ (s < Nn m 4 ∧ m (64630 + 852 * s + 4) = nI 0 ∧ Nn m (64630 + 852 * s + 6) = q ∧ op ≤ Nn m (64630 + 852 * s + 5) ∧ Nn m (64630 + 852 * s + 5) < ol) := fun w => y w.2.2.2.1
      have E : ∀ x, 4 ≤ x → x ≤ 6 → M (64630 + 852 * s + x) = m (64630 + 852 * s + x) := fun x h1 h2 => by
        rw [es s x h1 h2 s3, if_neg cd]
        exact hM _ (by omega)
      have n5 := Nn.c (E 5 (by omega) (by omega))
      have e40 := (E 4 (by omega) (by omega)).trans z4
      refine ⟨⟨0, by omega, e40⟩, fun e => absurd e40 e, fun _ => ⟨⟨_, k6, (E 5 (by omega) (by omega)).trans k4⟩, (E 6 (by omega) (by omega)).trans k5, by rw [n5, n4']; omega, ?_⟩⟩
      rw [n5, ep _ (by omega), if_neg (by omega), h45o _ (by omega)]
      exact k3
  · have s3 : s < 300 := by omega
    have cd : ¬ (s < Nn m 4 ∧ m (64630 + 852 * s + 4) = nI 0 ∧ Nn m (64630 + 852 * s + 6) = q ∧ op ≤ Nn m (64630 + 852 * s + 5) ∧ Nn m (64630 + 852 * s + 5) < ol) := fun w => z ⟨w.2.1, w.2.2.1⟩
    refine ⟨?_, ?_, ?_⟩
    · rw [es s 4 (by omega) (by omega) s3, if_neg cd]; exact hM _ (by omega)
    · rw [es s 5 (by omega) (by omega) s3, if_neg cd]; exact hM _ (by omega)
    · rw [es s 6 (by omega) (by omega) s3, if_neg cd]; exact hM _ (by omega)
end
