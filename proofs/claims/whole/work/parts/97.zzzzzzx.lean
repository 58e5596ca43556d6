/-! style: the memory with one style more -/
section
variable {m M : Nat → Int32} {q s k S du n po : Nat} {d d' d0 : Nat → Int32} {R : List Rl} {h : Hp} {y : Nat}
theorem vP.c2 (H : ∀ x, x < 130 → x ≠ 2 → M x = m x) {q : Nat} (hq : vP m q) : vP M q := hq.c (H 1 (by omega) (by omega)) (fun _ => H _ (by have := hq.1; omega) (by omega))
theorem MIs.m2 {g s : Nat} (Hb : ∀ x, x < 130 → x ≠ 2 → M x = m x) (H : ∀ x, x < 852 → M (g + x) = m (g + x)) (Hp : m (g + 4) = nI 0 → M (130 + 645 * Nn m (g + 6) + 3) = m (130 + 645 * Nn m (g + 6) + 3) ∧ M (130 + 645 * Nn m (g + 6) + 4) = m (130 + 645 * Nn m (g + 6) + 4) ∧ M (130 + 645 * Nn m (g + 6) + 45 + Nn m (g + 5)) = m (130 + 645 * Nn m (g + 6) + 45 + Nn m (g + 5))) (I : MIs m g s) : MIs M g s := by
  obtain ⟨a0, a1, a2, a3, a4, a5, a6, a7, a8, a9, a10, a11, a12, a13, a14, a15, a16⟩ := I
  have e0 : M g = m g := H 0 (by omega)
  have e9 := (a11.eq (by omega)).2
  refine ⟨a0.c e0, by rw [Nn.c e0]; exact a1.c2 Hb, a2.c (H _ (by omega)), by rw [Nn.c (H 1 (by omega)), Nn.c (Hb 3 (by omega) (by omega))]; exact a3, a4.c (H _ (by omega)), by rw [Nn.c (H 2 (by omega)), Nn.c (Hb 0 (by omega) (by omega))]; exact a5, by rw [Nn.c (H 2 (by omega))]; exact a6, a7.c (H _ (by omega)), a8.c (H _ (by omega)), a9.c (H _ (by omega)), a10.c (H _ (by omega)), a11.c (H _ (by omega)), a12.c (H _ (by omega)), a13.c (H _ (by omega)), fun i hi => ?_, by rw [H 4 (by omega), H 5 (by omega), H 6 (by omega)]; exact a15, ?_⟩
  · rw [Nn.c (H 9 (by omega))] at hi
    have h1 := H (12 + i) (by omega)
    have h2 := H (432 + i) (by omega)
    rw [← Nat.add_assoc] at h1 h2
    exact ⟨(a14 i hi).1.c h1, (a14 i hi).2.c h2⟩
  · rw [H 4 (by omega)]
    intro hz
    obtain ⟨c1, c2, c3, c4, c5, c6⟩ := a16 hz
    obtain ⟨p1, p2, p3⟩ := Hp hz
    rw [Nn.c (H 5 (by omega)), Nn.c (H 6 (by omega)), p1, Nn.c p2, p3]
    exact ⟨c1.c (H _ (by omega)), c2.c (H _ (by omega)), c3.c2 Hb, c4, c5, c6⟩
theorem MIm.m2 {k : Nat} (hk : k < Nn m 3) (hk3 : Nn m 3 ≤ 4) (Hb : ∀ x, x < 130 → x ≠ 2 → M x = m x) (H : ∀ x, 320230 ≤ x → x < 320962 → (∀ k', k' < 4 → x ≠ 320230 + 183 * k' + 30) → M x = m x) (Hp : ∀ j, j < Nn m (320230 + 183 * k + 29) → ∀ y, 2 ≤ y → y ≤ 4 → M (130 + 645 * Nn m (320230 + 183 * k + 33 + 5 * j) + y) = m (130 + 645 * Nn m (320230 + 183 * k + 33 + 5 * j) + y)) (hj : ∀ k', k' < Nn m 3 → Nn m (320230 + 183 * k' + 29) ≤ 30) (I : MIm m k) : MIm M k := by
  obtain ⟨a0, a1, a2, a3, a4⟩ := I
  have e : ∀ x, x < 183 → x ≠ 30 → M (320230 + 183 * k + x) = m (320230 + 183 * k + x) := fun x hx h0 => H _ (by omega) (by omega) (fun k' h4 => by omega)
  have hn := hj k hk
  refine ⟨fun i hi => (a0 i hi).c (e i (by omega) (by omega)), a1.c (e _ (by omega) (by omega)), a2.c (e _ (by omega) (by omega)), a3.c (e _ (by omega) (by omega)), fun j hj2 => ?_⟩
  rw [Nn.c (e 29 (by omega) (by omega))] at hj2
  have e1 : ∀ x, x < 5 → M (320230 + 183 * k + 33 + 5 * j + x) = m (320230 + 183 * k + 33 + 5 * j + x) := fun x hx => H _ (by omega) (by omega) (fun k' h4 => by rcases Nat.lt_or_ge k k' with z | z <;> omega)
  have e2 : M (320230 + 183 * k + 33 + 5 * j) = m (320230 + 183 * k + 33 + 5 * j) := e1 0 (by omega)
  have hp := Hp j hj2
  obtain ⟨b1, b2, b3, b4, b5, b6, b7, b8⟩ := a4 j hj2
  rw [Nn.c e2, Nn.c (e1 1 (by omega)), Nn.c (e1 2 (by omega)), e1 4 (by omega), e1 1 (by omega), hp 2 (by omega) (by omega), hp 3 (by omega) (by omega), Nn.c (hp 4 (by omega) (by omega)), Nn.c (Hb 3 (by omega) (by omega)), e2]
  refine ⟨b1.c e2, b2.c2 Hb, b3.c (e1 1 (by omega)), b4.c (e1 2 (by omega)), b5.c (e1 3 (by omega)), b6.c (e1 4 (by omega)), b7, fun hf => ?_⟩
  obtain ⟨c1, c2, c3, c4⟩ := b8 hf
  refine ⟨c1, c2, c3, fun k' hk' j' hj' => ?_⟩
  have h30 := hj k' hk'
  rw [Nn.c (H (320230 + 183 * k' + 29) (by omega) (by omega) (fun k' h4 => by omega))] at hj'
  rw [H (320230 + 183 * k' + 33 + 5 * j' + 4) (by omega) (by omega) (fun k' h4 => by omega), H (320230 + 183 * k' + 33 + 5 * j') (by omega) (by omega) (fun k' h4 => by omega)]
  exact c4 k' hk' j' hj'
theorem st_mi (I : MI m) (hS : S = Nn m 2) (S10 : S < 10) (L : ∀ y, y ≠ 2 → (y < 320962 + 562 * S ∨ 320962 + 562 * S + 562 ≤ y) → M y = m y) (H2 : M 2 = nI (S + 1)) (HY : MIy M (320962 + 562 * S)) : MI M := by
  obtain ⟨B, Ip, Is, Im, Ih, Iy, Iz, Iq⟩ := I
  obtain ⟨⟨-, f0⟩, ⟨-, f1⟩, ⟨-, f2⟩, ⟨-, f3⟩, ⟨-, f4⟩, ⟨-, f5⟩, ⟨-, f6⟩, ⟨-, f7⟩⟩ := B.f
  have Hb : ∀ x, x < 130 → x ≠ 2 → M x = m x := fun x hx h2 => L x h2 (by omega)
  have lo : ∀ x, 3 ≤ x → x < 320962 → M x = m x := fun x h1 h2 => L x (by omega) (by omega)
  have hi : ∀ x, 326582 ≤ x → M x = m x := fun x h1 => L x (by omega) (by omega)
  have n2 : Nn M 2 = S + 1 := by unfold Nn; rw [H2, nCl (by omega)]
  have vpm : ∀ q, vP M q → vP m q := fun q hq => hq.c2 (fun x hx h2 => (Hb x hx h2).symm)
  refine ⟨?_, fun q hq => ?_, fun s hs => ?_, fun k hk => ?_, ?_, fun y hy => ?_, ⟨fun q h1 h2 => ?_, fun k h1 h2 i h3 h4 => ?_⟩, Iq.mc (fun x hx => L x (by omega) (by omega)) Ip (lo 4 (by omega) (by omega)) Is (fun s hs x hx => lo _ (by omega) (by omega))⟩
  · obtain ⟨b0, b1, b2, b3, b4, b5, b6, b7, b8, b9⟩ := B
    refine ⟨b0.c (Hb 0 (by omega) (by omega)), b1.c (Hb 1 (by omega) (by omega)), ⟨S + 1, by omega, H2⟩, b3.c (Hb 3 (by omega) (by omega)), b4.c (Hb 4 (by omega) (by omega)), b5.c (Hb 5 (by omega) (by omega)), b6.c (Hb 6 (by omega) (by omega)), by rw [Hb 7 (by omega) (by omega), Nn.c (Hb 0 (by omega) (by omega))]; exact b7, fun j hj => ?_, fun s hs => ?_⟩
    · have e := Hb (16 + j) (by omega) (by omega)
      exact ⟨(b8 j hj).1.c e, by rw [Nn.c e]; exact (b8 j hj).2⟩
    · rw [Nn.c (Hb 1 (by omega) (by omega))] at hs
      obtain ⟨c1, c2, c3, c4⟩ := b9 s hs
      exact ⟨c1.c (Hb _ (by omega) (by omega)), c2.c (Hb _ (by omega) (by omega)), c3.c (Hb _ (by omega) (by omega)), by rw [Nn.c (Hb (110 + s) (by omega) (by omega))]; exact c4⟩
  · have hq' := vpm q hq
    have hI := Ip q hq'
    have hb := hq'.1
    refine hI.mc fun x hx => ?_
    rcases hx with rfl | ⟨h1, h2⟩ | ⟨l, hl, hz, h1, h2⟩
    · exact lo _ (by omega) (by omega)
    · exact lo _ (by omega) (by omega)
    · have l3 : m (130 + 645 * q + 3) = nI 1 := by
        obtain ⟨x3, hx3, e3⟩ := hI.2.2.2.2.1
        rcases (show x3 = 0 ∨ x3 = 1 by omega) with rfl | rfl
        · have := hI.2.2.2.2.2.2.2.2.2.2.1 e3
          unfold Nn at hl
          rw [this, nCl (by omega)] at hl
          omega
        · exact e3
      obtain ⟨-, -, -, c3⟩ := hI.2.2.2.2.2.2.2.2.2.2.2 l3
      obtain ⟨-, -, -, d4⟩ := c3 l hl
      have := (d4 hz).1
      exact lo _ (by omega) (by omega)
  · rw [Nn.c (lo 4 (by omega) (by omega))] at hs
    refine (Is s hs).m2 Hb (fun x hx => lo _ (by omega) (by omega)) (fun hz => ?_)
    obtain ⟨c1, c2, c3, -⟩ := (Is s hs).2.2.2.2.2.2.2.2.2.2.2.2.2.2.2.2 hz
    have := c3.1
    have := (c1.eq (by omega)).2
    exact ⟨lo _ (by omega) (by omega), lo _ (by omega) (by omega), lo _ (by omega) (by omega)⟩
  · rw [Nn.c (lo 3 (by omega) (by omega))] at hk
    refine (Im k hk).m2 hk f3 Hb (fun x h1 h2 _ => lo x (by omega) h2) (fun j hj y h1 h2 => ?_) (fun k' hk' => ((Im k' hk').2.2.2.1.eq (by omega)).2)
    have := ((Im k hk).2.2.2.2 j hj).2.1.1
    exact lo _ (by omega) (by omega)
  · obtain ⟨a0, a1, a2, a3⟩ := Ih
    refine ⟨fun p hp => ?_, fun e he p hp => ?_, fun i hi' => ?_, fun t ht => ?_⟩
    · obtain ⟨b1, b2, b3, b4, b5⟩ := a0 p hp
      exact ⟨b1.c (hi _ (by omega)), by rw [Nn.c (hi _ (by omega))]; exact b2, b3.c (hi _ (by omega)), by rw [Nn.c (hi _ (by omega))]; exact b4, b5.c (hi _ (by omega))⟩
    · rw [Nn.c (lo 6 (by omega) (by omega))] at he
      exact (a1 e he p hp).c (hi _ (by omega))
    · rw [Nn.c (lo 7 (by omega) (by omega))] at hi'
      rw [hi _ (by omega), Nn.c (Hb 0 (by omega) (by omega)), Nn.c (lo 7 (by omega) (by omega))]
      exact a2 i hi'
    · rw [Nn.c (lo 5 (by omega) (by omega))] at ht
      obtain ⟨b1, b2, b3, b4⟩ := a3 t ht
      exact ⟨b1.c (hi _ (by omega)), b2.c (hi _ (by omega)), b3.c (hi _ (by omega)), b4.c (hi _ (by omega))⟩
  · rw [n2] at hy
    by_cases z : y = S
    · rw [z]; exact HY
    · exact (Iy y (by omega)).mc fun x hx => L _ (by omega) (by omega)
  · rw [Nn.c (Hb 1 (by omega) (by omega))] at h2
    rw [lo _ (by omega) (by omega), lo _ (by omega) (by omega), lo _ (by omega) (by omega)]
    exact Iz.1 q h1 h2
  · rw [Nn.c (lo 3 (by omega) (by omega))] at h1
    rw [lo _ (by omega) (by omega)]
    exact Iz.2 k h1 h2 i h3 h4
/-- the draft behind a style's reading -/
def DrD (d0 : Nat → Int32) (R : List Rl) (d : Nat → Int32) : Prop := (∀ r, r < R.length → RdF d R r) ∧ ∀ j, ¬ (2 ≤ j ∧ j < 2 + 5 * R.length) → ¬ (62 ≤ j ∧ j < poL R R.length) → d j = d0 j
theorem poL_fd {j : Nat} (h : 62 ≤ j) : ∀ n, j < poL R n → ∃ r, r < n ∧ poL R r ≤ j ∧ j < poL R (r + 1)
  | 0, hj => by
    have hj : j < 62 := hj
    omega
  | n + 1, hj => by
    by_cases z : j < poL R n
    · obtain ⟨r, h1, h2, h3⟩ := poL_fd h n z
      exact ⟨r, by omega, h2, h3⟩
    · exact ⟨n, by omega, by omega, hj⟩
theorem drd_u (A : DrD d0 R d) (A' : DrD d0 R d') (hl : R.length ≤ 12) : d = d' := by
  funext j
  by_cases z : 2 ≤ j ∧ j < 2 + 5 * R.length
  · obtain ⟨r, k, hk, hr, rfl⟩ : ∃ r k, k < 5 ∧ r < R.length ∧ j = 2 + 5 * r + k := ⟨(j - 2) / 5, (j - 2) % 5, by omega, by omega, by omega⟩
    obtain ⟨a1, a2, a3, a4, a5, a6⟩ := A.1 r hr
    obtain ⟨b1, b2, b3, b4, b5, b6⟩ := A'.1 r hr
    rcases (show k = 0 ∨ k = 1 ∨ k = 2 ∨ k = 3 ∨ k = 4 by omega) with rfl | rfl | rfl | rfl | rfl
    · exact a1.trans b1.symm
    · exact a2.trans b2.symm
    · exact a3.trans b3.symm
    · exact a4.trans b4.symm
    · exact a5.trans b5.symm
  · by_cases w : 62 ≤ j ∧ j < poL R R.length
    · obtain ⟨r, hr, h1, h2⟩ := poL_fd w.1 R.length w.2
      have e : poL R (r + 1) = poL R r + ((R.getD r dRl).2.flatMap encR).length := rfl
      have x := (A.1 r hr).2.2.2.2.2 (j - poL R r) (by omega)
      have y := (A'.1 r hr).2.2.2.2.2 (j - poL R r) (by omega)
      rw [show poL R r + (j - poL R r) = j by omega] at x y
      exact x.trans y.symm
    · exact (A.2 j z w).trans (A'.2 j z w).symm
/-- the memory with a style more -/
def styM (m : Nat → Int32) (S du n po : Nat) (d : Nat → Int32) (y : Nat) : Int32 := if y = 2 then nI (S + 1) else if y = 320962 + 562 * S then nI du else if y = 320962 + 562 * S + 1 then nI n else if 320962 + 562 * S + 2 ≤ y ∧ y < 320962 + 562 * S + po then d (y - (320962 + 562 * S)) else m y
theorem styM_o (hp : po ≤ 562) (h2 : y ≠ 2) (hy : y < 320962 + 562 * S ∨ 320962 + 562 * S + 562 ≤ y) : styM m S du n po d y = m y := by
  unfold styM
  rw [if_neg h2, if_neg (by omega), if_neg (by omega), if_neg (by omega)]
theorem styM_d {j : Nat} (h2 : 2 ≤ j) (hj : j < po) : styM m S du n po d (320962 + 562 * S + j) = d j := by
  unfold styM
  rw [if_neg (by omega), if_neg (by omega), if_neg (by omega), if_pos (by omega), Nat.add_sub_cancel_left]
theorem sty_iy (D : DrD d0 R d) (G : GdR R 400) (N : ∀ r, r < R.length → OkT (R.getD r dRl).1) (hd : du ≤ 600) (hS : S < 10) : MIy (styM m S du R.length (poL R R.length) d) (320962 + 562 * S) := by
  have G1 := G.1
  have p62 := poL_62 (rs := R) R.length
  obtain ⟨M, hM⟩ : ∃ M, M = styM m S du R.length (poL R R.length) d := ⟨_, rfl⟩
  rw [← hM]
  have e0 : M (320962 + 562 * S) = nI du := by rw [hM]; unfold styM; rw [if_neg (by omega), if_pos rfl]
  have e1 : M (320962 + 562 * S + 1) = nI R.length := by rw [hM]; unfold styM; rw [if_neg (by omega), if_neg (by omega), if_pos rfl]
  have n1 : Nn M (320962 + 562 * S + 1) = R.length := by unfold Nn; rw [e1, nCl (by omega)]
  refine ⟨⟨du, hd, e0⟩, ⟨R.length, by omega, e1⟩, fun r hr => ?_⟩
  rw [n1] at hr
  obtain ⟨a1, a2, a3, -⟩ := D.1 r hr
  obtain ⟨t1, t2, t3, t4, t5, t6⟩ := N r hr
  have c1 : M (320962 + 562 * S + 2 + 5 * r) = nI (R.getD r dRl).1.1 := by
    rw [hM, Nat.add_assoc (320962 + 562 * S), styM_d (by omega) (by omega)]; exact a1
  have c2 : M (320962 + 562 * S + 2 + 5 * r + 1) = nI (R.getD r dRl).1.2.1 := by
    rw [hM, Nat.add_assoc (320962 + 562 * S), Nat.add_assoc (320962 + 562 * S), styM_d (by omega) (by omega)]; exact a2
  have c3 : M (320962 + 562 * S + 2 + 5 * r + 2) = nI (R.getD r dRl).1.2.2 := by
    rw [hM, Nat.add_assoc (320962 + 562 * S), Nat.add_assoc (320962 + 562 * S), styM_d (by omega) (by omega)]; exact a3
  have m2 : Nn M (320962 + 562 * S + 2 + 5 * r + 1) = (R.getD r dRl).1.2.1 := by unfold Nn; rw [c2, nCl (by omega)]
  have m3 : Nn M (320962 + 562 * S + 2 + 5 * r + 2) = (R.getD r dRl).1.2.2 := by unfold Nn; rw [c3, nCl (by omega)]
  rw [c1, m2, m3]
  refine ⟨⟨_, t1, c1⟩, ⟨_, t2, c2⟩, ⟨_, t3, c3⟩, fun z => ?_, fun z => ?_, fun z => ?_⟩
  · rw [nEq (by omega) (by omega)] at z; exact t4 z
  · rw [nEq (by omega) (by omega)] at z; exact t5 z
  · rw [nEq (by omega) (by omega)] at z; exact t6 z
end
