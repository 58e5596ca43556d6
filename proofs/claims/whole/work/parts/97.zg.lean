/-! editions: class -/
def Du (tg : Nat → List Nat) (h h' : Hp) (d y : Nat) (U : Nat → Prop) : Prop := (∀ b, b ≤ sz h → b ≠ gP h d 4 → b ≠ gP h d 5 → (b = 0 ∨ ∀ q, U q → tg b ≠ [q, 4, y]) → sm h h' b) ∧ ∀ q, ¬ U q → gI h' (gP h d 5) q = gI h (gP h d 5) q ∧ gP h' (gP h d 4) q = gP h (gP h d 4) q
section
variable {tg tg' tg1 tg2 : Nat → List Nat} {h h' h1 h2 : Hp} {m m' k t w : Nat → Int32} {i n' f : Int32} {U : Nat → Prop} {d y row q n c p e : Nat}
theorem Dx.du (X : Dx tg h h' d y row) (hu : U row) : Du tg h h' d y U := ⟨fun b hb n4 n5 hn => X.1 b hb n4 n5 (by
  rcases hn with z | z
  · exact Or.inl z
  · exact Or.inr (z row hu)), fun q hq => X.2 q (fun z => hq (by rw [z]; exact hu))⟩
theorem Du.rfl : Du tg h h d y U := ⟨fun _ _ _ _ _ => ⟨Eq.refl _, Eq.refl _, Eq.refl _, Eq.refl _⟩, fun _ _ => ⟨Eq.refl _, Eq.refl _⟩⟩
theorem Du.trans (a : Du tg h h1 d y U) (b : Du tg1 h1 h2 d y U) (hz : sz h ≤ sz h1) (ht : ∀ x, x ≤ sz h → tg1 x = tg x) (e : gP h1 d = gP h d) : Du tg h h2 d y U := by
  refine ⟨fun x hx n4 n5 hn => (a.1 x hx n4 n5 hn).tr (b.1 x (by omega) (by rw [e]; exact n4) (by rw [e]; exact n5) (by rw [ht x hx]; exact hn)), fun q hq => ?_⟩
  obtain ⟨a1, a2⟩ := a.2 q hq
  obtain ⟨b1, b2⟩ := b.2 q hq
  rw [e] at b1 b2
  exact ⟨b1.trans a1, b2.trans a2⟩
theorem Du.ar (K : Rt tg h d y) (X : Du tg h h' d y U) {j : Nat} (h4 : j ≠ 4) (h5 : j ≠ 5) (hz : gP h d j ≠ 0) (s4 : gP h d 4 ≠ 0) (s5 : gP h d 5 ≠ 0) : sm h h' (gP h d j) := by
  have tj := K.a hz
  refine X.1 _ (K.1.2.2.2.2.2 _ _) (fun z => ?_) (fun z => ?_) (Or.inr (fun q _ z => ?_))
  · have := K.a s4
    rw [← z, tj] at this
    exact h4 (List.cons.inj this).1
  · have := K.a s5
    rw [← z, tj] at this
    exact h5 (List.cons.inj this).1
  · rw [tj] at z
    have := congrArg List.length z
    simp at this
theorem Du.dd (K : Rt tg h d y) (hd : d ≤ sz h) (X : Du tg h h' d y U) (s4 : gP h d 4 ≠ 0) (s5 : gP h d 5 ≠ 0) : sm h h' d := by
  have td := K.2.2.1
  refine X.1 _ hd (fun z => ?_) (fun z => ?_) (Or.inr (fun q _ z => ?_))
  · have := K.a s4
    rw [← z, td] at this
    have := congrArg List.length this
    simp at this
  · have := K.a s5
    rw [← z, td] at this
    have := congrArg List.length this
    simp at this
  · rw [td] at z
    have := congrArg List.length z
    simp at this
theorem RC.keepU (K : Rt tg h d y) (S : DkS h d) (X : Du tg h h' d y U) (e : gP h' d = gP h d) (hq : ¬ U q) (A : RC h d q n w) : RC h' d q n w := by
  obtain ⟨a1, a2, a3⟩ := A
  obtain ⟨x1, x2⟩ := X
  obtain ⟨u1, u2⟩ := x2 q hq
  obtain ⟨-, s4, s5, s6⟩ := S.f
  unfold RC
  rw [e, u1, u2]
  refine ⟨a1, a2, fun l hl => ?_⟩
  have cz := a2 (by omega)
  have tc := K.o cz
  have s := x1 (gP h (gP h d 4) q) (K.1.2.2.2.2.2 _ _) (fun z => by
    have := K.a s4.1
    rw [← z, tc] at this
    have := congrArg List.length this
    simp at this) (fun z => by
    have := K.a s5.1
    rw [← z, tc] at this
    have := congrArg List.length this
    simp at this) (Or.inr (fun q' hu z => by
    rw [tc] at z
    have : q = q' := (List.cons.inj z).1
    exact hq (by rw [this]; exact hu)))
  rw [s.2.2.1]
  exact a3 l hl
theorem dv_rc (DV : DkV h d m) (B : MIb m) (I : MIh m) (hp : p < 6) (hq : q < Nn m 6 + 1) : RC h d (6 * q + p) (Nn m (eB p q)) (eS m p q) := by
  obtain ⟨v1, v2, v3, v4, v5⟩ := DV
  have en := eB_n B I hp hq
  have nz : Nn m (eB p q) ≠ 0 → m (eB p q) ≠ nI 0 := fun z e => z (by unfold Nn; rw [e, nCl (by omega)])
  unfold RC
  rw [← en.1]
  unfold eB at en nz ⊢
  unfold eS
  by_cases z : q = 0
  · subst z
    obtain ⟨w1, w2, w3, w4, w5, w6, w7⟩ := v3 p hp
    simp only [if_pos, Nat.mul_zero, Nat.zero_add] at nz ⊢
    exact ⟨w5, fun y => w6 (nz y), w7⟩
  · obtain ⟨w1, w2, w3⟩ := v4 (q - 1) (by omega) p hp
    simp only [if_neg z] at nz ⊢
    rw [show q - 1 + 1 = q by omega] at w1 w2 w3
    exact ⟨w1, fun y => w2 (nz y), w3⟩
theorem dv_of (B : MIb m) (I : MIh m) (a6 : gI h d 6 = m 6) (a11 : gI h d 11 = m 5) (pg : ∀ p, p < 6 → gI h (gP h d 0) p = m (327382 + 185 * p) ∧ gI h (gP h d 1) p = m (327382 + 185 * p + 1) ∧ gI h (gP h d 2) p = m (327382 + 185 * p + 3) ∧ gI h (gP h d 3) p = m (327382 + 185 * p + 4)) (rc : ∀ p q, p < 6 → q < Nn m 6 + 1 → RC h d (6 * q + p) (Nn m (eB p q)) (eS m p q)) (tl : ∀ t, t < Nn m 5 → gI h (gP h d 7) t = m (326582 + 4 * t) ∧ gI h (gP h d 8) t = m (326582 + 4 * t + 1) ∧ gI h (gP h d 9) t = m (326582 + 4 * t + 2) ∧ gI h (gP h d 10) t = m (326582 + 4 * t + 3)) : DkV h d m := by
  have nz : ∀ p q, p < 6 → q < Nn m 6 + 1 → m (eB p q) ≠ nI 0 → Nn m (eB p q) ≠ 0 := fun p q hp hq z e => z (by rw [(eB_n B I hp hq).1, e])
  refine ⟨a6, a11, fun p hp => ?_, fun e he p hp => ?_, tl⟩
  · obtain ⟨p1, p2, p3, p4⟩ := pg p hp
    obtain ⟨r1, r2, r3⟩ := rc p 0 hp (by omega)
    have nz0 := nz p 0 hp (by omega)
    have en := (eB_n B I hp (by omega : 0 < Nn m 6 + 1)).1
    rw [← en] at r1
    simp only [eB, eS, if_pos, Nat.mul_zero, Nat.zero_add] at r1 r2 r3 nz0
    exact ⟨p1, p2, p3, p4, r1, fun z => r2 (nz0 z), r3⟩
  · obtain ⟨r1, r2, r3⟩ := rc p (e + 1) hp (by omega)
    have nz0 := nz p (e + 1) hp (by omega)
    have en := (eB_n B I hp (by omega : e + 1 < Nn m 6 + 1)).1
    rw [← en] at r1
    simp only [eB, eS, if_neg (show ¬ e + 1 = 0 by omega), Nat.add_sub_cancel] at r1 r2 r3 nz0
    exact ⟨r1, fun z => r2 (nz0 z), r3⟩
/-- the memory with the first J cells of edition e written -/
def edS (m : Nat → Int32) (e y : Nat) : Int32 := if (y - (328492 + 1086 * e)) % 181 = 0 then m (327382 + 185 * ((y - (328492 + 1086 * e)) / 181) + 2) else m (327382 + 185 * ((y - (328492 + 1086 * e)) / 181) + 4 + (y - (328492 + 1086 * e)) % 181)
def edW (m : Nat → Int32) (e J : Nat) : Nat → Int32 := fun y => if 328492 + 1086 * e ≤ y ∧ y < 328492 + 1086 * e + J ∧ (y - (328492 + 1086 * e)) % 181 ≤ Nn m (327382 + 185 * ((y - (328492 + 1086 * e)) / 181) + 2) then edS m e y else m y
def edM (m : Nat → Int32) (e : Nat) : Nat → Int32 := va_up (edW m e 1086) 6 (nI (e + 1))
theorem edW_0 : edW m e 0 = m := by
  funext y
  unfold edW
  rw [if_neg (by omega)]
theorem edW_c {p : Nat} : va_up (edW m e (181 * p)) (328492 + 181 * (6 * e + p)) (m (327382 + 185 * p + 2)) = edW m e (181 * p + 1) := by
  funext y
  rw [up_at]
  unfold edW
  by_cases z : y = 328492 + 181 * (6 * e + p)
  · have z1 : y - (328492 + 1086 * e) = 181 * p := by omega
    rw [if_pos z, if_pos ⟨by omega, by omega, by rw [z1]; omega⟩]
    unfold edS
    rw [z1, if_pos (by omega), show 181 * p / 181 = p by omega]
  · rw [if_neg z]
    by_cases w : 328492 + 1086 * e ≤ y ∧ y < 328492 + 1086 * e + 181 * p ∧ (y - (328492 + 1086 * e)) % 181 ≤ Nn m (327382 + 185 * ((y - (328492 + 1086 * e)) / 181) + 2)
    · rw [if_pos w, if_pos ⟨w.1, by omega, w.2.2⟩]
    · rw [if_neg w, if_neg (fun q => w ⟨q.1, by omega, q.2.2⟩)]
theorem edW_s {p l : Nat} (hl : l < Nn m (327382 + 185 * p + 2)) (hb : Nn m (327382 + 185 * p + 2) ≤ 180) : va_up (edW m e (181 * p + 1 + l)) (328492 + 181 * (6 * e + p) + 1 + l) (m (327382 + 185 * p + 5 + l)) = edW m e (181 * p + 1 + (l + 1)) := by
  funext y
  rw [up_at]
  unfold edW
  by_cases z : y = 328492 + 181 * (6 * e + p) + 1 + l
  · have z1 : (y - (328492 + 1086 * e)) / 181 = p ∧ (y - (328492 + 1086 * e)) % 181 = 1 + l := by omega
    rw [if_pos z, if_pos ⟨by omega, by omega, by rw [z1.1, z1.2]; omega⟩]
    unfold edS
    rw [z1.1, z1.2, if_neg (by omega), show 327382 + 185 * p + 4 + (1 + l) = 327382 + 185 * p + 5 + l by omega]
  · rw [if_neg z]
    by_cases w : 328492 + 1086 * e ≤ y ∧ y < 328492 + 1086 * e + (181 * p + 1 + l) ∧ (y - (328492 + 1086 * e)) % 181 ≤ Nn m (327382 + 185 * ((y - (328492 + 1086 * e)) / 181) + 2)
    · rw [if_pos w, if_pos ⟨w.1, by omega, w.2.2⟩]
    · rw [if_neg w, if_neg (fun q => w ⟨q.1, by omega, q.2.2⟩)]
theorem edW_e {p : Nat} (hb : Nn m (327382 + 185 * p + 2) ≤ 180) : edW m e (181 * p + 1 + Nn m (327382 + 185 * p + 2)) = edW m e (181 * (p + 1)) := by
  funext y
  unfold edW
  by_cases w : 328492 + 1086 * e ≤ y ∧ y < 328492 + 1086 * e + (181 * p + 1 + Nn m (327382 + 185 * p + 2)) ∧ (y - (328492 + 1086 * e)) % 181 ≤ Nn m (327382 + 185 * ((y - (328492 + 1086 * e)) / 181) + 2)
  · rw [if_pos w, if_pos ⟨w.1, by omega, w.2.2⟩]
  · rw [if_neg w]
    by_cases v : 328492 + 1086 * e ≤ y ∧ y < 328492 + 1086 * e + 181 * (p + 1) ∧ (y - (328492 + 1086 * e)) % 181 ≤ Nn m (327382 + 185 * ((y - (328492 + 1086 * e)) / 181) + 2)
    · obtain ⟨v1, v2, v3⟩ := v
      refine absurd ⟨v1, ?_, v3⟩ w
      by_cases u : (y - (328492 + 1086 * e)) / 181 = p
      · rw [u] at v3
        omega
      · omega
    · rw [if_neg v]
theorem edM_o {y : Nat} (h6 : y ≠ 6) (hy : y < 328492 + 1086 * e ∨ 328492 + 1086 * e + 1086 ≤ y) : edM m e y = m y := by
  unfold edM edW
  rw [up_at, if_neg h6, if_neg (by omega)]
theorem edM_c {p : Nat} (hp : p < 6) : edM m e (328492 + 181 * (6 * e + p)) = m (327382 + 185 * p + 2) := by
  have z1 : 328492 + 181 * (6 * e + p) - (328492 + 1086 * e) = 181 * p := by omega
  unfold edM edW
  rw [up_at, if_neg (by omega), if_pos ⟨by omega, by omega, by rw [z1]; omega⟩]
  unfold edS
  rw [z1, if_pos (by omega), show 181 * p / 181 = p by omega]
theorem edM_l {p l : Nat} (hp : p < 6) (hl : l < Nn m (327382 + 185 * p + 2)) (hb : Nn m (327382 + 185 * p + 2) ≤ 180) : edM m e (328492 + 181 * (6 * e + p) + 1 + l) = m (327382 + 185 * p + 5 + l) := by
  have z1 : (328492 + 181 * (6 * e + p) + 1 + l - (328492 + 1086 * e)) / 181 = p ∧ (328492 + 181 * (6 * e + p) + 1 + l - (328492 + 1086 * e)) % 181 = 1 + l := by omega
  unfold edM edW
  rw [up_at, if_neg (by omega), if_pos ⟨by omega, by omega, by rw [z1.1, z1.2]; omega⟩]
  unfold edS
  rw [z1.1, z1.2, if_neg (by omega), show 327382 + 185 * p + 4 + (1 + l) = 327382 + 185 * p + 5 + l by omega]
theorem ed_mi (I : MI m) (he : e = Nn m 6) (e8 : e < 8) : MI (edM m e) := by
  have N6 : Nn (edM m e) 6 = e + 1 := by
    unfold Nn edM
    rw [up_at, if_pos (Eq.refl _), nCl (by omega)]
  have o : ∀ y, y ≠ 6 → y < 328492 → edM m e y = m y := fun y h6 hy => edM_o h6 (by omega)
  have u : ∀ y, 337180 ≤ y → edM m e y = m y := fun y hy => edM_o (by omega) (by omega)
  obtain ⟨-, -, -, -, -, ⟨-, f5⟩, ⟨-, f6⟩, ⟨-, f7⟩⟩ := I.1.f
  obtain ⟨i1, i2, i3, i4⟩ := I.2.2.2.2.1
  refine MI.desk (fun x hx => ?_) I (I.1.2.2.2.2.2.1.c (o 5 (by omega) (by omega))) ⟨e + 1, by omega, by unfold edM; rw [up_at, if_pos (Eq.refl _)]⟩ ⟨fun p hp => ?_, fun e' he' p hp => ?_, fun l hl => ?_, fun t ht => ?_⟩
  · by_cases z : x < 328492
    · exact o x (by omega) z
    · exact u x (by omega)
  · obtain ⟨c1, c2, c3, c4, c5⟩ := i1 p hp
    exact ⟨c1.c (o _ (by omega) (by omega)), by rw [Nn.c (o (327382 + 185 * p) (by omega) (by omega))]; exact c2, c3.c (o _ (by omega) (by omega)), by rw [Nn.c (o (327382 + 185 * p + 1) (by omega) (by omega))]; exact c4, c5.c (o _ (by omega) (by omega))⟩
  · rw [N6] at he'
    by_cases z : e' = e
    · subst z
      obtain ⟨c1, c2, c3, c4, ⟨x, hx, ex⟩⟩ := i1 p hp
      exact ⟨x, hx, by rw [edM_c hp]; exact ex⟩
    · exact (i2 e' (by omega) p hp).c (edM_o (by omega) (by omega))
  · rw [Nn.c (o 7 (by omega) (by omega))] at hl
    rw [Nn.c (o 7 (by omega) (by omega)), Nn.c (o 0 (by omega) (by omega)), u _ (by omega)]
    exact i3 l hl
  · rw [Nn.c (o 5 (by omega) (by omega))] at ht
    obtain ⟨c1, c2, c3, c4⟩ := i4 t ht
    exact ⟨c1.c (o _ (by omega) (by omega)), c2.c (o _ (by omega) (by omega)), c3.c (o _ (by omega) (by omega)), c4.c (o _ (by omega) (by omega))⟩
theorem c_addEd (K : Rt tg h d y) (hd : d ≤ sz h) (h9 : 109 ≤ sz h) (S : DkS h d) (V : DkV h d m) (B : MIb m) (I : MIh m) (I' : MI (edM m e)) (he : e = Nn m 6) (e8 : e < 8) : ∃ tg' h', MX2_addEdition h d = some (nI e, h') ∧ Dy tg h tg' h' d y ∧ DkV h' d (edM m e) := by
  obtain ⟨k1, ⟨s4, s4a, s4b⟩, ⟨s5, s5a, s5b⟩, s6⟩ := S.f
  have b6 : m 6 = nI e := by rw [he]; exact B.f.2.2.2.2.2.2.1.1
  have g6 : gI h d 6 = nI e := V.1.trans b6
  obtain ⟨h0, hh0⟩ : ∃ h0, h0 = sI h d 6 (nI (e + 1)) := ⟨_, Eq.refl _⟩
  have F0 : Fr (fun x => x = d) h h0 := by rw [hh0]; exact Fr.sI (Eq.refl _)
  have K0 := K.fr F0
  have S0 := dks_fr S F0
  have eP0 : gP h0 = gP h := F0.2.2.1
  have dz := K.2.2.2.2
  have nd : ∀ k, gP h d k ≠ d := fun k z => by
    have := K.a (k := k) (by rw [z]; exact dz)
    rw [z, K.2.2.1] at this
    have := congrArg List.length this
    simp at this
  have nd2 : ∀ k j, gP h (gP h d k) j ≠ d := fun k j z => by
    have := K.o (k := k) (j := j) (by rw [z]; exact dz)
    rw [z, K.2.2.1] at this
    have := congrArg List.length this
    simp at this
  have rc0 : ∀ p q, p < 6 → q < Nn m 6 + 1 → RC h0 d (6 * q + p) (Nn m (eB p q)) (eS m p q) := fun p q hp hq => by
    obtain ⟨r1, r2, r3⟩ := dv_rc V B I hp hq
    unfold RC
    rw [eP0, F0.2.2.2.2.2.2 _ (nd 5), F0.2.2.2.2.2.2 _ (nd2 4 _)]
    exact ⟨r1, r2, r3⟩
  have t4 := K0.a (by rw [eP0]; exact s4)
  have t5 := K0.a (by rw [eP0]; exact s5)
  have hd0 : d ≤ sz h0 := by rw [F0.2.2.2.1]; exact hd
  have h90 : 109 ≤ sz h0 := by rw [F0.2.2.2.1]; exact h9
  have z4 : gP h0 d 4 ≠ 0 := by rw [eP0]; exact s4
  have z5 : gP h0 d 5 ≠ 0 := by rw [eP0]; exact s5
  have K1 : ∃ z, it (fun q : Int32 × Hp => BX2_addEdition_12 q.2 d q.1) (nI 0, h0) = some z ∧ (z.1 = nI e ∧ ∃ tg', Dy tg h0 tg' z.2 d y ∧ Du tg h0 z.2 d y (fun q => 6 * (e + 1) ≤ q) ∧ ∀ p, p < 6 → RC z.2 d (6 * (e + 1) + p) (Nn m (eB p 0)) (eS m p 0)) := by
    refine it_cnt (fun j s => s.1 = nI j ∧ ∃ tg', Dy tg h0 tg' s.2 d y ∧ Du tg h0 s.2 d y (fun q => 6 * (e + 1) ≤ q) ∧ ∀ p, p < j → RC s.2 d (6 * (e + 1) + p) (Nn m (eB p 0)) (eS m p 0)) 6 (fun j s hj pp => ?_) (fun s pp => ?_) ⟨Eq.refl _, tg, Dy.rfl K0.1 S0, Du.rfl, fun p hp => absurd hp (by omega)⟩
    · obtain ⟨u, g⟩ := s
      obtain ⟨p1, tg1, p2, p3, p4⟩ := pp
      replace p1 : u = nI j := p1
      replace p2 : Dy tg h0 tg1 g d y := p2
      replace p3 : Du tg h0 g d y (fun q => 6 * (e + 1) ≤ q) := p3
      replace p4 : ∀ p, p < j → RC g d (6 * (e + 1) + p) (Nn m (eB p 0)) (eS m p 0) := p4
      subst p1
      obtain ⟨r1, r2, r3, r4⟩ := id p2
      have Kg := r1.rt K0 hd0 h90
      have hdg : d ≤ sz g := by have := r1.2.1; omega
      have h9g : 109 ≤ sz g := by have := r1.2.1; omega
      have rj : RC g d j (Nn m (eB j 0)) (eS m j 0) := by
        have := rc0 j 0 hj (by omega)
        rw [show 6 * 0 + j = j by omega] at this
        exact this.keepU K0 S0 p3 r4 (by omega)
      obtain ⟨j1, j2, j3⟩ := id rj
      obtain ⟨c, hc⟩ : ∃ c, c = gP g (gP g d 4) j := ⟨_, Eq.refl _⟩
      obtain ⟨gk1, ⟨gs4, gs4a, gs4b⟩, ⟨gs5, gs5a, gs5b⟩, gs6⟩ := r3.f
      have n180 := (eB_n B I hj (by omega : 0 < Nn m 6 + 1)).2
      obtain ⟨tg2, g2, y1, y2, y3, y4⟩ := c_takeRow (row := 6 * (e + 1) + j) (c := c) (v3 := nI (Nn m (eB j 0))) Kg hdg h9g r3 (by omega) (by rw [hc]; exact Kg.1.2.2.2.2.2 _ _) (fun cz => by
        rw [hc] at cz ⊢
        have tc := Kg.o cz
        refine ⟨(gs6 j cz).1, (gs6 j cz).2, fun z => ?_, fun z => ?_⟩
        · have := Kg.a gs5
          rw [← z, tc] at this
          have := congrArg List.length this
          simp at this
        · rw [tc] at z
          have := (List.cons.inj z).1
          omega)
      have kk : rwK c (nI (Nn m (eB j 0))) = Nn m (eB j 0) := by
        unfold rwK
        by_cases cz : c = 0
        · rw [if_pos cz]
          by_cases nz : Nn m (eB j 0) = 0
          · exact nz.symm
          · exact absurd (hc.symm.trans cz) (j2 nz)
        · rw [if_neg cz, nCl (by omega)]
          omega
      rw [kk] at y4
      have Ug : Du tg1 g g2 d y (fun q => 6 * (e + 1) ≤ q) := y3.du (by omega)
      refine ⟨(nI (j + 1), g2), ?_, Eq.refl _, tg2, Dy.trans p2 y2, Du.trans p3 Ug r1.2.1 (fun x hx => (r1.2.2.1 x hx).1) r4, fun p hp => ?_⟩
      · show BX2_addEdition_12 g d (nI j) = _
        have gd6 : gI g d 6 = nI (e + 1) := by
          rw [(p3.dd K0 hd0 z4 z5).2.2.1, hh0, gI2, if_pos ⟨Eq.refl _, Eq.refl _⟩]
        unfold BX2_addEdition_12
        simp only [ZL]
        rw [if_neg (nI_ge hj (by omega)), gg_t gk1, gg_t gs4a, gs4b, gg_in (by omega) (by omega), gg_t gs5a, gs5b, gg_in (by omega) (by omega), nCl (by omega), gd6, ← hc, j1, nMul, nAdd, y1, ob_some, nAdd]
      · by_cases z : p = j
        · subst z
          refine y4.cg (fun l hl => ?_)
          rw [hc]
          exact j3 l hl
        · exact (p4 p (by omega)).keep Kg r3 y3 y2.2.2.2 (by omega)
    · obtain ⟨u, g⟩ := s
      obtain ⟨p1, tg1, p2, p3, p4⟩ := pp
      replace p1 : u = nI 6 := p1
      replace p2 : Dy tg h0 tg1 g d y := p2
      replace p3 : Du tg h0 g d y (fun q => 6 * (e + 1) ≤ q) := p3
      replace p4 : ∀ p, p < 6 → RC g d (6 * (e + 1) + p) (Nn m (eB p 0)) (eS m p 0) := p4
      subst p1
      refine ⟨(nI e, g), ?_, Eq.refl _, tg1, p2, p3, p4⟩
      show BX2_addEdition_12 g d (nI 6) = _
      have gd6 : gI g d 6 = nI (e + 1) := by
        rw [(p3.dd K0 hd0 z4 z5).2.2.1, hh0, gI2, if_pos ⟨Eq.refl _, Eq.refl _⟩]
      unfold BX2_addEdition_12 MX2_addEdition_49
      simp only [ZL]
      rw [if_pos (nI_le (Nat.le_refl _) (by omega)), gg_t p2.2.2.1.1, gd6, nSub (by omega), up1_some, Nat.add_sub_cancel]
  obtain ⟨⟨u, g⟩, k2, k3, tg', k4, k5, k6⟩ := K1
  replace k3 : u = nI e := k3
  replace k4 : Dy tg h0 tg' g d y := k4
  replace k5 : Du tg h0 g d y (fun q => 6 * (e + 1) ≤ q) := k5
  replace k6 : ∀ p, p < 6 → RC g d (6 * (e + 1) + p) (Nn m (eB p 0)) (eS m p 0) := k6
  obtain ⟨r1, r2, r3, r4⟩ := id k4
  refine ⟨tg', g, ?_, ⟨(Rx.fr K.1 F0 (fun b hb => ?_)).trans r1, ?_, r3, by rw [r4, eP0]⟩, ?_⟩
  · unfold MX2_addEdition MX2_addEdition_12
    simp only [ZL]
    rw [gg_t k1, g6, nAdd, lt_eq, ← hh0, k2, k3]
  · have hb : b = d := hb
    rw [hb]
    exact ⟨dz, y, Eq.refl _, by rw [K.2.2.1]; exact List.suffix_refl _⟩
  · have := (rmP_fr (r := 0) F0).2
    have := dkP_fr (d := d) F0
    omega
  · have N6 : Nn (edM m e) 6 = e + 1 := by
      unfold Nn edM
      rw [up_at, if_pos (Eq.refl _), nCl (by omega)]
    have o : ∀ y, y ≠ 6 → y < 328492 → edM m e y = m y := fun y h6 hy => edM_o h6 (by omega)
    have sd := k5.dd K0 hd0 z4 z5
    have ga : ∀ j, j ≠ 4 → j ≠ 5 → gP h d j ≠ 0 → gI g (gP h d j) = gI h (gP h d j) := fun j h4 h5 hz => by
      have := (k5.ar K0 h4 h5 (by rw [eP0]; exact hz) z4 z5).2.2.1
      rw [eP0] at this
      rw [this, F0.2.2.2.2.2.2 _ (nd j)]
    obtain ⟨v1, v2, v3, v4, v5⟩ := id V
    obtain ⟨a0, a1, a2, a3, a4, a5, a6, a7, a8, a9, a10, a11⟩ := S
    refine dv_of I'.1 I'.2.2.2.2.1 ?_ ?_ (fun p hp => ?_) (fun p q hp hq => ?_) (fun t ht => ?_)
    · rw [sd.2.2.1, hh0, gI2, if_pos ⟨Eq.refl _, Eq.refl _⟩]
      unfold edM
      rw [up_at, if_pos (Eq.refl _)]
    · rw [sd.2.2.1, hh0, gI2, if_neg (by omega), o 5 (by omega) (by omega)]
      exact v2
    · obtain ⟨w1, w2, w3, w4, -⟩ := v3 p hp
      rw [r4, eP0, ga 0 (by omega) (by omega) a1.1, ga 1 (by omega) (by omega) a2.1, ga 2 (by omega) (by omega) a3.1, ga 3 (by omega) (by omega) a4.1, o _ (by omega) (by omega), o _ (by omega) (by omega), o _ (by omega) (by omega), o _ (by omega) (by omega)]
      exact ⟨w1, w2, w3, w4⟩
    · rw [N6] at hq
      have n180 := (eB_n B I hp (by omega : 0 < Nn m 6 + 1)).2
      have en0 := (eB_n B I hp (by omega : 0 < Nn m 6 + 1)).1
      simp only [eB, if_pos] at n180
      by_cases z : q = e + 1
      · subst z
        have eb : eB p (e + 1) = 328492 + 181 * (6 * e + p) := by unfold eB; rw [if_neg (by omega), Nat.add_sub_cancel]
        have eb0 : eB p 0 = 327382 + 185 * p + 2 := by unfold eB; rw [if_pos (Eq.refl _)]
        have nn : Nn (edM m e) (eB p (e + 1)) = Nn m (eB p 0) := by
          unfold Nn
          rw [eb, edM_c hp, eb0]
        rw [nn]
        refine (k6 p hp).cg (fun l hl => ?_)
        rw [eb0] at hl
        unfold eS
        rw [if_pos (Eq.refl _), if_neg (by omega), Nat.add_sub_cancel, edM_l hp hl n180]
      · have eb : edM m e (eB p q) = m (eB p q) := by
          unfold eB
          by_cases z0 : q = 0
          · rw [if_pos z0]; exact o _ (by omega) (by omega)
          · rw [if_neg z0]; exact edM_o (by omega) (by omega)
        rw [Nn.c eb]
        refine ((rc0 p q hp (by omega)).keepU K0 S0 k5 r4 (by omega)).cg (fun l hl => ?_)
        have l180 := (eB_n B I hp (by omega : q < Nn m 6 + 1)).2
        unfold eS
        by_cases z0 : q = 0
        · rw [if_pos z0, if_pos z0, o _ (by omega) (by omega)]
        · rw [if_neg z0, if_neg z0, edM_o (by omega) (by omega)]
    · rw [Nn.c (o 5 (by omega) (by omega))] at ht
      have t200 := B.f.2.2.2.2.2.1.2
      rw [r4, eP0, ga 7 (by omega) (by omega) a7.1, ga 8 (by omega) (by omega) a8.1, ga 9 (by omega) (by omega) a9.1, ga 10 (by omega) (by omega) a10.1, o _ (by omega) (by omega), o _ (by omega) (by omega), o _ (by omega) (by omega), o _ (by omega) (by omega)]
      exact v5 t ht
end
