/-! a line is cast: the class -/
section
variable {tg : Nat → List Nat} {h h1 g g' : Hp} {m M : Nat → Int32} {r x k q l s i p o d c fr n : Nat} {w : List Nat} {v : Int32}
theorem fp_11 {j : Nat} {v u : Int32} (hj : j ≠ 7) (n5 : gP g r 5 ≠ r) (n6 : gP g r 6 ≠ r) : MX7_findPart (sI g r j v) r u = MX7_findPart g r u := by
  unfold MX7_findPart
  have e7 : gI (sI g r j v) r 7 = gI g r 7 := by rw [gI2, if_neg (fun z => hj z.2.symm)]
  have e6 : ∀ y, gI (sI g r j v) (gP g r 6) y = gI g (gP g r 6) y := fun y => by rw [gI2, if_neg (fun z => n6 z.1)]
  rw [kdQ, lnQ, gPQ, e7]
  simp only [e6]
/-- the fields of a slug written -/
theorem c_cfld (K : Rt tg g r x) (hr : r ≤ sz g) (S : RmS g r) (V : RmV g r m) (hd : d = gP g (gP g r 10) s) (d0 : d ≠ 0) (hs : Nn m 4 ≤ s) (F : Fr (fun b => b = d) g g') (z14 : zO (gI g' d 14)) : RmS g' r ∧ RmV g' r m := by
  have hA := S.2.2.2.2.2.2.1.1
  have td := K.o (k := 10) (j := s) (by rw [← hd]; exact d0)
  rw [← hd] at td
  have Z : Of tg g g' r x 10 s := Of.fr K F hA (fun b hb => by
    have hb : b = d := hb
    rw [hb, td]
    exact ⟨d0, List.suffix_refl _⟩)
  have dS := S.2.2.2.2.2.2.2.2.2.2.2.2.2.2.2.2.2.2.2 s (by rw [← hd]; exact d0)
  rw [← hd] at dS
  refine ⟨S.ob K hr (by omega) Z hA ⟨fun z => by omega, fun z => by omega, fun z => by omega, fun _ => ?_⟩, rv_of10 K hr S V Z hs⟩
  rw [F.2.2.1, ← hd]
  obtain ⟨a1, a2, a3, a4, a5, a6⟩ := dS
  unfold SlS
  rw [F.1, F.2.1, F.2.2.1]
  exact ⟨a1, a2, a3, a4, a5, z14⟩
theorem c_cast (K : Rt tg h r x) (hr : r ≤ sz h) (h9 : 109 ≤ sz h) (S : RmS h r) (V : RmV h r m) (I : MI m) (es0 : s = Nn m 4) (hs : s < 300) (hk : k < Nn m 3) (hc : c = gP h (gP h r 8) k) (n1 : 1 ≤ Nn m (320230 + 183 * k + 29)) (J0 : m (320230 + 183 * k + 33) = nI q) (J1 : m (320230 + 183 * k + 34) = nI l) (J3 : m (320230 + 183 * k + 36) = nI fr) (fr1 : fr ≤ 1) (vq : vP m q) (es : m (130 + 645 * q + 3) = nI 1) (hl : l < Nn m (130 + 645 * q + 4)) (hp : p = gP h (gP h r 5) q) (hw : w = wtL m q l) (hw2 : ∀ j, j < w.length → w.getD j 0 ≤ 122) (n0 : 1 ≤ Nn m 0) (e7 : Nn m 7 = i + 1) (eo : m (130 + 645 * q + 45 + l) = nI o) (ho : o ≤ 300) (HC : Cs (potM m o) M s k q l i (nI fr) w) : ∃ tg' h', MX7_castLine h r (nI k) c p = MX7_castLine_184 h' c ∧ Rx tg h tg' h' (fun y => y = x) ∧ cst h' + rmP h' r ≤ cst h + rmP h r ∧ RmS h' r ∧ RmV h' r M ∧ MI M ∧ gP h' (gP h' r 8) k = c := by
  obtain ⟨⟨g0, f0⟩, -, -, ⟨g3, f3⟩, ⟨g4, f4⟩, -, -, g7', f7'⟩ := I.1.f
  have vb := vq.1
  have J := I.2.1 q vq
  obtain ⟨em4, l4⟩ := J.2.2.2.2.2.1.eq (by omega)
  have hlen : w.length ≤ 401 := by rw [hw]; exact (ln_set I vq es hl).2.2.2.2.2
  -- the machine and the part before
  obtain ⟨c0, cV⟩ := V.2.2.2.2.2.2.2.2.1 k hk
  have cS := S.2.2.2.2.2.2.2.2.2.2.2.2.2.2.2.2.2.2.1 k c0
  rw [← hc] at c0 cV cS
  obtain ⟨j7, j8, j10, -⟩ := cV.2.2.2.2.2.2.2 0 n1
  rw [show 320230 + 183 * k + 33 + 5 * 0 = 320230 + 183 * k + 33 by omega] at j7 j8 j10
  rw [J0] at j7
  rw [show 320230 + 183 * k + 33 + 1 = 320230 + 183 * k + 34 by omega, J1] at j8
  rw [show 320230 + 183 * k + 33 + 3 = 320230 + 183 * k + 36 by omega, J3] at j10
  obtain ⟨p', hp', ep, p0, PS, PV⟩ := c_findPart_t S V I.1 vq
  have epp : p' = p := by rw [hp', hp]
  subst epp
  have w9 : gI h p' 9 = nI (Nn m (130 + 645 * q + 4)) := by rw [PV.2.2.2.2.2.2.2.1, if_pos es, em4]
  obtain ⟨-, ⟨a0, a0k, a0l⟩, ⟨a7, a7k, a7l⟩, ⟨a8, a8k, a8l⟩, ⟨a9, a9k, a9l⟩, ⟨aa, aak, aal⟩, -, -⟩ := id cS
  -- the text
  obtain ⟨d, b1, k1, kr1, kp1, b2', k2, kd2, tg3, b3, k3, A1, A2, A3, A4, A5, A6, A7, A8, ⟨A9, A10⟩, A11, A12, A13, A14⟩ := c_ca1 K hr h9 S V I es0 hs vq es hl hp hw
  have K3 := A1.rt K hr h9
  have hr3 : r ≤ sz b3 := by have := A1.2.1; omega
  have hc3 : c = gP b3 (gP b3 r 8) k := by rw [A5, A6 8 k (by omega)]; exact hc
  have hp3 : p' = gP b3 (gP b3 r 5) q := by rw [A5, A6 5 q (by omega)]; exact hp
  have cS3 := A3.2.2.2.2.2.2.2.2.2.2.2.2.2.2.2.2.2.2.1 k (by rw [← hc3]; exact c0)
  have cV3 := (A4.2.2.2.2.2.2.2.2.1 k hk).2
  rw [← hc3] at cS3 cV3
  obtain ⟨i7, -, i10, -⟩ := cV3.2.2.2.2.2.2.2 0 n1
  rw [show 320230 + 183 * k + 33 + 5 * 0 = 320230 + 183 * k + 33 by omega] at i7 i10
  rw [J0] at i7
  rw [show 320230 + 183 * k + 33 + 3 = 320230 + 183 * k + 36 by omega, J3] at i10
  have PV3 := (A4.2.2.2.2.2.2.2.1 q vq).2
  have PS3 := A3.2.2.2.2.2.2.2.2.2.2.2.2.2.2.2.2.1 q (by rw [← hp3]; exact p0)
  rw [← hp3] at PV3 PS3
  obtain ⟨s0, -, ⟨s7, s7k, s7l⟩, ⟨s8, s8k, s8l⟩, -, ⟨sa, sak, sal⟩, -, -⟩ := id cS3
  -- names
  have td := K3.o (k := 10) (j := s) (by rw [← A7]; exact A8)
  have tc := K3.o (k := 8) (j := k) (by rw [← hc3]; exact c0)
  have tp := K3.o (k := 5) (j := q) (by rw [← hp3]; exact p0)
  rw [← A7] at td
  rw [← hc3] at tc
  rw [← hp3] at tp
  have tr := K3.2.2.1
  have c3 : c ≠ 3 := by rw [hc3]; exact K3.o3
  have t7 := tgc K3.1 s7 c3
  have ta := tgc K3.1 sa c3
  rw [tc] at t7 ta
  have nT : ∀ {a b : Nat}, tg3 a ≠ tg3 b → a ≠ b := fun hn e => hn (by rw [e])
  have ndr : Nq r d := nT (by rw [tr, td]; simp)
  have ndp : Nq p' d := nT (by rw [tp, td]; simp)
  have nd7 : Nq (gP b3 c 7) d := nT (by rw [t7, td]; simp)
  have nda : Nq (gP b3 c 10) d := nT (by rw [ta, td]; simp)
  have kdd : kd b3 d = 7 := by rw [A7]; exact (A3.2.2.2.2.2.2.2.2.2.2.2.2.2.2.2.2.2.2.2 s (by rw [← A7]; exact A8)).1
  obtain ⟨u1, hu1⟩ : ∃ u1, u1 = sI b3 d 5 (nI q) := ⟨_, rfl⟩
  obtain ⟨u2, hu2⟩ : ∃ u2, u2 = sI u1 d 6 (m (70 + q / 5)) := ⟨_, rfl⟩
  obtain ⟨u3, hu3⟩ : ∃ u3, u3 = sI u2 d 7 (nI l) := ⟨_, rfl⟩
  obtain ⟨u4, hu4⟩ : ∃ u4, u4 = sI u3 d 8 (nI k) := ⟨_, rfl⟩
  obtain ⟨u5, hu5⟩ : ∃ u5, u5 = sI u4 d 9 (m 0) := ⟨_, rfl⟩
  obtain ⟨u6, hu6⟩ : ∃ u6, u6 = sI u5 d 14 (nI fr) := ⟨_, rfl⟩
  have F1 : Fr (fun b => b = d) b3 u1 := by rw [hu1]; exact Fr.sI rfl
  have F4 : Fr (fun b => b = d) b3 u4 := by rw [hu4, hu3, hu2]; exact ((F1.trans (Fr.sI rfl)).trans (Fr.sI rfl)).trans (Fr.sI rfl)
  have F5 : Fr (fun b => b = d) b3 u5 := by rw [hu5]; exact F4.trans (Fr.sI rfl)
  have F6 : Fr (fun b => b = d) b3 u6 := by rw [hu6]; exact F5.trans (Fr.sI rfl)
  have dv : ∀ y, gI u6 d y = if y = 14 then nI fr else if y = 9 then m 0 else if y = 8 then nI k else if y = 7 then nI l else if y = 6 then m (70 + q / 5) else if y = 5 then nI q else gI b3 d y := fun y => by
    rw [hu6, gI_sI, if_pos rfl, up_at, hu5, gI_sI, if_pos rfl, up_at, hu4, gI_sI, if_pos rfl, up_at, hu3, gI_sI, if_pos rfl, up_at, hu2, gI_sI, if_pos rfl, up_at, hu1, gI_sI, if_pos rfl, up_at]
  have zfr : zO (nI fr) := by rcases (show fr = 0 ∨ fr = 1 by omega) with z | z <;> (rw [z]; first | exact Or.inl rfl | exact Or.inr rfl)
  obtain ⟨S6, V6⟩ := c_cfld K3 hr3 A3 A4 A7 A8 (by omega) F6 (by rw [dv, if_pos rfl]; exact zfr)
  have K6 := K3.fr F6
  have P6 : gP u6 = gP b3 := F6.2.2.1
  obtain ⟨g7, q1, q2, q3, q4, q5, q6⟩ := c_tka K6 S6 V6 I vq es hl eo ho (p := p') (d := d) (s := s) (by rw [P6]; exact hp3) (by rw [P6]; exact A7) A8 (by omega)
  have K7 := K6.fr q2
  have P7 : gP g7 = gP b3 := q2.gp.trans P6
  obtain ⟨po4, poz, pox, pop⟩ := pot_o I vq es hl eo ho
  obtain ⟨mp, hmp⟩ : ∃ mp, mp = potM m o := ⟨_, rfl⟩
  rw [← hmp] at q4 q5 pox pop HC
  have xb : ∀ y, y < 130 → mp y = m y := fun y hy => pox y (by unfold plX; omega)
  have n0p : Nn mp 0 = Nn m 0 := Nn.c (xb 0 (by omega))
  have n3p : Nn mp 3 = Nn m 3 := Nn.c (xb 3 (by omega))
  have n4p : Nn mp 4 = Nn m 4 := Nn.c (xb 4 (by omega))
  have n7p : Nn mp 7 = Nn m 7 := Nn.c (xb 7 (by omega))
  have vqp : vP mp q := vq.b xb
  have esp : mp (130 + 645 * q + 3) = nI 1 := (pox _ (by unfold plX; omega)).trans es
  have e4p : mp (130 + 645 * q + 4) = m (130 + 645 * q + 4) := pox _ (by unfold plX; omega)
  have hlp : l < Nn mp (130 + 645 * q + 4) := by rw [Nn.c e4p]; exact hl
  have l4p : Nn mp (130 + 645 * q + 4) ≤ 40 := by rw [Nn.c e4p]; exact l4
  have em4p : mp (130 + 645 * q + 4) = nI (Nn mp (130 + 645 * q + 4)) := by rw [Nn.c e4p, e4p]; exact em4
  have hd7 : d = gP g7 (gP g7 r 10) s := by rw [P7]; exact A7
  have hc7 : c = gP g7 (gP g7 r 8) k := by rw [P7]; exact hc3
  obtain ⟨p2, hp2, ep2, -, PS7, PV7⟩ := c_findPart_t q3 q4 q5.1 vqp
  have ep3 : p2 = p' := by rw [hp2, P7]; exact hp3.symm
  subst ep3
  obtain ⟨A4n, A4k, A4l⟩ := PS7.2.2.2.2.2.1
  have w97 : gI g7 p2 9 = nI (Nn mp (130 + 645 * q + 4)) := by rw [PV7.2.2.2.2.2.2.2.1, if_pos esp, em4p]
  have cS7 := q3.2.2.2.2.2.2.2.2.2.2.2.2.2.2.2.2.2.2.1 k (by rw [← hc7]; exact c0)
  rw [← hc7] at cS7
  have dS7 := q3.2.2.2.2.2.2.2.2.2.2.2.2.2.2.2.2.2.2.2 s (by rw [← hd7]; exact A8)
  obtain ⟨r12n, r12k, r12l⟩ := q3.2.2.2.2.2.2.2.1
  obtain ⟨r13n, r13k, r13l⟩ := q3.2.2.2.2.2.2.2.2.1
  obtain ⟨r10n, r10k, r10l⟩ := q3.2.2.2.2.2.2.1
  obtain ⟨A, hA⟩ : ∃ A, A = gP g7 p2 4 := ⟨_, rfl⟩
  obtain ⟨R2, hR2⟩ : ∃ R2, R2 = gP g7 r 12 := ⟨_, rfl⟩
  obtain ⟨R3, hR3⟩ : ∃ R3, R3 = gP g7 r 13 := ⟨_, rfl⟩
  have tA : tg3 A = [4, q, 5, x] := by rw [hA, hp2]; exact K7.q (by rw [← hp2]; exact A4n)
  have tR2 : tg3 R2 = [12, x] := by rw [hR2]; exact K7.a r12n
  have tR3 : tg3 R3 = [13, x] := by rw [hR3]; exact K7.a r13n
  rw [← hA] at A4n A4k A4l
  rw [← hR2] at r12n r12k r12l
  rw [← hR3] at r13n r13k r13l
  have nrd : Nq r d := nT (by rw [tr, td]; simp)
  have nrA : Nq r A := nT (by rw [tr, tA]; simp)
  have nr2 : Nq r R2 := nT (by rw [tr, tR2]; simp)
  have nr3 : Nq r R3 := nT (by rw [tr, tR3]; simp)
  have nrc : Nq r c := nT (by rw [tr, tc]; simp)
  have ndA : Nq d A := nT (by rw [td, tA]; simp)
  have nd2 : Nq d R2 := nT (by rw [td, tR2]; simp)
  have nd3 : Nq d R3 := nT (by rw [td, tR3]; simp)
  have ndc : Nq d c := nT (by rw [td, tc]; simp)
  have nA2 : Nq A R2 := nT (by rw [tA, tR2]; simp)
  have nA3 : Nq A R3 := nT (by rw [tA, tR3]; simp)
  have nAc : Nq A c := nT (by rw [tA, tc]; simp)
  have n23 : Nq R2 R3 := nT (by rw [tR2, tR3]; simp)
  have n2c : Nq R2 c := nT (by rw [tR2, tc]; simp)
  have n3c : Nq R3 c := nT (by rw [tR3, tc]; simp)
  obtain ⟨W, hW⟩ : ∃ W, W = (Nn m 0 - 1) % 8 * 4 + k := ⟨_, rfl⟩
  have hW32 : W < 32 := by omega
  obtain ⟨v1, hv1⟩ : ∃ v1, v1 = sI g7 r 11 (nI (s + 1)) := ⟨_, rfl⟩
  obtain ⟨v2, hv2⟩ : ∃ v2, v2 = sI v1 d 10 (nI 0) := ⟨_, rfl⟩
  obtain ⟨v3, hv3⟩ : ∃ v3, v3 = sI v2 d 12 (nI q) := ⟨_, rfl⟩
  obtain ⟨v4, hv4⟩ : ∃ v4, v4 = sI v3 d 11 (nI l) := ⟨_, rfl⟩
  obtain ⟨v5, hv5⟩ : ∃ v5, v5 = sI v4 A l (nI s) := ⟨_, rfl⟩
  obtain ⟨v6, hv6⟩ : ∃ v6, v6 = sI v5 R2 W (nI s) := ⟨_, rfl⟩
  obtain ⟨v7, hv7⟩ : ∃ v7, v7 = sI v6 R3 W (nI s) := ⟨_, rfl⟩
  obtain ⟨v8, hv8⟩ : ∃ v8, v8 = sI v7 c 4 (gI g7 c 4 + nI 1) := ⟨_, rfl⟩
  have G1 : Ft tg3 (csT x s q k) g7 v1 := by rw [hv1]; exact Ft.sI K7.2.2.2.2 (by rw [tr]; unfold csT; simp)
  have Gd : ∀ {a : Hp} {y : Nat} {u : Int32}, Ft tg3 (csT x s q k) a (sI a d y u) := fun {a y u} => Ft.sI A8 (by rw [td]; unfold csT; simp)
  have G5 : Ft tg3 (csT x s q k) g7 v5 := by
    rw [hv5, hv4, hv3, hv2]
    exact (((G1.trans Gd).trans Gd).trans Gd).trans (Ft.sI A4n (by rw [tA]; unfold csT; simp))
  have G6 : Ft tg3 (csT x s q k) g7 v6 := by rw [hv6]; exact G5.trans (Ft.sI r12n (by rw [tR2]; unfold csT; simp))
  have G7 : Ft tg3 (csT x s q k) g7 v7 := by rw [hv7]; exact G6.trans (Ft.sI r13n (by rw [tR3]; unfold csT; simp))
  have G8 : Ft tg3 (csT x s q k) g7 v8 := by rw [hv8]; exact G7.trans (Ft.sI c0 (by rw [tc]; unfold csT; simp))
  -- values
  have vr1 : ∀ y, gI v1 r y = if y = 11 then nI (s + 1) else gI g7 r y := fun y => by rw [hv1, gI_sI, if_pos rfl, up_at]
  have vr5 : gI v5 r = gI v1 r := by rw [hv5, gI_sI, if_neg nrA.n, hv4, gI_sI, if_neg nrd.n, hv3, gI_sI, if_neg nrd.n, hv2, gI_sI, if_neg nrd.n]
  have vr6 : gI v6 r = gI v1 r := by rw [hv6, gI_sI, if_neg nr2.n, vr5]
  have vr8 : ∀ y, gI v8 r y = if y = 11 then nI (s + 1) else gI g7 r y := fun y => by rw [hv8, gI_sI, if_neg nrc.n, hv7, gI_sI, if_neg nr3.n, vr6, vr1]
  have vd1 : gI v1 d = gI g7 d := by rw [hv1, gI_sI, if_neg nrd.symm.n]
  have vd8 : ∀ y, gI v8 d y = if y = 11 then nI l else if y = 12 then nI q else if y = 10 then nI 0 else gI u6 d y := fun y => by
    rw [hv8, gI_sI, if_neg ndc.n, hv7, gI_sI, if_neg nd3.n, hv6, gI_sI, if_neg nd2.n, hv5, gI_sI, if_neg ndA.n, hv4, gI_sI, if_pos rfl, up_at, hv3, gI_sI, if_pos rfl, up_at, hv2, gI_sI, if_pos rfl, up_at, vd1, q6]
  have vA8 : ∀ y, gI v8 A y = if y = l then nI s else gI g7 A y := fun y => by
    rw [hv8, gI_sI, if_neg nAc.n, hv7, gI_sI, if_neg nA3.n, hv6, gI_sI, if_neg nA2.n, hv5, gI_sI, if_pos rfl, up_at, hv4, gI_sI, if_neg ndA.symm.n, hv3, gI_sI, if_neg ndA.symm.n, hv2, gI_sI, if_neg ndA.symm.n, hv1, gI_sI, if_neg nrA.symm.n]
  have v28 : ∀ y, gI v8 R2 y = if y = W then nI s else gI g7 R2 y := fun y => by
    rw [hv8, gI_sI, if_neg n2c.n, hv7, gI_sI, if_neg n23.n, hv6, gI_sI, if_pos rfl, up_at, hv5, gI_sI, if_neg nA2.symm.n, hv4, gI_sI, if_neg nd2.symm.n, hv3, gI_sI, if_neg nd2.symm.n, hv2, gI_sI, if_neg nd2.symm.n, hv1, gI_sI, if_neg nr2.symm.n]
  have v38 : ∀ y, gI v8 R3 y = if y = W then nI s else gI g7 R3 y := fun y => by
    rw [hv8, gI_sI, if_neg n3c.n, hv7, gI_sI, if_pos rfl, up_at, hv6, gI_sI, if_neg n23.symm.n, hv5, gI_sI, if_neg nA3.symm.n, hv4, gI_sI, if_neg nd3.symm.n, hv3, gI_sI, if_neg nd3.symm.n, hv2, gI_sI, if_neg nd3.symm.n, hv1, gI_sI, if_neg nr3.symm.n]
  have vc7 : gI v7 c = gI g7 c := by
    rw [hv7, gI_sI, if_neg n3c.symm.n, hv6, gI_sI, if_neg n2c.symm.n, hv5, gI_sI, if_neg nAc.symm.n, hv4, gI_sI, if_neg ndc.symm.n, hv3, gI_sI, if_neg ndc.symm.n, hv2, gI_sI, if_neg ndc.symm.n, hv1, gI_sI, if_neg nrc.symm.n]
  have vc8 : ∀ y, gI v8 c y = if y = 4 then gI g7 c 4 + nI 1 else gI g7 c y := fun y => by rw [hv8, gI_sI, if_pos rfl, up_at, vc7]
  -- it lies
  have r5n := q3.2.2.2.1.1
  have r6n := q3.2.2.2.2.1.1
  have n5r : Nq (gP g7 r 5) r := nT (by rw [K7.a r5n, tr]; simp)
  have n6r : Nq (gP g7 r 6) r := nT (by rw [K7.a r6n, tr]; simp)
  have gv1 : gP v1 = gP g7 := by rw [hv1, gPQ]
  have kv1 : kd v1 = kd g7 := by rw [hv1, kdQ]
  have lv1 : ln v1 = ln g7 := by rw [hv1, lnQ]
  have ly : MX7_layAt v1 r (nI s) (nI q) (nI l) = some v5 := by
    have fs : MX7_findSlug v1 r (nI s) = some d := by
      unfold MX7_findSlug
      rw [if_neg (nI_pos (by omega)), kv1, lv1, gv1, gg_t q3.1, vr1, if_pos rfl, if_pos (nI_lt (by omega) (by omega)), gg_t r10k, r10l, gg_in (by omega) (by omega), nCl (by omega), ← hd7]
    have fp : MX7_findPart v1 r (nI q) = some p2 := by rw [hv1, fp_11 (by omega) n5r.n n6r.n]; exact ep2
    have w91 : gI v1 p2 9 = nI (Nn mp (130 + 645 * q + 4)) := by rw [hv1, gI_sI, if_neg (nT (by rw [tp, tr]; simp))]; exact w97
    unfold MX7_layAt
    rw [kv1, gg_t q3.1, fs, ob_some, fp, ob_some, if_neg A8, if_neg p0, gg_t PS7.1, c_hasLine_t (by rw [kv1]; exact PS7.1) w91 (by omega) hlp, ob_some, if_neg (by decide)]
    simp only [ZL]
    rw [gg_t (show kd g7 d = 7 by rw [hd7]; exact dS7.1), lt_eq, ← hv2, lt_eq, ← hv3, lt_eq, ← hv4, gv1, ← hA, gg_t A4k, lv1, A4l, gg_in (by omega) (by omega), nCl (by omega), lt_eq, ← hv5]
  have e0m : m 0 = nI (Nn m 0) := g0
  have vr0 : gI g7 r 0 = nI (Nn m 0) := by rw [q4.1, xb 0 (by omega)]; exact e0m
  have ewd : (((nI (Nn m 0) - nI 1) - (nI (Nn m 0) - nI 1) / nI 8 * nI 8) * nI 4) + nI k = nI W := by
    rw [nSub n0, nDiv (by omega) (by omega) (by omega), nMul, nSub (by omega), nMul, nAdd, hW]
    exact congrArg nI (by omega)
  have X8 : SlX g7 v8 mp d k q l (nI fr) w := by
    have P67 : gP g7 = gP u6 := q2.gp
    have t0 := K7.q (k := 10) (j := s) (i := 0) (by rw [← hd7]; exact (by rw [hd7]; exact dS7.2.1.1))
    have t1 := K7.q (k := 10) (j := s) (i := 1) (by rw [← hd7]; exact (by rw [hd7]; exact dS7.2.2.1.1))
    rw [← hd7] at t0 t1
    have eq0 : gI g7 (gP g7 d 0) = gI b3 (gP b3 d 0) := by
      have w1 : ¬ pT x (tg3 (gP g7 d 0)) := by rw [t0]; simp [pT]
      rw [(Ft.same q2 w1).2.2.1, F6.2.2.2.2.2.2 _ (nT (by rw [t0, td]; simp)), P7]
    have eq1 : gI g7 (gP g7 d 1) = gI b3 (gP b3 d 1) := by
      have w1 : ¬ pT x (tg3 (gP g7 d 1)) := by rw [t1]; simp [pT]
      rw [(Ft.same q2 w1).2.2.1, F6.2.2.2.2.2.2 _ (nT (by rw [t1, td]; simp)), P7]
    have el7 : ln g7 = ln b3 := q2.el.trans F6.2.1
    have D : ∀ y, y ≠ 10 → y ≠ 11 → y ≠ 12 → gI v8 d y = gI u6 d y := fun y h1 h2 h3 => by rw [vd8, if_neg h2, if_neg h3, if_neg h1]
    have D2 : ∀ y, y < 5 ∨ y = 13 → gI u6 d y = gI b3 d y := fun y hy => by rw [dv, if_neg (by rcases hy with z | z <;> omega), if_neg (by rcases hy with z | z <;> omega), if_neg (by rcases hy with z | z <;> omega), if_neg (by rcases hy with z | z <;> omega), if_neg (by rcases hy with z | z <;> omega), if_neg (by rcases hy with z | z <;> omega)]
    unfold SlX
    rw [D 5 (by decide) (by decide) (by decide), D 8 (by decide) (by decide) (by decide), D 9 (by decide) (by decide) (by decide), D 3 (by decide) (by decide) (by decide), D 14 (by decide) (by decide) (by decide), D 7 (by decide) (by decide) (by decide), D 2 (by decide) (by decide) (by decide), D 13 (by decide) (by decide) (by decide), D 6 (by decide) (by decide) (by decide), D 4 (by decide) (by decide) (by decide), D2 3 (Or.inl (by decide)), D2 2 (Or.inl (by decide)), D2 4 (Or.inl (by decide)), D2 13 (Or.inr rfl), eq0, eq1, el7, P7, xb 0 (by decide), pox (70 + q / 5) (by unfold plX; omega)]
    refine ⟨by rw [dv]; rfl, by rw [dv]; rfl, by rw [dv]; rfl, A12, by rw [vd8]; rfl, by rw [vd8]; rfl, by rw [vd8]; rfl, by rw [dv]; rfl, by rw [dv]; rfl, A11, A14, by rw [dv]; rfl, A9, A10, A13⟩
  have RM := cs_rm K7 q3 q4 q5 (by rw [n4p]; exact es0) hs (by rw [n3p]; exact hk) vqp esp hlp (by rw [n0p]; exact n0) (by rw [n7p]; exact e7) hlen HC G8 vr8 (by rw [← hd7]; exact A8) dS7 (by rw [← hd7]; exact X8) zfr (by rw [← hp2, ← hA]; exact vA8) (by rw [← hR2, n0p, ← hW]; exact v28) (by rw [← hR3, n0p, ← hW]; exact v38) (by rw [← hc7]; exact vc8)
  refine ⟨tg3, v8, ?_, ?_, ?_, ?_, ?_, ?_, ?_⟩
  · have k3' : gI u1 p2 7 = m (70 + q / 5) := by rw [F1.2.2.2.2.2.2 _ ndp.n]; exact PV3.2.2.1
    have k4' : gI u4 r 0 = m 0 := by rw [F4.2.2.2.2.2.2 _ ndr.n]; exact A4.1
    have k5' : gI u5 (gP b3 c 10) 0 = nI fr := by rw [F5.2.2.2.2.2.2 _ nda.n]; exact i10
    have z5' : zOk (nI fr) = true := by rcases (show fr = 0 ∨ fr = 1 by omega) with z | z <;> (rw [z]; decide)
    have y11 : gI g7 r 11 = nI s := by rw [q4.2.2.2.2.1, xb 4 (by omega), g4, es0]
    have kv5 : kd v5 = kd g7 := G5.ek
    have lv5 : ln v5 = ln g7 := G5.el
    have gv5 : gP v5 = gP g7 := G5.gp
    unfold MX7_castLine
    simp only [ZL]
    rw [gg_t cS.1, gg_t a8k, a8l, gg_in (by omega) (by omega), gg_t PS.1, nCl (by omega), j8, c_hasLine_t PS.1 w9 (by omega) hl, ob_some, if_neg (by decide), gg_t S.1, k1, b2_some, gg_t kr1, gg_t kp1, k2, b2_some, gg_t kd2, k3, ob_some]
    rw [gg_t cS3.1, gg_t s7k, s7l, gg_in (by omega) (by omega), gg_t kdd, i7, lt_eq, ← hu1, gg_t PS3.1, k3', lt_eq, ← hu2, lt_eq, ← hu3, lt_eq, ← hu4, gg_t A3.1, k4', lt_eq, ← hu5, gg_t sak, sal, gg_in (by omega) (by omega), k5', gg_t z5', lt_eq, ← hu6, q1, ob_some]
    rw [gg_t q3.1, y11, nAdd, lt_eq, ← hv1, gg_t (show kd g7 d = 7 by rw [hd7]; exact dS7.1), vr1, if_pos rfl, nSub (by omega), Nat.add_sub_cancel, vd1, q6, dv, if_neg (by decide), if_neg (by decide), if_neg (by decide), if_neg (by decide), if_neg (by decide), if_pos rfl, ly, ob_some]
    rw [kv5, lv5, gv5, gg_t q3.1, vr5, vr1, if_neg (by decide), vr0, ewd, lt_eq, ← hR2, gg_t r12k, r12l, gg_in (by omega) (by omega), nCl (by omega), vr1, if_pos rfl, nSub (by omega), Nat.add_sub_cancel, lt_eq, ← hv6, ← hR3, gg_t r13k, r13l, gg_in (by omega) (by omega), vr6, vr1, if_pos rfl, nSub (by omega), Nat.add_sub_cancel, lt_eq, ← hv7, gg_t cS7.1, vc7, lt_eq, ← hv8]
  · have R6 : Rx tg3 b3 tg3 u6 (fun y => y = x) := Rx.fr K3.1 F6 (fun b hb => by
      have hb : b = d := hb
      rw [hb, td]
      exact ⟨A8, x, rfl, List.suffix_append [s, 10] [x]⟩)
    have R7 : Rx tg3 u6 tg3 g7 (fun y => y = x) := Rx.fr K6.1 q2 (fun b hb => ⟨hb.1, x, rfl, by
      rcases hb.2 with ⟨y, z⟩ | ⟨y, z⟩
      · rw [z]; exact List.suffix_append [4, y, 5] [x]
      · rw [z]; exact List.suffix_append [y, 10] [x]⟩)
    have R8 : Rx tg3 g7 tg3 v8 (fun y => y = x) := Rx.fr K7.1 G8 (fun b hb => ⟨hb.1, x, rfl, by
      rcases hb.2 with z | z | z | z | z | z
      · rw [z]; exact List.suffix_refl _
      · rw [z]; exact List.suffix_append [s, 10] [x]
      · rw [z]; exact List.suffix_append [4, q, 5] [x]
      · rw [z]; exact List.suffix_append [12] [x]
      · rw [z]; exact List.suffix_append [13] [x]
      · rw [z]; exact List.suffix_append [k, 8] [x]⟩)
    exact ((A1.trans R6).trans R7).trans R8
  · have y1 := rmP_fr (r := r) F6
    have y2 := rmP_fr (r := r) q2
    have y3 := rmP_fr (r := r) G8
    omega
  · exact RM.1
  · exact RM.2
  · exact cs_mi q5 (by rw [n4p]; exact es0) hs (by rw [n3p]; exact hk) vqp esp hlp pop (by rw [n0p]; exact n0) (by omega) ⟨fr, fr1, HC.2.1.2.2.2.2.2.2.2.1⟩ hlen hw2 HC
  · rw [G8.gp]; exact hc7.symm
end
