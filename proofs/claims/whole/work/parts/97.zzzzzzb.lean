/-! correct: its end on both sides -/
section
variable {tg : Nat → List Nat} {h h' h4 g z : Hp} {m k t t0 : Nat → Int32} {i n0 f0 : Int32} {a p c q f f2 w l : Nat} {b : Nat → Nat} {s0 s : TX} {v1 v2 v3 v4 v5 v6 : Int32} {cm' : Nat → Nat} {X : Option ((Int32 ⊕ Nat) × Hp)} {Y : Hp → Option (Int32 × Hp)}
theorem r_219n (R : RSt g m k i t n0 f0) (e0 : gI g 73 0 = nI 0) (hq : q < 100) (u3 : m (130 + 645 * q + 3) = nI 0) : MX12_correct_219 g 73 v1 v2 v3 (nI (130 + 645 * q)) v5 v6 = Option.bind (MX12_changes g 73 (nI (130 + 645 * q)) v2 v5 v6) (fun h => some (nI 0, h)) := by
  unfold MX12_correct_219
  simp only [ZL, RS.f R.1]
  rw [gg_T, e0, if_pos (nI_le (Nat.le_refl _) (by omega)), gg_T, nAdd, gg_in (by omega) (by omega), nCl (by omega), R.2.1, u3, if_pos rfl]
theorem r_703 {op nl sn N : Nat} (R : RSt z m k i t n0 f0) (e0 : gI z 73 0 = nI 0) (hk : a < 4) (h1 : op ≤ nl) (h2 : sn ≤ nl - op) (h3 : nl ≤ 40) (e29 : m (320230 + 183 * a + 29) = nI N) (n30 : N < 30) : ∃ h2, MX12_correct_703 z 73 (nI q) (nI a) (nI op) (nI nl) (nI sn) = some (nI (nl - sn - op), h2) ∧ Fr Rc z h2 ∧ RSt h2 (if nl - sn ≤ op then m else jbM m a N q op (nl - sn) 1 0) k i t n0 f0 ∧ gI h2 73 0 = nI 0 := by
  unfold MX12_correct_703
  simp only [ZL]
  rw [nSub h1, nSub h2, show nl - op - sn = nl - sn - op by omega]
  by_cases c : nl - sn ≤ op
  · rw [if_pos (nI_le (show nl - sn - op ≤ 0 by omega) (by omega)), if_pos c]
    exact ⟨z, rfl, Fr.rfl, R, e0⟩
  · obtain ⟨z2, k1, k2, k3, k4⟩ := r_queues (q := q) (a := op) (b := nl - sn) (fr := 1) (e := 0) R hk e29 n30
    rw [if_neg (nI_ge (show 0 < nl - sn - op by omega) (by omega)), if_neg c, gg_t (RS.f R.1).1, nAdd, show op + (nl - sn - op) = nl - sn by omega, k1, b2_some]
    exact ⟨z2, rfl, k2, k3, by rw [k4]; exact e0⟩
/-- the call goes through -/
theorem cor_end (C : CSt tg h m k i t0 n0 f0) (R : RSt h m k i t0 n0 f0) (F4 : Fr (fun b => b = 1 ∨ b = 2) h h4) (C4 : CSt tg h4 m k i t (nI 0) (-nI 1)) (vq : vP m q) (hk : a < Nn m 3) (hp : p = gP h4 (gP h4 19 5) q) (p0 : p ≠ 0) (hc : c = gP h4 (gP h4 19 8) a) (hw : w < Nn m (130 + 645 * q)) (F : FW m q w f) (F2 : FW m q (w + 1) f2) (T0 : TI 1 1 (Nn m (130 + 645 * q + 1) - (f2 - f)) s0) (z1 : s0.2.1 = 0) (z2 : s0.2.2.1 = false) (z3 : tp s0 = 0) (z4 : tw s0 = 0) (z0 : s0.1 = 0) (hl : l ≤ 400) (hbt : ∀ i, i < l → gI h4 2 i = bS (b i) ∧ b i ≤ 255) (es : ruT 1 1 (Nn m (130 + 645 * q + 1) - (f2 - f)) b s0 l = .inr s) (ebh : s.2.2.1 = false) (etw : 0 < tw s) (n30 : Nn m (320230 + 183 * a + 29) < 30) (jq : m (130 + 645 * q + 3) = nI 1 → jQ m q = false) (hX : X = MX11_correct_131 h4 1 (nI q) (nI w) (nI l) p c) (hY : ∀ h', RSt h' m k i t0 n0 f0 → (∀ y, 78 ≤ y → y ≤ 82 → gI h' y = gI h y) → ∃ g, Y h' = MX12_correct_219 g 73 (nI q) (nI w) (nI a) (nI (130 + 645 * q)) (nI f) (nI (f2 - f)) ∧ Fr Rc h' g ∧ RSt g m k i t (nI 0) (-nI 1) ∧ gI g 73 0 = nI 0 ∧ gI g 79 = s.2.2.2.2.2.2.1 ∧ gI g 80 = s.2.2.2.2.2.2.2 ∧ gI g 81 0 = nI (tp s)) : Pr cm' Gm h X Y := by
  obtain ⟨O4, X4, X24, S4, V4, -, -, I, -, -, -⟩ := id C4
  have q1 := vq.1
  have J := I.2.1 q vq
  obtain ⟨b3, b3'⟩ := I.1.f.2.2.2.1
  obtain ⟨e29, l29⟩ := (I.2.2.2.1 a hk).2.2.2.1.eq (by omega)
  obtain ⟨M1, hM1⟩ : ∃ M1, M1 = chM m (130 + 645 * q) f f2 (tp s) (Nn m (130 + 645 * q + 1)) (nI w) s.2.2.2.2.2.2.1 s.2.2.2.2.2.2.2 := ⟨_, rfl⟩
  obtain ⟨s1, Ts, g0, k1, G, og, Og, Xg, X2g, Sg, Vg, P13, PV0, PX⟩ := cor_pw C4 vq hp p0 hw F F2 T0 z1 z2 z3 z4 z0 hl hbt es ebh etw hM1
  obtain ⟨CM, Hc, ff, f2n, h40⟩ := cor_m V4 I vq hw F F2 Ts s1 etw hM1
  obtain ⟨H0, Ha, I1, Z1, C1, fn, fP⟩ := id CM
  obtain ⟨c', hc', ec, c0, cS, cV⟩ := c_findMachine_t S4 V4 I.1 hk
  rw [← hc] at hc'
  replace hc' := hc'.symm
  subst hc'
  have P13h : PtS h4 13 := X24.2.2.2.2.2.2.2.2.2.2.2.2.2
  have kg : kd g0 = kd h4 := G.ek
  have hX2 : X = b2 (MX7_correctWith g0 19 (nI q) (nI w) 13 c) fun (t37 : Int32) (h36 : Hp) => some (.inl t37, h36) := by
    rw [hX]
    unfold MX11_correct_131
    simp only [ZL]
    rw [gg_t cS.1, cV.2.2.2.1, e29, if_pos (nI_lt n30 (by omega)), gg_t X4.1, X4.f.2.2.2.2.2.2.2.2.2.2.2.1, gg_t P13h.1, X4.2.1, k1, ob_some, gg_t Xg.1, X5 Xg, gg_t Sg.1, Xg.f.2.2.2.2.2.2.2.2.2.2.2.1]
  obtain ⟨x3, hx3, e3⟩ := J.2.2.2.2.1
  have tags : ∀ y, (y ≠ 0 ∧ ([5] <:+ tg y ∨ [4] <:+ tg y)) → (y ≠ 0 ∧ ([5] <:+ tg y ∨ [4] <:+ tg y)) := fun y hy => hy
  have FcT : ∀ {h1 : Hp}, Ft tg (cT q) h4 h1 → Fr (fun b => b ≠ 0 ∧ ([5] <:+ tg b ∨ [4] <:+ tg b)) h4 h1 := fun {h1} A => Fr.mono A (fun y hy => ⟨hy.1, cT_sf hy.2⟩)
  rcases (show x3 = 0 ∨ x3 = 1 by omega) with rfl | rfl
  · obtain ⟨h1, y1, y2, y3, y4, y5, y6⟩ := cor_n (cc := c) C4 vq hp p0 CM e3 G og Sg Vg P13 PV0 Og Xg X2g (ww := nI w)
    refine Pr.sp (m' := M1) C R F4 C4 (nI 0) (by rw [hX2, y1, b2_some]) (FcT y2) tags y3 y4 y5 y6 (fun y hy => H0 y (by unfold rgDk at hy; omega) (by unfold rgDk at hy; omega)) fun h' R' e => ?_
    obtain ⟨g, a1, a2, a3, a4, a5, a6, a7⟩ := hY h' R' e
    obtain ⟨g', d1, d2, d3⟩ := r_changes (Ln := s.2.2.2.2.2.2.1) (Lt := s.2.2.2.2.2.2.2) (f := f) (f2 := f2) (pc := tp s) (n := Nn m (130 + 645 * q + 1)) (w := nI w) a3.1 a3.2.1 (B := 130 + 645 * q) (by omega) ff f2n (J.2.1.eq (by omega)).2 h40 (J.2.1.eq (by omega)).1 a5 a6 a7
    rw [← hM1] at d3
    have o := fun y hy => d2.2.2.2.2.2.2 y hy
    refine ⟨g', by rw [a1, r_219n a3 a4 q1 e3, d1, ob_some], a2.trans (d2.mono (fun y hy => by unfold Rc; unfold F99 at hy; omega)), ⟨a3.1.fr d2, d3, by rw [o 75 (by unfold F99; omega)]; exact a3.2.2.1, by rw [o 73 (by unfold F99; omega)]; exact a3.2.2.2.1, by rw [o 77 (by unfold F99; omega)]; exact a3.2.2.2.2.1, by rw [o 73 (by unfold F99; omega)]; exact a3.2.2.2.2.2.1, by rw [o 73 (by unfold F99; omega)]; exact a3.2.2.2.2.2.2⟩, by rw [o 73 (by unfold F99; omega)]; exact a4⟩
  · have jq' := jq e3
    have eP : gP g0 = gP h4 := G.gp
    obtain ⟨p', hp', -, -, PSg, PVg⟩ := c_findPart_t Sg Vg I.1 vq
    rw [eP, ← hp] at hp'
    replace hp' := hp'.symm
    subst hp'
    obtain ⟨f', fb1, fb2⟩ := c_fBit (w := w) PSg PVg J (by omega)
    have := FW_u fb2 F
    subst this
    obtain ⟨op, lo1, Op⟩ := c_lineOf PSg PVg J e3 fn
    obtain ⟨cn, cs⟩ := cor_s (cc := c) C4 vq hp p0 CM e3 jq' G Sg Vg P13 PX Og Xg X2g fb1 Op
    have rS : ∀ g, RSt g m k i t (nI 0) (-nI 1) → gI g 73 0 = nI 0 → gI g 79 = s.2.2.2.2.2.2.1 → gI g 80 = s.2.2.2.2.2.2.2 → gI g 81 0 = nI (tp s) → _ := fun g a3 a4 a5 a6 a7 => r_corS (g := g) (w := w) (v3 := nI a) a3 a4 I vq e3 a5 a6 a7 ff f2n h40 hM1 I1 Z1 C1 H0 Ha fn fP Op
    cases hv : wyT M1 q (m 0) (bgN m q op) with
    | none =>
      obtain ⟨h1, y1, y2, y3, y4, y5⟩ := cn hv
      refine Pr.sp (m' := m) C R F4 C4 (-nI 1) (by rw [hX2, y1, b2_some]) y2 tags y3 y4 y5 I (fun y hy => rfl) fun h' R' e => ?_
      obtain ⟨g, a1, a2, a3, a4, a5, a6, a7⟩ := hY h' R' e
      obtain ⟨z, d1, d2, d3, d4⟩ := (rS g a3 a4 a5 a6 a7).1 hv
      exact ⟨z, by rw [a1, d1], a2.trans d2, d3, d4⟩
    | some v =>
      obtain ⟨M2, hM2⟩ : ∃ M2, M2 = clM M1 q op v.2.1 (lnB M1 q (m 0) (bgN m q op)) := ⟨_, rfl⟩
      obtain ⟨nl, hnl⟩ : ∃ nl, nl = op + v.2.1 := ⟨_, rfl⟩
      obtain ⟨sn, hsn⟩ : ∃ sn, sn = fsB (tEq m M2 q (Nn m (130 + 645 * q + 4)) nl) (min (Nn m (130 + 645 * q + 4)) nl - op) 0 := ⟨_, rfl⟩
      obtain ⟨M3, hM3⟩ : ∃ M3, M3 = laM m M2 q op (Nn m (130 + 645 * q + 4)) nl sn (Nn m (130 + 645 * q + 4)) := ⟨_, rfl⟩
      obtain ⟨h1, y1, y2, y3, y4, y5, y6, sl, ol, n40, m3, m4, hM⟩ := cs v hv M2 nl sn hM2 hnl hsn
      rw [← hM3] at y4 y6
      have l3o : ∀ y, (y < 130 + 645 * q + 45 ∨ 130 + 645 * q + 85 ≤ y) → ¬ slX y → M3 y = M2 y := fun y u1 u2 => by
        rw [hM3]; exact la_o u1 n40 u2
      have H3 : ∀ y, (y < 130 ∨ 320230 ≤ y) → M3 y = m y := fun y hy => by
        rw [l3o y (by omega) (by unfold slX; omega), hM y (by omega)]
      have rg : ∀ y, rgDk y → M3 y = m y := fun y hy => H3 y (by unfold rgDk at hy; omega)
      have ref : ∀ h', RSt h' m k i t0 n0 f0 → (∀ y, 78 ≤ y → y ≤ 82 → gI h' y = gI h y) → ∃ h2, Y h' = some (nI (nl - sn - op), h2) ∧ Fr Rc h' h2 ∧ RSt h2 (if nl - sn ≤ op then M3 else jbM M3 a (Nn m (320230 + 183 * a + 29)) q op (nl - sn) 1 0) k i t (nI 0) (-nI 1) ∧ gI h2 73 0 = nI 0 := fun h' R' e => by
        obtain ⟨g, a1, a2, a3, a4, a5, a6, a7⟩ := hY h' R' e
        obtain ⟨z, d1, d2, d3, d4⟩ := (rS g a3 a4 a5 a6 a7).2 v hv M2 nl sn hM2 hnl hsn
        rw [← hM3] at d3
        obtain ⟨z2, x1, x2, x3, x4⟩ := r_703 (q := q) (op := op) (nl := nl) (sn := sn) d3 d4 (show a < 4 by omega) ol sl n40 ((H3 _ (by omega)).trans e29) n30
        exact ⟨z2, by rw [a1, d1, x1], (a2.trans d2).trans x2, x3, x4⟩
      have C9 : CSt tg h1 M3 k i t (nI 0) (-nI 1) := C4.sp y2 tags y3 y4 y5 y6 rg
      by_cases cz : nl - sn ≤ op
      · rw [if_pos (nI_le cz (by omega)), nSub (by omega)] at y1
        refine Pr.sp (m' := M3) C R F4 C4 (nI (nl - sn - op)) (by rw [hX2, y1, b2_some]) y2 tags y3 y4 y5 y6 rg fun h' R' e => ?_
        have := ref h' R' e
        rw [if_pos cz] at this
        exact this
      · rw [if_neg (nI_ge (by omega) (by omega)), nSub (by omega)] at y1
        have vq3 : vP M3 q := vq.b (fun x hx => H3 x (by omega))
        have N3 : Nn M3 (320230 + 183 * a + 29) = Nn m (320230 + 183 * a + 29) := Nn.c (H3 _ (by omega))
        have n3 : Nn M3 3 = Nn m 3 := Nn.c (H3 3 (by omega))
        have u3' : M3 (130 + 645 * q + 3) = nI 1 := by rw [l3o _ (by omega) (by unfold slX; omega)]; exact m3
        have u4' : Nn M3 (130 + 645 * q + 4) = nl := by
          unfold Nn
          rw [l3o _ (by omega) (by unfold slX; omega), m4, nCl (by omega)]
        obtain ⟨c', hc', -, -, k3, -, h2, j1, j2, jF, jS, jV⟩ := ma_add (k := a) (n := Nn m (320230 + 183 * a + 29)) (q := q) (a := op) (b := nl - sn) (bv := nI (nl - sn)) (fr := 1) (e := 0) C9 (by rw [n3]; exact hk) N3.symm n30 vq3 (by omega) (by omega) (by rw [if_neg (by omega)])
        have eP1 : gP h1 = gP h4 := y2.2.2.1
        rw [eP1, ← hc] at hc'
        subst hc'
        have IM : MI (jbM M3 a (Nn m (320230 + 183 * a + 29)) q op (nl - sn) 1 0) := jb_mi y6 (by rw [n3]; exact hk) N3.symm n30 vq3 (by omega) (by omega) (by omega) (by omega) (fun _ => ⟨u3', by omega, by omega⟩) (fun e => by omega) rfl
        have jF' : Fr (fun b => b ≠ 0 ∧ ([5] <:+ tg b ∨ [4] <:+ tg b)) h1 h2 := jF.mono (fun y hy => ⟨hy.1, Or.inl ((List.suffix_append [a, 8] [5]).trans hy.2)⟩)
        have t13 := (tgs C9.1 C9.2.1).2.2.2.2.2.1
        have nj : ∀ y, (tg y = [4] ∨ ∃ j, tg y = [j, 4]) → sm h1 h2 y := fun y hy => jF.sm (fun u => by
          have u2 := (List.suffix_append [a, 8] [5]).trans u.2
          rcases hy with hy | ⟨j, hy⟩
          · rw [hy] at u2
            exact absurd (suf1 u2 (List.suffix_refl [4])) (by omega)
          · rw [hy] at u2
            exact absurd (suf1 u2 (List.suffix_append [j] [4])) (by omega))
        have P2 : PtS h2 13 := y5.cg (nj 13 (Or.inl t13)) (fun j hj => by
          by_cases z : gP h1 13 j = 0
          · rw [z]
            exact jF.sm (fun u => u.1 rfl)
          · exact nj _ (Or.inr ⟨j, by rw [tgc C9.1 z (by omega), t13]⟩))
        refine Pr.sp (m' := jbM M3 a (Nn m (320230 + 183 * a + 29)) q op (nl - sn) 1 0) C R F4 C4 (nI (nl - sn - op)) ?_ (y2.trans jF') tags jS jV P2 IM (fun y hy => by rw [jb_out (by unfold rgDk at hy; omega) (by unfold rgDk at hy; omega)]; exact rg y hy) fun h' R' e => ?_
        · rw [hX2, y1, gg_t k3, j1, ob_some, b2_some]
        · have := ref h' R' e
          rw [if_neg cz] at this
          exact this
end
