/-! correct: the memory behind the change, the spare part holds it -/
def CM1 (m M1 : Nat → Int32) (q f : Nat) : Prop := (∀ y, (y < 130 + 645 * q + 85 ∨ 130 + 645 * q + 645 ≤ y) → y ≠ 130 + 645 * q + 1 → M1 y = m y) ∧ (∀ x, x < f → M1 (130 + 645 * q + 85 + x) = m (130 + 645 * q + 85 + x) ∧ M1 (130 + 645 * q + 125 + x) = m (130 + 645 * q + 125 + x)) ∧ MIw M1 ∧ StM M1 ∧ MIc M1 q ∧ f < Nn m (130 + 645 * q + 1) ∧ f < nP M1 q
section
variable {tg : Nat → List Nat} {h h1 g : Hp} {m k t M1 : Nat → Int32} {i n fl : Int32} {p q f f2 w l cc : Nat} {b : Nat → Nat} {s0 s : TX}
theorem cor_m (V : RmV h 19 m) (I : MI m) (vq : vP m q) (hw : w < Nn m (130 + 645 * q)) (F : FW m q w f) (F2 : FW m q (w + 1) f2) (Ts : TI 1 1 (Nn m (130 + 645 * q + 1) - (f2 - f)) s) (s1 : s.1 = 0) (etw : 0 < tw s) (hM1 : M1 = chM m (130 + 645 * q) f f2 (tp s) (Nn m (130 + 645 * q + 1)) (nI w) s.2.2.2.2.2.2.1 s.2.2.2.2.2.2.2) : CM1 m M1 q f ∧ Chd m M1 q f f2 (tp s) (nI w) s.2.2.2.2.2.2.1 s.2.2.2.2.2.2.2 ∧ f ≤ f2 ∧ f2 ≤ Nn m (130 + 645 * q + 1) ∧ f + tp s + (Nn m (130 + 645 * q + 1) - f2) ≤ 40 := by
  have q1 := vq.1
  have J := I.2.1 q vq
  obtain ⟨d1, d2⟩ := FW_2 J F F2 hw
  have f2n := F2.1
  obtain ⟨c1, c2⟩ := FW_c J F hw
  obtain ⟨-, -, n3, -, -⟩ := ti_nm Ts (by omega)
  obtain ⟨n1, b40⟩ := J.2.1.eq (by omega)
  have h40 : f + tp s + (Nn m (130 + 645 * q + 1) - f2) ≤ 40 := by omega
  have Hc : Chd m M1 q f f2 (tp s) (nI w) s.2.2.2.2.2.2.1 s.2.2.2.2.2.2.2 := by rw [hM1]; exact chd_chM h40 (by omega) f2n
  have H0 : ∀ y, (y < 130 + 645 * q + 85 ∨ 130 + 645 * q + 645 ≤ y) → y ≠ 130 + 645 * q + 1 → M1 y = m y := fun y h1 h2 => by rw [hM1]; exact chM_o h40 h2 h1
  obtain ⟨C1, np⟩ := ch_mic J hw F F2 Ts s1 etw Hc
  have p1 : 1 ≤ tp s := by
    obtain ⟨z1, -⟩ := Ts.2.2.2.2.2.2.2 0 (by omega)
    have e0 : Nn s.2.2.2.2.1 0 = tp s := by unfold tp; rw [s1]
    have e1 : Nn s.2.2.2.1 0 = tw s := by unfold tw; rw [s1]
    rw [e0, e1] at z1
    by_cases z : tp s = 0
    · have := z1.mp z
      omega
    · omega
  refine ⟨⟨H0, fun x hx => ⟨(Hc.2.2.1 x hx).1, (Hc.2.2.1 x hx).2.1⟩, I.w.o (fun x hx => H0 x (by omega) (by omega)) (fun y hy => H0 y (by omega) (by omega)), (V.rmw.o I.w (H0 2 (by omega) (by omega)) (fun j hj => H0 _ (by omega) (by omega)) (fun y hy => H0 y (by omega) (by omega))).stm, C1, c1, ?_⟩, Hc, by omega, f2n, h40⟩
  show f < Nn M1 (130 + 645 * q + 1)
  omega
theorem cor_pw (C : CSt tg h m k i t n fl) (vq : vP m q) (hp : p = gP h (gP h 19 5) q) (p0 : p ≠ 0) (hw : w < Nn m (130 + 645 * q)) (F : FW m q w f) (F2 : FW m q (w + 1) f2) (T0 : TI 1 1 (Nn m (130 + 645 * q + 1) - (f2 - f)) s0) (z1 : s0.2.1 = 0) (z2 : s0.2.2.1 = false) (z3 : tp s0 = 0) (z4 : tw s0 = 0) (z0 : s0.1 = 0) (hl : l ≤ 400) (hc : ∀ i, i < l → gI h 2 i = bS (b i) ∧ b i ≤ 255) (es : ruT 1 1 (Nn m (130 + 645 * q + 1) - (f2 - f)) b s0 l = .inr s) (ebh : s.2.2.1 = false) (etw : 0 < tw s) (hM1 : M1 = chM m (130 + 645 * q) f f2 (tp s) (Nn m (130 + 645 * q + 1)) (nI w) s.2.2.2.2.2.2.1 s.2.2.2.2.2.2.2) : s.1 = 0 ∧ TI 1 1 (Nn m (130 + 645 * q + 1) - (f2 - f)) s ∧ ∃ g, MX5_putWord h 13 p (nI w) 2 (nI l) = some g ∧ Ft tg (cT q) h g ∧ (∀ y, tg y ≠ [4] → (∀ j, tg y ≠ [j, 4]) → gI g y = gI h y) ∧ Own tg g ∧ XS g ∧ XS2 g ∧ RmS g 19 ∧ RmV g 19 m ∧ PtS g 13 ∧ PtV g 13 (m0P M1 q) q ∧ PtX g 13 M1 q := by
  obtain ⟨O, X, X2, S, V, -, -, I, -, -, -⟩ := id C
  have K := C.rt
  have J := I.2.1 q vq
  have q1 := vq.1
  obtain ⟨tp', p3, t13, N13, pd, np, nq, n2, tq, -, -⟩ := sp_nm O X X2 S hp p0
  have P13 : PtS h 13 := X2.2.2.2.2.2.2.2.2.2.2.2.2.2
  obtain ⟨p', hp', ec, -, PS, PV⟩ := c_findPart_t S V I.1 vq
  rw [← hp] at hp'
  replace hp' := hp'.symm
  subst hp'
  obtain ⟨s1, Ts, g, k1, G, P13g, al⟩ := c_putW (p := 13) (o := p) (X := 2) P13 N13 ⟨PS, PV, J, np, nq 0, nq 1, nq 2⟩ (nq 3) (nq 4) hw F F2 T0 z0 z1 z2 z3 z4 n2 X.f.2.2.1 (by rw [X.f.2.2.2.1]; exact hl) (by rw [X.f.2.2.2.1]; omega) hc es ebh etw
  obtain ⟨⟨H0, -⟩, Hc, -⟩ := cor_m V I vq hw F F2 Ts s1 etw hM1
  have G13 : Fr (fun y => y ≠ 0 ∧ (tg y = [4] ∨ ∃ j, tg y = [j, 4])) h g := G.mono pd
  obtain ⟨Sg, Vg⟩ := rm_13 K G13 (fun y hy => hy) S V
  have PVg := al (m0P M1 q) Hc.m0 (m0_z (Or.inl rfl)) (m0_z (Or.inr (Or.inl rfl))) (by rw [m0_o (by omega)]; exact H0 _ (by omega) (by omega)) (by rw [m0_o (by omega)]; exact H0 _ (by omega) (by omega))
  have Fc : Ft tg (cT q) h g := G13.mono (fun y hy => ⟨hy.1, by
    rcases hy.2 with u | ⟨j, u⟩
    · exact Or.inr (Or.inr (Or.inr (Or.inr (Or.inl u))))
    · exact Or.inr (Or.inr (Or.inr (Or.inr (Or.inr ⟨j, u⟩))))⟩)
  refine ⟨s1, Ts, g, k1, Fc, fun y h1 h2 => G13.2.2.2.2.2.2 y (fun z => by
    rcases z.2 with z | ⟨j, z⟩
    · exact h1 z
    · exact h2 j z), O.fr G, X.fr G, X2.sp O X Fc (fun y hy => ⟨hy.1, cT_sf hy.2⟩) P13g, Sg, Vg, P13g, PVg, ptX_of PVg (m0_o (by omega)).symm (m0_o (by omega)).symm (m0_o (by omega)).symm (m0_o (by omega)).symm (fun y hy => (m0_o (by omega)).symm)⟩
/-- a part that isn't set -/
theorem cor_n (C : CSt tg h m k i t n fl) (vq : vP m q) (hp : p = gP h (gP h 19 5) q) (p0 : p ≠ 0) (M : CM1 m M1 q f) (u3 : m (130 + 645 * q + 3) = nI 0) (F : Ft tg (cT q) h g) (o : ∀ y, tg y ≠ [4] → (∀ j, tg y ≠ [j, 4]) → gI g y = gI h y) (Sg : RmS g 19) (Vg : RmV g 19 m) (P13 : PtS g 13) (PV0 : PtV g 13 (m0P M1 q) q) (O : Own tg g) (X : XS g) (X2 : XS2 g) {ww : Int32} : ∃ h1, MX7_correctWith g 19 (nI q) ww 13 cc = some (nI 0, h1) ∧ Ft tg (cT q) h h1 ∧ RmS h1 19 ∧ RmV h1 19 M1 ∧ PtS h1 13 ∧ MI M1 := by
  obtain ⟨O0, X0, X20, S, V, -, -, I, -, -, -⟩ := id C
  have K := C.rt
  obtain ⟨H0, Ha, I1, Z1, C1, fn, fP⟩ := M
  have q1 := vq.1
  have eP : gP g = gP h := F.gp
  have hpg : p = gP g (gP g 19 5) q := by rw [eP]; exact hp
  obtain ⟨tp', p3, t13, N13, pd, np, nq, n2, tq, A, -⟩ := sp_nm O X X2 Sg hpg p0
  obtain ⟨p', hp', ec, -, PS, PV⟩ := c_findPart_t Sg Vg I.1 vq
  rw [← hpg] at hp'
  replace hp' := hp'.symm
  subst hp'
  obtain ⟨h1, k1, Y⟩ := c_cpCopy A PS P13
  obtain ⟨t1, t2⟩ := tk_cp (M := M1) A PS P13 Y PV0 C1.m0 PV (m0_o (by omega)).symm (m0_o (by omega)).symm (fun x h1 h2 => (m0_o (by omega)).symm) (H0 _ (by omega) (by omega)) (H0 _ (by omega) (by omega)) (H0 _ (by omega) (by omega)) (H0 _ (by omega) (by omega)) u3
  have FY : Ft tg (cT q) g h1 := Y.1.mono (fun y hy => by
    rcases hy with rfl | ⟨j, hj, rfl⟩
    · exact ⟨p0, Or.inl tp'⟩
    · exact ⟨hj, Or.inr (Or.inl ⟨j, tq j hj⟩)⟩)
  have n13 : ∀ y, y = 13 ∨ (∃ j, y = gP g 13 j) → ¬ (y = p ∨ ∃ k, gP g p k ≠ 0 ∧ y = gP g p k) := fun y hy z => by
    obtain ⟨a1, a2, a3, a4⟩ := A
    rcases z with z | ⟨k, hk, z⟩
    · rcases hy with hy | ⟨j, hy⟩
      · exact a2 (by rw [← z, hy])
      · exact a3 j (by rw [← z, hy])
    · obtain ⟨-, d2, d3, -⟩ := a4 k hk
      rcases hy with hy | ⟨j, hy⟩
      · exact d2 (by rw [← z, hy])
      · exact d3 j (by rw [← z, hy])
  have P131 : PtS h1 13 := by
    refine P13.of Y.1.1 Y.1.2.1 Y.1.2.2.1 ?_ ?_ ?_ (fun b => ?_)
    · rw [Y.1.2.2.2.2.2.2 _ (n13 _ (Or.inr ⟨1, rfl⟩))]; exact P13.2.2.2.2.2.2.1
    · rw [Y.1.2.2.2.2.2.2 _ (n13 _ (Or.inl rfl))]; exact P13.2.2.2.2.2.2.2.1
    · rw [Y.1.2.2.2.2.2.2 _ (n13 _ (Or.inl rfl))]; exact P13.2.2.2.2.2.2.2.2.1
    · rw [Y.1.2.2.2.2.2.2 _ (n13 _ (Or.inr ⟨2, rfl⟩))]; exact P13.2.2.2.2.2.2.2.2.2 b
  have Fh : Ft tg (cT q) h h1 := F.trans FY
  have oY : ∀ y, (y = 0 ∨ (tg y ≠ [q, 5, 5] ∧ ∀ j, tg y ≠ [j, q, 5, 5])) → gI h1 y = gI g y := fun y hy => Y.1.2.2.2.2.2.2 y (fun z => by
    rcases hy with hy | ⟨u1, u2⟩
    · rcases z with z | ⟨k, hk, z⟩
      · exact p0 (by rw [← z, hy])
      · exact hk (by rw [← z, hy])
    · rcases z with z | ⟨k, hk, z⟩
      · exact u1 (by rw [z]; exact tp')
      · exact u2 k (by rw [z]; exact tq k hk))
  have tsl : ∀ s, gP h (gP h 19 10) s ≠ 0 → tg (gP h (gP h 19 10) s) = [s, 10, 5] := fun s hs => K.o hs
  have osl : ∀ s, gI h1 (gP h (gP h 19 10) s) = gI h (gP h (gP h 19 10) s) := fun s => by
    by_cases z : gP h (gP h 19 10) s = 0
    · rw [z]
      exact (Fh.z).2.2.1
    · have ts := tsl s z
      rw [oY _ (Or.inr ⟨by rw [ts]; simp, fun j => by rw [ts]; simp⟩)]
      exact o _ (by rw [ts]; simp) (fun j => by rw [ts]; simp)
  have bS := S.2.2.2.2.2.2.2.2.2.2.2.2.2.2.2.1
  have ob : ∀ j, gP h (gP h 19 14) j ≠ 0 → gI h1 (gP h (gP h 19 14) j) = gI h (gP h (gP h 19 14) j) := fun j hj => by
    have tj := K.o hj
    rw [oY _ (Or.inr ⟨by rw [tj]; simp, fun k => by rw [tj]; simp⟩)]
    exact o _ (by rw [tj]; simp) (fun k => by rw [tj]; simp)
  have RV := pc_rm (h := h) (h1 := h1) (m := m) (M := M1) K S V I vq Fh ⟨by rw [ob 8 bS.2.2.1.1]; exact bS.2.2.2.2.2.2.2.2.1, by rw [ob 9 bS.2.2.2.1.1]; exact bS.2.2.2.2.2.2.2.2.2⟩ (fun y h1 h2 => H0 y (by omega) (by omega)) (Or.inl ⟨H0 _ (by omega) (by omega), H0 _ (by omega) (by omega)⟩) hp t1 t2 (fun s j hj => by rw [osl s]) (fun s hs => by
    have s300 := I.1.f.2.2.2.2.1.2
    obtain ⟨c, hc, -, -, -, cV⟩ := c_findSlug_t S V I.1 (k := s) hs
    rw [osl s, ← hc, cV.2.2.2.2.1, cV.2.2.2.2.2.1, cV.2.2.2.2.2.2.1, H0 _ (by omega) (by omega), H0 _ (by omega) (by omega), H0 _ (by omega) (by omega)]
    exact ⟨rfl, rfl, rfl⟩)
  have v3 : M1 (130 + 645 * q + 3) = nI 0 := (H0 _ (by omega) (by omega)).trans u3
  have J := I.2.1 q vq
  refine ⟨h1, ?_, Fh, RV.1, RV.2, P131, pc_mi I vq (fun y hy => H0 y (by omega) (by omega)) (Or.inl (H0 _ (by omega) (by omega))) (C1.mip (J.2.2.2.1.c (H0 _ (by omega) (by omega))) v3 ?_) (fun z => by rw [v3] at z; exact absurd z (by decide)) (fun s hs z4 z6 => ?_)⟩
  · unfold MX7_correctWith
    simp only [ZL]
    rw [gg_t Sg.1, ec, ob_some, if_neg p0, gg_t PS.1, PV.2.2.2.2.2.1, u3, if_pos rfl, k1, ob_some]
  · rw [H0 _ (by omega) (by omega)]
    exact J.2.2.2.2.2.2.2.2.2.2.1 u3
  · have := (lk_s I hs z4 z6).1
    rw [u3] at this
    exact absurd this (by decide)
end
