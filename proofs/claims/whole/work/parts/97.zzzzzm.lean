/-! correct: as many lines say the same, the class -/
theorem gl_ext : ∀ (a b : List Nat), a.length = b.length → (∀ j, j < a.length → a.getD j 0 = b.getD j 0) → a = b
  | [], [], _, _ => rfl
  | [], _ :: _, h, _ => by simp at h
  | _ :: _, [], h, _ => by simp at h
  | x :: a, y :: b, h, e => by
    have e0 : x = y := e 0 (Nat.succ_pos _)
    have e1 := gl_ext a b (by simpa using h) (fun j hj => e (j + 1) (by simpa using hj))
    rw [e0, e1]
/-- do the j-th lines from the end say the same -/
noncomputable def tEq (m M2 : Nat → Int32) (q ol nl j : Nat) : Bool := @decide (wtL m q (ol - 1 - j) = wtL M2 q (nl - 1 - j)) (Classical.propDecidable _)
section
variable {tg : Nat → List Nat} {h h1 g : Hp} {m M2 : Nat → Int32} {p q l op nl ol r x k j : Nat}
theorem tEq_t (e : wtL m q (ol - 1 - j) = wtL M2 q (nl - 1 - j)) : tEq m M2 q ol nl j = true := @decide_eq_true _ (Classical.propDecidable _) e
theorem tEq_f (e : wtL m q (ol - 1 - j) ≠ wtL M2 q (nl - 1 - j)) : tEq m M2 q ol nl j = false := @decide_eq_false _ (Classical.propDecidable _) e
theorem tEq_i (e : tEq m M2 q ol nl j = true) : wtL m q (ol - 1 - j) = wtL M2 q (nl - 1 - j) := @of_decide_eq_true _ (Classical.propDecidable _) e
theorem tEq_n (e : tEq m M2 q ol nl j = false) : wtL m q (ol - 1 - j) ≠ wtL M2 q (nl - 1 - j) := @of_decide_eq_false _ (Classical.propDecidable _) e
theorem ln_q1 (J : MIp m q) (Q1 : MIq1 m q) (es : m (130 + 645 * q + 3) = nI 1) (hl : l < Nn m (130 + 645 * q + 4)) : Ln m q l (bgN m q l) (Nn m (130 + 645 * q + 5 + l)) := by
  have Q := Q1 es l hl
  obtain ⟨-, j40, j1⟩ := J.n
  have l4 := (J.2.2.2.2.2.1.eq (by omega)).2
  obtain ⟨-, -, -, -, -, -, -, -, -, -, -, os⟩ := id J
  obtain ⟨-, o1, o2, o3⟩ := os es
  have en : ∀ l', l' < Nn m (130 + 645 * q + 4) → m (130 + 645 * q + 5 + l') = nI (Nn m (130 + 645 * q + 5 + l')) ∧ Nn m (130 + 645 * q + 5 + l') ≤ 39 := fun l' hl' => (o3 l' hl').1.eq (by omega)
  -- the ends rise to the last piece
  have up : ∀ d, l + d < Nn m (130 + 645 * q + 4) → Nn m (130 + 645 * q + 5 + l) + d ≤ Nn m (130 + 645 * q + 5 + (l + d)) := fun d => by
    induction d with
    | zero => intro _; exact Nat.le_refl _
    | succ d ih =>
      intro hd
      have := ih (by omega)
      have h2 := (o3 (l + d) (by omega)).2.2.1 (by omega)
      show _ ≤ Nn m (130 + 645 * q + 5 + (l + d + 1))
      omega
  have top := up (Nn m (130 + 645 * q + 4) - 1 - l) (by omega)
  rw [show l + (Nn m (130 + 645 * q + 4) - 1 - l) = Nn m (130 + 645 * q + 4) - 1 by omega] at top
  have hb : Nn m (130 + 645 * q + 5 + l) < nP m q := by unfold nP; omega
  have ha : ((l = 0 ∧ bgN m q l = 0) ∨ (1 ≤ l ∧ 1 ≤ bgN m q l ∧ m (130 + 645 * q + 5 + (l - 1)) = nI (bgN m q l - 1))) ∧ bgN m q l ≤ Nn m (130 + 645 * q + 5 + l) := by
    unfold bgN
    by_cases z : l = 0
    · rw [if_pos z]; exact ⟨Or.inl ⟨z, rfl⟩, Nat.zero_le _⟩
    · rw [if_neg z]
      have h2 := (o3 (l - 1) (by omega)).2.2.1 (by omega)
      rw [show l - 1 + 1 = l by omega] at h2
      exact ⟨Or.inr ⟨by omega, by omega, by rw [Nat.add_sub_cancel]; exact (en (l - 1) (by omega)).1⟩, by omega⟩
  have wl := wt_len J ha.2 hb
  have e1 := (we_s J hb).2.2
  have e2 := (we_s J (k := bgN m q l) (by omega)).2.2
  unfold wkN at e1 e2
  exact ⟨by omega, (en l hl).1, ha.1, ha.2, hb, by omega⟩
theorem MIp.mx (H : MIp M2 q) : MIx M2 q := by
  obtain ⟨a1, a2, a3, -, -, -, a4, a5, a6, a7, -, -⟩ := H
  exact ⟨a1, a2, a3, trivial, trivial, trivial, a4, a5, a6, a7, trivial, trivial⟩
theorem sc_tx (K : Rt tg h r x) (S : RmS h r) (hk : k = 18 ∨ k = 19) (G : Fr (fun c => c = gP h r k) h h1) : Sc tg r x h h1 := by
  have x18 := S.2.2.2.2.2.2.2.2.2.2.2.2.1
  have x19 := S.2.2.2.2.2.2.2.2.2.2.2.2.2.1
  have z0 : gP h r k ≠ 0 := by
    rcases hk with rfl | rfl
    · exact x18.1
    · exact x19.1
  have tk := K.a z0
  have sck : scT x (tg (gP h r k)) := by
    rw [tk]
    rcases hk with rfl | rfl
    · exact Or.inr (Or.inr (Or.inr (Or.inr (Or.inl rfl))))
    · exact Or.inr (Or.inr (Or.inr (Or.inr (Or.inr (Or.inl rfl)))))
  have F1 : Ft tg (scT x) h h1 := G.mono (fun b w => by
    have w : b = gP h r k := w
    rw [w]
    exact ⟨z0, sck⟩)
  have bS := S.2.2.2.2.2.2.2.2.2.2.2.2.2.2.2.1
  have n8 : ∀ j, gP h (gP h r 14) j ≠ 0 → gI h1 (gP h (gP h r 14) j) = gI h (gP h (gP h r 14) j) := fun j hj => G.2.2.2.2.2.2 _ (fun w => by
    have : tg (gP h (gP h r 14) j) = tg (gP h r k) := by rw [w]
    rw [K.o hj, tk] at this
    have := congrArg List.length this
    simp at this)
  exact ⟨F1, by rw [n8 8 bS.2.2.1.1]; exact bS.2.2.2.2.2.2.2.2.1, by rw [n8 9 bS.2.2.2.1.1]; exact bS.2.2.2.2.2.2.2.2.2⟩
/-- two lists at the begin of two arrays -/
theorem pl_same {A D : Nat} {a d : List Nat} (pa : PLs h A a) (pd : PLs h D d) (ba : ∀ j, j < a.length → a.getD j 0 ≤ 122) (bd : ∀ j, j < d.length → d.getD j 0 ≤ 122) : (a.length = d.length ∧ ∀ j, j < a.length → gI h A j = gI h D j) ↔ a = d := by
  constructor
  · rintro ⟨e1, e2⟩
    refine gl_ext a d e1 (fun j hj => ?_)
    have e := e2 j hj
    rw [pa j hj, pd j (by omega)] at e
    have b1 := ba j hj
    have b2 := bd j (by omega)
    rwa [nEq (by omega) (by omega)] at e
  · intro e
    subst e
    exact ⟨rfl, fun j hj => by rw [pa j hj, pd j hj]⟩
theorem c_countSame (O : Own tg h) (X : XS h) (X2 : XS2 h) (K : Rt tg h 19 5) (S : RmS h 19) (V : RmV h 19 m) (I : MI m) (vq : vP m q) (u3 : m (130 + 645 * q + 3) = nI 1) (hp : p = gP h (gP h 19 5) q) (p0 : p ≠ 0) (B2 : MIb M2) (J2 : MIp M2 q) (Q2 : MIq1 M2 q) (e3 : M2 (130 + 645 * q + 3) = nI 1) (PX : PtX h 13 M2 q) (c9 : gI h 13 9 = nI nl) (n4 : Nn M2 (130 + 645 * q + 4) = nl) (c3 : ∀ j, j < nl → gI h (gP h 13 3) j = M2 (130 + 645 * q + 5 + j)) (eol : ol = Nn m (130 + 645 * q + 4)) (ho : op ≤ ol) (hn : op ≤ nl) : ∃ h1, MX7_countSame h 19 p 13 (nI op) = some (nI (fsB (tEq m M2 q ol nl) (min ol nl - op) 0), h1) ∧ Sc tg 19 5 h h1 := by
  obtain ⟨tp, p3, t13, N13, -, np, nq, -, tq, -, -⟩ := sp_nm O X X2 S hp p0
  have P13 : PtS h 13 := X2.2.2.2.2.2.2.2.2.2.2.2.2.2
  have J := I.2.1 q vq
  obtain ⟨p', hp', -, -, PS, PV⟩ := c_findPart_t S V I.1 vq
  rw [← hp] at hp'
  replace hp' := hp'.symm
  subst hp'
  obtain ⟨e4, l40⟩ := J.2.2.2.2.2.1.eq (by omega)
  have n40 := (J2.2.2.2.2.2.1.eq (by omega)).2
  rw [n4] at n40
  rw [← eol] at e4 l40
  have x18 := S.2.2.2.2.2.2.2.2.2.2.2.2.1
  have x19 := S.2.2.2.2.2.2.2.2.2.2.2.2.2.1
  have t18 := K.a x18.1
  have t19 := K.a x19.1
  have sc18 : scT 5 (tg (gP h 19 18)) := by rw [t18]; simp [scT]
  have sc19 : scT 5 (tg (gP h 19 19)) := by rw [t19]; simp [scT]
  have ta : ∀ j, gP h 13 j ≠ 0 → tg (gP h 13 j) = [j, 4] := fun j hj => by rw [tgc O hj (by omega), t13]
  have n13 : ¬ scT 5 (tg 13) := by rw [t13]; simp [scT]
  have z13 : ∀ j, j ≤ 4 → gP h 13 j ≠ 0 := fun j hj => by
    obtain ⟨-, s2, s3, s4, s5, s6, -⟩ := P13
    rcases (show j = 0 ∨ j = 1 ∨ j = 2 ∨ j = 3 ∨ j = 4 by omega) with rfl | rfl | rfl | rfl | rfl
    · exact s2.1
    · exact s3.1
    · exact s4.1
    · exact s5.1
    · exact s6.1
  have n13j : ∀ j, j ≤ 4 → ¬ scT 5 (tg (gP h 13 j)) := fun j hj => by rw [ta j (z13 j hj)]; simp [scT]
  have zp : ∀ j, j ≤ 4 → gP h p j ≠ 0 := fun j hj => by
    obtain ⟨-, s2, s3, s4, s5, s6, -⟩ := PS
    rcases (show j = 0 ∨ j = 1 ∨ j = 2 ∨ j = 3 ∨ j = 4 by omega) with rfl | rfl | rfl | rfl | rfl
    · exact s2.1
    · exact s3.1
    · exact s4.1
    · exact s5.1
    · exact s6.1
  have npj : ∀ j, j ≤ 4 → ¬ scT 5 (tg (gP h p j)) := fun j hj => by rw [tq j (zp j hj)]; simp [scT]
  have npp : ¬ scT 5 (tg p) := by rw [tp]; simp [scT]
  have cl9 : gI h p 9 = nI ol := by rw [PV.2.2.2.2.2.2.2.1, if_pos u3]; exact e4
  have w18 : gP h 19 18 ≠ gP h 19 19 := fun e => by
    have := t18
    rw [e, t19] at this
    simp at this
  obtain ⟨N, hN⟩ : ∃ N, N = min ol nl - op := ⟨_, rfl⟩
  have jm : jmin (nI ol) (nI nl) - nI op = nI N := by
    unfold jmin
    by_cases z : nI nl < nI ol
    · have : nl < ol := Classical.byContradiction fun w => nI_nlt (show ol ≤ nl by omega) (by omega) z
      rw [if_pos z, nSub (by omega), hN]
      exact congrArg nI (by omega)
    · have : ol ≤ nl := Classical.byContradiction fun w => z (nI_lt (show nl < ol by omega) (by omega))
      rw [if_neg z, nSub (by omega), hN]
      exact congrArg nI (by omega)
  have B := I.1
  -- one line
  have st : ∀ i z, i < N → Sc tg 19 5 h z → ∃ z', Sc tg 19 5 h z' ∧ BX7_countSame_18 z 19 p 13 (nI N) (nI i) = if tEq m M2 q ol nl i = true then some (.inl (nI (i + 1), z')) else some (.inr (nI i, z')) := fun i z hi A => by
    have hNo : N ≤ ol ∧ N ≤ nl := by omega
    have Kz := A.rt K
    have Sz := A.rs K S
    have Fz := A.1
    have eP : gP z = gP h := Fz.gp
    have sp : sm h z p := Fz.same npp
    have spj : ∀ j, j ≤ 4 → sm h z (gP h p j) := fun j hj => Fz.same (npj j hj)
    have s13 : sm h z 13 := Fz.same n13
    have s13j : ∀ j, j ≤ 4 → sm h z (gP h 13 j) := fun j hj => Fz.same (n13j j hj)
    have PSz := PS.cg sp spj
    have PVz := PV.cg sp spj
    obtain ⟨L1, hL1⟩ : ∃ L1, L1 = wtL m q (ol - 1 - i) := ⟨_, rfl⟩
    obtain ⟨L2, hL2⟩ : ∃ L2, L2 = wtL M2 q (nl - 1 - i) := ⟨_, rfl⟩
    have H1 := ln_set I vq u3 (l := ol - 1 - i) (by omega)
    have H2 := ln_q1 J2 Q2 e3 (l := nl - 1 - i) (by omega)
    have b1 : L1.length ≤ 401 := by rw [hL1]; exact H1.2.2.2.2.2
    have b2' : L2.length ≤ 401 := by rw [hL2]; exact H2.2.2.2.2.2
    obtain ⟨z1, k1, k2, k3⟩ := c_spell (X := gP h 19 18) PSz PVz B J ⟨by rw [Fz.ek]; exact x18.2.1, by rw [Fz.el]; exact x18.2.2⟩ (fun w => npp (by rw [← w]; exact sc18)) (fun j hj w => by rw [eP] at w; exact npj j hj (by rw [← w]; exact sc18)) vq u3 (by rw [← eol]; omega) H1
    replace k1 : MX5_spell z p (nI (ol - 1 - i)) (gP h 19 18) = some (nI L1.length, z1) := by rw [hL1]; exact k1
    replace k3 : PLs z1 (gP h 19 18) L1 := by rw [hL1]; exact k3
    have A1 : Sc tg 19 5 z z1 := sc_tx Kz Sz (k := 18) (Or.inl rfl) (by rw [eP]; exact k2)
    have A01 := A.trans A1
    have F1 := A01.1
    have eP1 : gP z1 = gP h := F1.gp
    have t13' : sm h z1 13 := F1.same n13
    have t13j : ∀ j, j ≤ 4 → sm h z1 (gP h 13 j) := fun j hj => F1.same (n13j j hj)
    obtain ⟨z2, y1, y2, y3⟩ := c_spellG (X := gP h 19 19) (P13.cg t13' t13j) (PtX.cg PX t13' t13j) B2 (MIp.mx J2) ⟨by rw [F1.ek]; exact x19.2.1, by rw [F1.el]; exact x19.2.2⟩ (fun w => n13 (by rw [← w]; exact sc19)) (fun j hj w => by rw [eP1] at w; exact n13j j hj (by rw [← w]; exact sc19)) (nl := nl) (by rw [t13'.2.2.1]; exact c9) n40 (l := nl - 1 - i) (by omega) (fun j hj => by rw [eP1, (t13j 3 (by omega)).2.2.1]; exact c3 j (by omega)) H2
    replace y1 : MX5_spell z1 13 (nI (nl - 1 - i)) (gP h 19 19) = some (nI L2.length, z2) := by rw [hL2]; exact y1
    replace y3 : PLs z2 (gP h 19 19) L2 := by rw [hL2]; exact y3
    have K1 := A01.rt K
    have S1 := A01.rs K S
    have A2 : Sc tg 19 5 z1 z2 := sc_tx K1 S1 (k := 19) (Or.inr rfl) (by rw [eP1]; exact y2)
    have A02 := A01.trans A2
    have F2 := A02.1
    have k4 : PLs z2 (gP h 19 18) L1 := fun j hj => by
      rw [y2.2.2.2.2.2.2 _ (fun w => w18 w)]
      exact k3 j hj
    have bb1 : ∀ j, j < L1.length → L1.getD j 0 ≤ 122 := by rw [hL1]; exact wt_b B J H1.2.2.2.2.1
    have bb2 : ∀ j, j < L2.length → L2.getD j 0 ≤ 122 := by rw [hL2]; exact wt_b B2 J2 H2.2.2.2.2.1
    have iff := pl_same k4 y3 bb1 bb2
    have sm := c_same (h := z2) (A := gP h 19 18) (D := gP h 19 19) (a := L1.length) (d := L2.length) (by omega) (by omega) (by rw [F2.ek]; exact x18.2.1) (by rw [F2.ek]; exact x19.2.1) (by rw [F2.el, x18.2.2]; omega) (by rw [F2.el, x19.2.2]; omega) (by rw [F2.el, x18.2.2]; omega) (by rw [F2.el, x19.2.2]; omega)
    refine ⟨z2, A02, ?_⟩
    unfold BX7_countSame_18
    simp only [ZL]
    rw [if_neg (nI_ge hi (by omega)), gg_t PSz.1, gg_t Sz.1, sp.2.2.1, cl9, nSub (by omega), nSub (by omega), eP, k1, b2_some, gg_t (P13.cg t13' t13j).1, gg_t S1.1, t13'.2.2.1, c9, nSub (by omega), nSub (by omega), eP1, y1, b2_some, F2.ek, gg_t S.1, F2.gp]
    by_cases z : L1 = L2
    · rw [sm.1 (iff.mpr z), ob_some, if_neg (by decide), nAdd, if_pos (tEq_t (by rw [← hL1, ← hL2]; exact z))]
    · rw [sm.2 (fun w => z (iff.mp w)), ob_some, if_pos rfl, if_neg (by rw [tEq_f (by rw [← hL1, ← hL2]; exact z)]; decide)]
  have Kk : ∃ rr, it (fun s : Int32 × Hp => BX7_countSame_18 s.2 19 p 13 (nI N) s.1) (nI 0, h) = some rr ∧ (rr.1 = nI (fsB (tEq m M2 q ol nl) N 0) ∧ Sc tg 19 5 h rr.2) := by
    refine it_ff (fun i s => s.1 = nI i ∧ Sc tg 19 5 h s.2) (tEq m M2 q ol nl) N (fun i s hi pp e => ?_) (fun i s hi pp e al => ?_) (fun s pp al => ?_) ⟨rfl, Sc.rfl S⟩
    · obtain ⟨u, z⟩ := s
      obtain ⟨p1, p2⟩ := pp
      replace p1 : u = nI i := p1
      replace p2 : Sc tg 19 5 h z := p2
      subst p1
      obtain ⟨z', a1, a2⟩ := st i z hi p2
      rw [if_pos e] at a2
      exact ⟨(nI (i + 1), z'), a2, rfl, a1⟩
    · obtain ⟨u, z⟩ := s
      obtain ⟨p1, p2⟩ := pp
      replace p1 : u = nI i := p1
      replace p2 : Sc tg 19 5 h z := p2
      subst p1
      obtain ⟨z', a1, a2⟩ := st i z hi p2
      rw [if_neg (by rw [e]; decide)] at a2
      refine ⟨(nI i, z'), a2, ?_, a1⟩
      exact congrArg nI (fsB_u N 0 (Nat.zero_le _) (by omega) (fun j _ hj => al j hj) (Or.inr e)).symm
    · obtain ⟨u, z⟩ := s
      obtain ⟨p1, p2⟩ := pp
      replace p1 : u = nI N := p1
      replace p2 : Sc tg 19 5 h z := p2
      subst p1
      refine ⟨(nI N, z), ?_, ?_, p2⟩
      · show BX7_countSame_18 z 19 p 13 (nI N) (nI N) = _
        unfold BX7_countSame_18
        rw [if_pos (nI_le (Nat.le_refl _) (by omega))]
      · exact congrArg nI (fsB_u N 0 (Nat.zero_le _) (by omega) (fun j _ hj => al j hj) (Or.inl (Nat.zero_add N).symm)).symm
  obtain ⟨⟨u, z⟩, k1, k2, k3⟩ := Kk
  replace k2 : u = nI (fsB (tEq m M2 q ol nl) N 0) := k2
  subst k2
  refine ⟨z, ?_, k3⟩
  unfold MX7_countSame MX7_countSame_18
  simp only [ZL]
  rw [gg_t PS.1, gg_t P13.1, cl9, c9, jm, k1, hN]
end
