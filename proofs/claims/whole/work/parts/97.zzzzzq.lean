/-! correct: a part that is set, the class behind the way -/
section
variable {tg : Nat → List Nat} {h h1 h2 g g1 : Hp} {m M M1 M2 M3 : Nat → Int32} {p q f op n b cc ol nl sm : Nat} {w : Int32} {c : Nat → Nat} {D : Nat → Prop}
theorem XS2.sp (X2 : XS2 h) (O : Own tg h) (X : XS h) (F : Fr D h h1) (hD : ∀ b, D b → b ≠ 0 ∧ ([5] <:+ tg b ∨ [4] <:+ tg b)) (PS : PtS h1 13) : XS2 h1 := by
  obtain ⟨t1, t2, t3, -, t5, -, t19, t48, -⟩ := tgs O X
  obtain ⟨a1, a2, a3, a4, a5, a6, a7, a8, a9, a10, a11, a12, s5, s13⟩ := X2
  have Hs : ∀ b, (b = 0 ∨ [3] <:+ tg b) → sm h h1 b := fun b u => F.sm (fun z => by
    obtain ⟨z1, z2⟩ := hD b z
    rcases u with u | u
    · exact z1 u
    · rcases z2 with z2 | z2
      · exact absurd (suf1 u z2) (by omega)
      · exact absurd (suf1 u z2) (by omega))
  have s5' : [3] <:+ tg 5 := by rw [t5]; exact List.suffix_cons _ _
  refine ⟨a1.fr F, a2.fr F, a3.fr F, a4.fr F, a5.fr F, a6.fr F, a7.fr F, a8.fr F, a9.fr F, a10.fr F, a11.fr F, a12.fr F, s5.congr (Hs 5 (Or.inr s5')) (fun j => ?_), PS⟩
  by_cases z : gP h 5 j = 0
  · exact Hs _ (Or.inl z)
  · exact Hs _ (Or.inr (by rw [tgc O z (by omega)]; exact s5'.trans (List.suffix_cons _ _)))
theorem PtS.of (S : PtS h p) (ek : kd h1 = kd h) (el : ln h1 = ln h) (eP : gP h1 = gP h) (e1 : gI h1 (gP h p 1) 0 = nI 0) (z10 : zO (gI h1 p 10)) (z11 : zO (gI h1 p 11)) (z2 : ∀ b, zO (gI h1 (gP h p 2) b)) : PtS h1 p := by
  obtain ⟨s1, s2, s3, s4, s5, s6, -⟩ := S
  unfold PtS ar
  rw [ek, el, eP]
  exact ⟨s1, s2, s3, s4, s5, s6, e1, z10, z11, z2⟩
/-- lines taken over, then new ones -/
theorem cw_b (O : Own tg h) (X : XS h) (X2 : XS2 h) (K : Rt tg h 19 5) (S : RmS h 19) (V : RmV h 19 m) (I : MI m) (vq : vP m q) (u3 : m (130 + 645 * q + 3) = nI 1) (hp : p = gP h (gP h 19 5) q) (p0 : p ≠ 0) (I1 : MIw M1) (C1 : MIc M1 q) (PX : PtX h 13 M1 q) (H0 : ∀ y, (y < 130 + 645 * q + 85 ∨ 130 + 645 * q + 645 ≤ y) → y ≠ 130 + 645 * q + 1 → M1 y = m y) (Ha : ∀ x, x < f → M1 (130 + 645 * q + 85 + x) = m (130 + 645 * q + 85 + x) ∧ M1 (130 + 645 * q + 125 + x) = m (130 + 645 * q + 125 + x)) (fn : f < Nn m (130 + 645 * q + 1)) (fP : f < nP M1 q) (Op : OPn m q f op) {v : Nat × Nat × Nat} (hv : wyT M1 q (m 0) (bgN m q op) = some v) (b6 : gI h (gP h 19 14) 6 = nI (nP M1 q)) (bk : kd h (gP h 19 14) = 0) (b12 : kd h (gP h (gP h 19 14) 12) = 20 ∧ ln h (gP h (gP h 19 14) 12) = 41) (e12 : ∀ i v, bgN m q op ≤ i → i < nP M1 q → wyT M1 q (m 0) i = some v → gI h (gP h (gP h 19 14) 12) i = nI (v.2.2 - 1)) (hM2 : M2 = clM M1 q op v.2.1 (lnB M1 q (m 0) (bgN m q op))) (hnl : nl = op + v.2.1) : ∃ g, Option.bind (MX5_takeLines h 13 p) (fun (h23 : Hp) => gg (kd h23 19 = 6) <| gg (kd h23 (gP h23 19 14) = 0) <| MX0_putLines h23 (gP h23 19 14) 13 (nI op) (nI (bgN m q op))) = some g ∧ Fr (fun y => y ≠ 0 ∧ (tg y = [4] ∨ ∃ j, tg y = [j, 4])) h g ∧ RmS g 19 ∧ RmV g 19 m ∧ PtS g 13 ∧ PtX g 13 M2 q ∧ gI g 13 9 = nI nl ∧ (∀ j, j < nl → gI g (gP h 13 3) j = M2 (130 + 645 * q + 5 + j)) ∧ (∀ j, j < nl → gI g (gP h 13 4) j = M2 (130 + 645 * q + 45 + j) - nI 1) := by
  have q1 := vq.1
  have J := I.2.1 q vq
  obtain ⟨e4, l40⟩ := J.2.2.2.2.2.1.eq (by omega)
  obtain ⟨tp, p3, t13, N13, pd, np, nq, -, tq, -, A13⟩ := sp_nm O X X2 S hp p0
  have P13 : PtS h 13 := X2.2.2.2.2.2.2.2.2.2.2.2.2.2
  obtain ⟨p', hp', ec, -, PS, PV⟩ := c_findPart_t S V I.1 vq
  rw [← hp] at hp'
  replace hp' := hp'.symm
  subst hp'
  have vq1 : vP M1 q := vq.b (fun x hx => H0 x (by omega) (by omega))
  obtain ⟨b1, h40, P2, Q2, bg⟩ := cl_ok I vq u3 fn Op I1 C1 H0 Ha fP hv
  obtain ⟨gb1, gb2, gb3⟩ := op_bg J u3 Op
  obtain ⟨x1, x2, x3, x4, x5, x6⟩ := lnX_f (t := m 0) I1 C1.x vq1 (fr := bgN m q op) (by omega) hv
  obtain ⟨c, hc⟩ : ∃ c, c = lnB M1 q (m 0) (bgN m q op) := ⟨_, rfl⟩
  rw [← hc] at hM2 x3 x4 x5 bg
  obtain ⟨n, hn⟩ : ∃ n, n = v.2.1 := ⟨_, rfl⟩
  rw [← hn] at hM2 hnl b1 h40 x1 x2 x4 x5 bg
  obtain ⟨c1, c2, c3, c4⟩ := cl_v (M := M1) (q := q) (c := c) h40
  rw [← hM2] at c1 c2 c3 c4
  have n40 : nP M1 q ≤ 40 := C1.x.n.2.1
  have o1 := Op.1
  -- 13 takes the lines
  obtain ⟨g3, k3, Y3⟩ := c_cpLines A13 P13 PS
  have z13 : ∀ j, j ≤ 4 → gP h 13 j ≠ 0 := fun j hj => by
    obtain ⟨-, s2, s3, s4, s5, s6, -⟩ := P13
    rcases (show j = 0 ∨ j = 1 ∨ j = 2 ∨ j = 3 ∨ j = 4 by omega) with rfl | rfl | rfl | rfl | rfl
    · exact s2.1
    · exact s3.1
    · exact s4.1
    · exact s5.1
    · exact s6.1
  have ta : ∀ j, gP h 13 j ≠ 0 → tg (gP h 13 j) = [j, 4] := fun j hj => by rw [tgc O hj (by omega), t13]
  have F3 : Fr (fun y => y ≠ 0 ∧ (tg y = [4] ∨ ∃ j, tg y = [j, 4])) h g3 := Y3.1.mono (fun y hy => by
    rcases hy with rfl | ⟨k, hk, rfl⟩
    · exact ⟨by omega, Or.inl t13⟩
    · exact ⟨hk, Or.inr ⟨k, ta k hk⟩⟩)
  have eP3 : gP g3 = gP h := F3.2.2.1
  have out3 : ∀ y, tg y ≠ [4] → (∀ j, tg y ≠ [j, 4]) → gI g3 y = gI h y := fun y h1 h2 => F3.2.2.2.2.2.2 y (fun z => by
    rcases z.2 with z | ⟨j, z⟩
    · exact h1 z
    · exact h2 j z)
  have b0 := S.2.2.2.2.2.2.2.2.2.2.2.2.2.2.2.1.1
  have t14 := K.a b0
  have bS := S.2.2.2.2.2.2.2.2.2.2.2.2.2.2.2.1.2
  have t1412 := K.o bS.2.2.2.2.2.1.1
  have P133 : PtS g3 13 := P13.of F3.1 F3.2.1 eP3 (by rw [Y3.2.2.2.1 1 (by simp) (z13 1 (by omega))]; exact P13.2.2.2.2.2.2.1) (by rw [Y3.2.2.1 10 (by simp)]; exact P13.2.2.2.2.2.2.2.1) (by rw [Y3.2.2.1 11 (by simp)]; exact P13.2.2.2.2.2.2.2.2.1) (fun b => by rw [Y3.2.2.2.1 2 (by simp) (z13 2 (by omega))]; exact P13.2.2.2.2.2.2.2.2.2 b)
  have tgn : ∀ j, j = 3 ∨ j = 4 → ∀ y, y = gP h 19 14 ∨ y = gP h (gP h 19 14) 12 ∨ y = 13 → Nq y (gP h 13 j) := fun j hj y hy e => by
    have tj := ta j (z13 j (by omega))
    rw [← e] at tj
    rcases hy with rfl | rfl | rfl
    · rw [t14] at tj; simp at tj
    · rw [t1412] at tj; simp at tj
    · rw [t13] at tj; simp at tj
  have n34 : Nq (gP h 13 3) (gP h 13 4) := fun e => by
    have := ta 3 (z13 3 (by omega))
    rw [e, ta 4 (z13 4 (by omega))] at this
    simp at this
  obtain ⟨-, s3k, s3l⟩ := P13.2.2.2.2.1
  obtain ⟨-, s4k, s4l⟩ := P13.2.2.2.2.2.1
  obtain ⟨g4, k4, F4', v9, v3, v4⟩ := c_putLg (g := g3) (b := gP h 19 14) (p := 13) (op := op) (n := n) (np := nP M1 q) (fr := bgN m q op) (c := c) (by rw [F3.1]; exact bk) (by rw [out3 _ (by rw [t14]; simp) (fun j => by rw [t14]; simp)]; exact b6) (by rw [F3.1, F3.2.1, eP3]; exact b12) (by rw [F3.1]; exact P13.1) (by rw [F3.1, F3.2.1, eP3]; exact ⟨s3k, s3l⟩) (by rw [F3.1, F3.2.1, eP3]; exact ⟨s4k, s4l⟩) (by rw [eP3]; exact fun y hy => ⟨tgn 3 (Or.inl rfl) y hy, tgn 4 (Or.inr rfl) y hy⟩) (by rw [eP3]; exact n34) h40 n40 x3 x4 (fun j hj => ⟨(x5 j hj).2.1, (x5 j hj).2.2.1⟩) (fun j hj => by
    obtain ⟨y1, y2, y3, w, y4, y5⟩ := x5 j hj
    rw [eP3, out3 _ (by rw [t1412]; simp) (fun j => by rw [t1412]; simp), e12 (c j) w y1 (by omega) y4, y5])
  rw [eP3] at F4' v3 v4
  have F4 : Fr (fun y => y ≠ 0 ∧ (tg y = [4] ∨ ∃ j, tg y = [j, 4])) h g4 := F3.trans (F4'.mono (fun y hy => by
    rcases hy with rfl | rfl | rfl
    · exact ⟨z13 3 (by omega), Or.inr ⟨3, ta 3 (z13 3 (by omega))⟩⟩
    · exact ⟨z13 4 (by omega), Or.inr ⟨4, ta 4 (z13 4 (by omega))⟩⟩
    · exact ⟨by omega, Or.inl t13⟩))
  have n4j : ∀ j, j ≤ 2 → gI g4 (gP h 13 j) = gI h (gP h 13 j) := fun j hj => by
    have tj := ta j (z13 j (by omega))
    rw [F4'.2.2.2.2.2.2 _ (fun z => ?_), Y3.2.2.2.1 j (by simp; omega) (z13 j (by omega))]
    rcases z with z | z | z
    · rw [z, ta 3 (z13 3 (by omega))] at tj
      simp at tj
      omega
    · rw [z, ta 4 (z13 4 (by omega))] at tj
      simp at tj
      omega
    · rw [z, t13] at tj
      simp at tj
  have n4c : ∀ j, j ≠ 9 → gI g4 13 j = gI h 13 j := fun j hj => by
    rw [v9, if_neg hj]
    exact Y3.2.2.1 j (by simp; exact hj)
  obtain ⟨S4, V4⟩ := rm_13 K F4 (fun y hy => hy) S V
  have eP4 : gP g4 = gP h := F4.2.2.1
  refine ⟨g4, ?_, F4, S4, V4, ?_, ?_, by rw [v9, if_pos rfl, hnl], fun j hj => ?_, fun j hj => ?_⟩
  · rw [k3, ob_some, F3.1, gg_t S.1, eP3, gg_t bk, k4]
  · exact P13.of F4.1 F4.2.1 eP4 (by rw [n4j 1 (by omega)]; exact P13.2.2.2.2.2.2.1) (by rw [n4c 10 (by omega)]; exact P13.2.2.2.2.2.2.2.1) (by rw [n4c 11 (by omega)]; exact P13.2.2.2.2.2.2.2.2.1) (fun b => by rw [n4j 2 (by omega)]; exact P13.2.2.2.2.2.2.2.2.2 b)
  · exact PX.k eP4 (n4c 5 (by omega)) (n4c 6 (by omega)) (n4c 7 (by omega)) (n4c 8 (by omega)) n4j (c4 _ (by omega)) (c4 _ (by omega)) (c4 _ (by omega)) (c4 _ (by omega)) (fun y hy => c4 y (by omega))
  · rw [v3]
    have cl := PV.2.2.2.2.2.2.2.2 u3
    by_cases z : op ≤ j ∧ j < op + n
    · have := (c1 (j - op) (by omega)).1
      rw [show op + (j - op) = j by omega] at this
      rw [if_pos z, this]
    · have jo : j < op := by omega
      have := cy_at Y3 (k := 3) (by simp) s3l (show j < 40 by omega)
      rw [eP3] at this
      rw [if_neg z, this, (cl j (by omega)).1, (c3 j jo).1, H0 _ (by omega) (by omega)]
  · rw [v4]
    have cl := PV.2.2.2.2.2.2.2.2 u3
    by_cases z : op ≤ j ∧ j < op + n
    · have := (c1 (j - op) (by omega)).2
      rw [show op + (j - op) = j by omega] at this
      rw [if_pos z, this]
      decide
    · have jo : j < op := by omega
      have := cy_at Y3 (k := 4) (by simp) s4l (show j < 40 by omega)
      rw [eP3] at this
      rw [if_neg z, this, (cl j (by omega)).2, (c3 j jo).2, H0 _ (by omega) (by omega)]
end
