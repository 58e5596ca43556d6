noncomputable def MX3_takeIfBetter (h : Hp) (v0 : Nat) (v1 : Int32) : Option Hp :=
  gg (β := Hp) (kd h v0 = 2) <|
  if (gI h v0 1) < v1 then
    lt (α := Hp) (β := Option Hp) (sI h v0 1 v1) fun (h3 : Hp) =>
    gg (β := Hp) (kd h (gP h v0 5) = 20) <|
    gg (β := Hp) (kd h (gP h v0 3) = 20) <|
    gg (β := Hp) (cpB (0 : Int32) (0 : Int32) (gI h3 v0 0) (ln h3 (gP h v0 5)) (ln h3 (gP h v0 3)) = true) <|
    lt (α := Hp) (β := Option Hp) (rI h3 (gP h v0 3) (va_cpy (gI h3 (gP h v0 5)) (gI h3 (gP h v0 3)) (0 : Int32).toNatClampNeg (0 : Int32).toNatClampNeg (gI h3 v0 0).toNatClampNeg)) fun (h11 : Hp) =>
    gg (β := Hp) (kd h (gP h v0 6) = 20) <|
    gg (β := Hp) (kd h (gP h v0 4) = 20) <|
    gg (β := Hp) (cpB (0 : Int32) (0 : Int32) (gI h11 v0 0) (ln h11 (gP h v0 6)) (ln h11 (gP h v0 4)) = true) <|
    lt (α := Hp) (β := Option Hp) (rI h11 (gP h v0 4) (va_cpy (gI h11 (gP h v0 6)) (gI h11 (gP h v0 4)) (0 : Int32).toNatClampNeg (0 : Int32).toNatClampNeg (gI h11 v0 0).toNatClampNeg)) fun (h19 : Hp) =>
    some h19
  else
    some h
set_option maxRecDepth 100000 in
set_option maxHeartbeats 8000000 in
theorem eX3_takeIfBetter {d : Nat} {h : Hp} {v0 : Nat} {v1 : Int32} {h9 : Hp} (H : MX3_takeIfBetter h v0 v1 = some h9) : J (d) YX3_takeIfBetter 0 [.ref v0, .int v1] [] h oV h9 := by
  unfold MX3_takeIfBetter at H
  refine J_iload_n 1 dX3_takeIfBetter_0 rfl rfl ?_
  refine J_aload_n 0 dX3_takeIfBetter_1 rfl rfl ?_
  obtain ⟨g1, H⟩ := gd H
  refine J_getI 2 1 dX3_takeIfBetter_2 g1 flX3_15 rfl ?_
  refine J_icmp_gt 9 dX3_takeIfBetter_5 rfl (fun q2 => ?_) (fun q2 => ?_)
  · replace H := br1 q2 H
    refine J_aload_n 0 dX3_takeIfBetter_9 rfl rfl ?_
    refine J_iload_n 1 dX3_takeIfBetter_10 rfl rfl ?_
    obtain ⟨h3, e4, H⟩ := lt_el H
    refine J_pI 2 1 dX3_takeIfBetter_11 g1 flX3_15 rfl rfl e4 ?_
    have c5 := ekI e4
    have c6 := elI e4
    have c7 := epI e4
    refine J_aload_n 0 dX3_takeIfBetter_14 rfl rfl ?_
    refine J_gP 2 5 dX3_takeIfBetter_15 (kq c5 g1) flX3_28 rfl (congrFun (congrFun c7 v0) 5) ?_
    refine J_iconst (0 : Int32) dX3_takeIfBetter_18 kc_0 ?_
    refine J_aload_n 0 dX3_takeIfBetter_19 rfl rfl ?_
    refine J_gP 2 3 dX3_takeIfBetter_20 (kq c5 g1) flX3_22 rfl (congrFun (congrFun c7 v0) 3) ?_
    refine J_iconst (0 : Int32) dX3_takeIfBetter_23 kc_0 ?_
    refine J_aload_n 0 dX3_takeIfBetter_24 rfl rfl ?_
    refine J_getI 2 0 dX3_takeIfBetter_25 (kq c5 g1) flX3_9 rfl ?_
    obtain ⟨g8, H⟩ := gd H
    obtain ⟨g9, H⟩ := gd H
    obtain ⟨g10, H⟩ := gd H
    obtain ⟨h11, e12, H⟩ := lt_el H
    refine J_cp 20 dX3_takeIfBetter_28 mlX3_83 (Or.inl rfl) (kq c5 g8) (kq c5 g9) g10 rfl e12 ?_
    have c13 := (ekR e12).trans c5
    have c14 := (elR e12).trans c6
    have c15 := (epR e12).trans c7
    refine J_aload_n 0 dX3_takeIfBetter_31 rfl rfl ?_
    refine J_gP 2 6 dX3_takeIfBetter_32 (kq c13 g1) flX3_31 rfl (congrFun (congrFun c15 v0) 6) ?_
    refine J_iconst (0 : Int32) dX3_takeIfBetter_35 kc_0 ?_
    refine J_aload_n 0 dX3_takeIfBetter_36 rfl rfl ?_
    refine J_gP 2 4 dX3_takeIfBetter_37 (kq c13 g1) flX3_25 rfl (congrFun (congrFun c15 v0) 4) ?_
    refine J_iconst (0 : Int32) dX3_takeIfBetter_40 kc_0 ?_
    refine J_aload_n 0 dX3_takeIfBetter_41 rfl rfl ?_
    refine J_getI 2 0 dX3_takeIfBetter_42 (kq c13 g1) flX3_9 rfl ?_
    obtain ⟨g16, H⟩ := gd H
    obtain ⟨g17, H⟩ := gd H
    obtain ⟨g18, H⟩ := gd H
    obtain ⟨h19, e20, H⟩ := lt_el H
    refine J_cp 20 dX3_takeIfBetter_45 mlX3_83 (Or.inl rfl) (kq c13 g16) (kq c13 g17) g18 rfl e20 ?_
    have c21 := (ekR e20).trans c13
    have c22 := (elR e20).trans c14
    have c23 := (epR e20).trans c15
    cases H
    exact J_ret dX3_takeIfBetter_48 rfl
  · replace H := br0 q2 H
    cases H
    exact J_ret dX3_takeIfBetter_8 rfl
theorem okX3_takeIfBetter {d : Nat} {h : Hp} {v0 : Nat} {v1 : Int32} {h9 : Hp} (H : MX3_takeIfBetter h v0 v1 = some h9) : CT (d) YX3_takeIfBetter [.ref v0, .int v1] h oV h9 := CT_of (by decide +kernel) (Nat.le_of_ble_eq_true rfl) (eX3_takeIfBetter H)
noncomputable def BX3_chooseKeep_21 (rc : Nat → Hp → Nat → Int32 → Int32 → Option Hp) (h : Hp) (v0 : Nat) (v1 : Int32) (v2 : Int32) (v3 : Int32) : Option ((Int32 × Hp) ⊕ Hp) :=
  if v3 < (1 : Int32) then
    some (.inr (h))
  else
    gg (β := ((Int32 × Hp) ⊕ Hp)) (kd h v0 = 2) <|
    gg (β := ((Int32 × Hp) ⊕ Hp)) (kd h (gP h v0 8) = 20) <|
    gg (β := ((Int32 × Hp) ⊕ Hp)) (inB ((v1 * (6 : Int32)) + v3) (ln h (gP h v0 8)) = true) <|
    gg (β := ((Int32 × Hp) ⊕ Hp)) (kd h (gP h v0 5) = 20) <|
    gg (β := ((Int32 × Hp) ⊕ Hp)) (inB v1 (ln h (gP h v0 5)) = true) <|
    gg (β := ((Int32 × Hp) ⊕ Hp)) (kd h (gP h v0 9) = 20) <|
    gg (β := ((Int32 × Hp) ⊕ Hp)) (inB (gI h (gP h v0 5) v1.toNatClampNeg) (ln h (gP h v0 9)) = true) <|
    if (gI h (gP h v0 9) (gI h (gP h v0 5) v1.toNatClampNeg).toNatClampNeg) < (gI h (gP h v0 8) ((v1 * (6 : Int32)) + v3).toNatClampNeg) then
      some (.inl ((v3 + (-1 : Int32)), h))
    else
      gg (β := ((Int32 × Hp) ⊕ Hp)) (kd h (gP h v0 6) = 20) <|
      gg (β := ((Int32 × Hp) ⊕ Hp)) (inB v1 (ln h (gP h v0 6)) = true) <|
      lt (α := Hp) (β := Option ((Int32 × Hp) ⊕ Hp)) (sI h (gP h v0 6) v1.toNatClampNeg v3) fun (h16 : Hp) =>
      gg (β := ((Int32 × Hp) ⊕ Hp)) (inB (gI h16 (gP h v0 5) v1.toNatClampNeg) (ln h (gP h v0 9)) = true) <|
      lt (α := Hp) (β := Option ((Int32 × Hp) ⊕ Hp)) (sI h16 (gP h v0 9) (gI h16 (gP h v0 5) v1.toNatClampNeg).toNatClampNeg ((gI h16 (gP h v0 9) (gI h16 (gP h v0 5) v1.toNatClampNeg).toNatClampNeg) - (gI h (gP h v0 8) ((v1 * (6 : Int32)) + v3).toNatClampNeg))) fun (h22 : Hp) =>
      Option.bind (α := Hp) (β := ((Int32 × Hp) ⊕ Hp)) (rc 0 h22 v0 (v1 + (1 : Int32)) (v2 + (gI h (gP h v0 8) ((v1 * (6 : Int32)) + v3).toNatClampNeg))) fun (h28 : Hp) =>
      gg (β := ((Int32 × Hp) ⊕ Hp)) (kd h28 v0 = 2) <|
      gg (β := ((Int32 × Hp) ⊕ Hp)) (kd h28 (gP h28 v0 5) = 20) <|
      gg (β := ((Int32 × Hp) ⊕ Hp)) (inB v1 (ln h28 (gP h28 v0 5)) = true) <|
      gg (β := ((Int32 × Hp) ⊕ Hp)) (kd h28 (gP h28 v0 9) = 20) <|
      gg (β := ((Int32 × Hp) ⊕ Hp)) (inB (gI h28 (gP h28 v0 5) v1.toNatClampNeg) (ln h28 (gP h28 v0 9)) = true) <|
      lt (α := Hp) (β := Option ((Int32 × Hp) ⊕ Hp)) (sI h28 (gP h28 v0 9) (gI h28 (gP h28 v0 5) v1.toNatClampNeg).toNatClampNeg ((gI h28 (gP h28 v0 9) (gI h28 (gP h28 v0 5) v1.toNatClampNeg).toNatClampNeg) + (gI h (gP h v0 8) ((v1 * (6 : Int32)) + v3).toNatClampNeg))) fun (h34 : Hp) =>
      some (.inl ((v3 + (-1 : Int32)), h34))
set_option maxRecDepth 100000 in
set_option maxHeartbeats 8000000 in
theorem bX3_chooseKeep_21 {d u : Nat} {rc : Nat → Hp → Nat → Int32 → Int32 → Option Hp} {h : Hp} {v0 : Nat} {v1 : Int32} {v2 : Int32} {v3 : Int32} {h9 : Hp} {x : ((Int32 × Hp) ⊕ Hp)} (hrc : ∀ (t : Nat) (h : Hp) (a0 : Nat) (a1 : Int32) (a2 : Int32) (h1 : Hp), rc t h a0 a1 a2 = some h1 → CT (d + u + 0) ((fun _ => YX3_chooseKeep) t) [.ref a0, .int a1, .int a2] h (oV) h1) (H : BX3_chooseKeep_21 rc h v0 v1 v2 v3 = some x) (hb0 : ∀ s : Int32 × Hp, x = .inl s → J (d + u + 0 + 1) YX3_chooseKeep 21 [.ref v0, .int v1, .int v2, .int s.1, Value.null] [] s.2 oV h9) (hx : ∀ z : Hp, x = .inr (z) → z = h9) : J (d + u + 0 + 1) YX3_chooseKeep 21 [.ref v0, .int v1, .int v2, .int v3, Value.null] [] h oV h9 := by
  unfold BX3_chooseKeep_21 at H
  refine J_iload_n 3 dX3_chooseKeep_21 rfl rfl ?_
  refine J_iconst (1 : Int32) dX3_chooseKeep_22 kc_1 ?_
  refine J_icmp_lt 111 dX3_chooseKeep_23 rfl (fun q5 => ?_) (fun q5 => ?_)
  · replace H := br1 q5 H
    cases H
    cases hx _ rfl
    exact J_ret dX3_chooseKeep_111 rfl
  · replace H := br0 q5 H
    refine J_aload_n 0 dX3_chooseKeep_26 rfl rfl ?_
    obtain ⟨g6, H⟩ := gd H
    refine J_gP 2 8 dX3_chooseKeep_27 g6 flX3_37 rfl rfl ?_
    refine J_iload_n 1 dX3_chooseKeep_30 rfl rfl ?_
    refine J_bipush (6 : Int32) dX3_chooseKeep_31 kb_6 ?_
    refine J_imul dX3_chooseKeep_33 ?_
    refine J_iload_n 3 dX3_chooseKeep_34 rfl rfl ?_
    refine J_iadd dX3_chooseKeep_35 ?_
    obtain ⟨g7, H⟩ := gd H
    obtain ⟨g8, H⟩ := gd H
    refine J_iald dX3_chooseKeep_36 g7 (inB_ok g8) ?_
    refine J_istore dX3_chooseKeep_37 (by decide) (ls' := [.ref v0, .int v1, .int v2, .int v3, .int (gI h (gP h v0 8) ((v1 * (6 : Int32)) + v3).toNatClampNeg)]) rfl ?_
    refine J_iload dX3_chooseKeep_39 rfl ?_
    refine J_aload_n 0 dX3_chooseKeep_41 rfl rfl ?_
    refine J_gP 2 9 dX3_chooseKeep_42 g6 flX3_40 rfl rfl ?_
    refine J_aload_n 0 dX3_chooseKeep_45 rfl rfl ?_
    refine J_gP 2 5 dX3_chooseKeep_46 g6 flX3_28 rfl rfl ?_
    refine J_iload_n 1 dX3_chooseKeep_49 rfl rfl ?_
    obtain ⟨g9, H⟩ := gd H
    obtain ⟨g10, H⟩ := gd H
    refine J_iald dX3_chooseKeep_50 g9 (inB_ok g10) ?_
    obtain ⟨g11, H⟩ := gd H
    obtain ⟨g12, H⟩ := gd H
    refine J_iald dX3_chooseKeep_51 g11 (inB_ok g12) ?_
    refine J_icmp_gt 105 dX3_chooseKeep_52 rfl (fun q13 => ?_) (fun q13 => ?_)
    · replace H := br1 q13 H
      refine J_iinc (v3 + (-1 : Int32)) dX3_chooseKeep_105 rfl (congrArg (HAdd.hAdd v3) kc_m1) (by decide) (ls' := [.ref v0, .int v1, .int v2, .int (v3 + (-1 : Int32)), .int (gI h (gP h v0 8) ((v1 * (6 : Int32)) + v3).toNatClampNeg)]) rfl ?_
      refine J_goto 21 dX3_chooseKeep_108 rfl ?_
      cases H
      exact J_dr (hb0 _ rfl) ⟨rfl, ⟨rfl, ⟨rfl, ⟨rfl, trivial⟩⟩⟩⟩
    · replace H := br0 q13 H
      refine J_aload_n 0 dX3_chooseKeep_55 rfl rfl ?_
      refine J_gP 2 6 dX3_chooseKeep_56 g6 flX3_31 rfl rfl ?_
      refine J_iload_n 1 dX3_chooseKeep_59 rfl rfl ?_
      refine J_iload_n 3 dX3_chooseKeep_60 rfl rfl ?_
      obtain ⟨g14, H⟩ := gd H
      obtain ⟨g15, H⟩ := gd H
      obtain ⟨h16, e17, H⟩ := lt_el H
      refine J_sI dX3_chooseKeep_61 g14 (inB_ok g15) e17 ?_
      have c18 := ekI e17
      have c19 := elI e17
      have c20 := epI e17
      refine J_aload_n 0 dX3_chooseKeep_62 rfl rfl ?_
      refine J_gP 2 9 dX3_chooseKeep_63 (kq c18 g6) flX3_40 rfl (congrFun (congrFun c20 v0) 9) ?_
      refine J_aload_n 0 dX3_chooseKeep_66 rfl rfl ?_
      refine J_gP 2 5 dX3_chooseKeep_67 (kq c18 g6) flX3_28 rfl (congrFun (congrFun c20 v0) 5) ?_
      refine J_iload_n 1 dX3_chooseKeep_70 rfl rfl ?_
      refine J_iald dX3_chooseKeep_71 (kq c18 g9) (lq c19 g10) ?_
      refine J_dup2 dX3_chooseKeep_72 rfl rfl ?_
      obtain ⟨g21, H⟩ := gd H
      refine J_iald dX3_chooseKeep_73 (kq c18 g11) (lq c19 g21) ?_
      refine J_iload dX3_chooseKeep_74 rfl ?_
      refine J_isub dX3_chooseKeep_76 ?_
      obtain ⟨h22, e23, H⟩ := lt_el H
      refine J_sI dX3_chooseKeep_77 (kq c18 g11) (lq c19 g21) e23 ?_
      have c24 := (ekI e23).trans c18
      have c25 := (elI e23).trans c19
      have c26 := (epI e23).trans c20
      refine J_aload_n 0 dX3_chooseKeep_78 rfl rfl ?_
      refine J_iload_n 1 dX3_chooseKeep_79 rfl rfl ?_
      refine J_iconst (1 : Int32) dX3_chooseKeep_80 kc_1 ?_
      refine J_iadd dX3_chooseKeep_81 ?_
      refine J_iload_n 2 dX3_chooseKeep_82 rfl rfl ?_
      refine J_iload dX3_chooseKeep_83 rfl ?_
      refine J_iadd dX3_chooseKeep_85 ?_
      obtain ⟨h28, e27, H⟩ := bd H
      refine J_cV (as := [.int (v1 + (1 : Int32)), .int (v2 + (gI h (gP h v0 8) ((v1 * (6 : Int32)) + v3).toNatClampNeg))]) 2 YX3_chooseKeep 2 dX3_chooseKeep_86 moX3_chooseKeep mvX3_chooseKeep mlX3_76 (kq c24 g6) rfl rfl (hrc 0 _ _ _ _ _ e27) rfl rfl [] rfl rfl (st2 := []) rfl ?_
      refine J_aload_n 0 dX3_chooseKeep_89 rfl rfl ?_
      obtain ⟨g29, H⟩ := gd H
      refine J_gP 2 9 dX3_chooseKeep_90 g29 flX3_40 rfl rfl ?_
      refine J_aload_n 0 dX3_chooseKeep_93 rfl rfl ?_
      refine J_gP 2 5 dX3_chooseKeep_94 g29 flX3_28 rfl rfl ?_
      refine J_iload_n 1 dX3_chooseKeep_97 rfl rfl ?_
      obtain ⟨g30, H⟩ := gd H
      obtain ⟨g31, H⟩ := gd H
      refine J_iald dX3_chooseKeep_98 g30 (inB_ok g31) ?_
      refine J_dup2 dX3_chooseKeep_99 rfl rfl ?_
      obtain ⟨g32, H⟩ := gd H
      obtain ⟨g33, H⟩ := gd H
      refine J_iald dX3_chooseKeep_100 g32 (inB_ok g33) ?_
      refine J_iload dX3_chooseKeep_101 rfl ?_
      refine J_iadd dX3_chooseKeep_103 ?_
      obtain ⟨h34, e35, H⟩ := lt_el H
      refine J_sI dX3_chooseKeep_104 g32 (inB_ok g33) e35 ?_
      have c36 := ekI e35
      have c37 := elI e35
      have c38 := epI e35
      refine J_iinc (v3 + (-1 : Int32)) dX3_chooseKeep_105 rfl (congrArg (HAdd.hAdd v3) kc_m1) (by decide) (ls' := [.ref v0, .int v1, .int v2, .int (v3 + (-1 : Int32)), .int (gI h (gP h v0 8) ((v1 * (6 : Int32)) + v3).toNatClampNeg)]) rfl ?_
      refine J_goto 21 dX3_chooseKeep_108 rfl ?_
      cases H
      exact J_dr (hb0 _ rfl) ⟨rfl, ⟨rfl, ⟨rfl, ⟨rfl, trivial⟩⟩⟩⟩
noncomputable def MX3_chooseKeep_21 (rc : Nat → Hp → Nat → Int32 → Int32 → Option Hp) (h : Hp) (v0 : Nat) (v1 : Int32) (v2 : Int32) (v3 : Int32) : Option Hp := it (fun q : Int32 × Hp => BX3_chooseKeep_21 rc q.2 v0 v1 v2 q.1) (v3, h)
set_option maxRecDepth 100000 in
set_option maxHeartbeats 8000000 in
theorem kX3_chooseKeep_21 {d u : Nat} {rc : Nat → Hp → Nat → Int32 → Int32 → Option Hp} {h : Hp} {v0 : Nat} {v1 : Int32} {v2 : Int32} {v3 : Int32} {h9 : Hp} (hrc : ∀ (t : Nat) (h : Hp) (a0 : Nat) (a1 : Int32) (a2 : Int32) (h1 : Hp), rc t h a0 a1 a2 = some h1 → CT (d + u + 0) ((fun _ => YX3_chooseKeep) t) [.ref a0, .int a1, .int a2] h (oV) h1) (H : MX3_chooseKeep_21 rc h v0 v1 v2 v3 = some h9) : J (d + u + 0 + 1) YX3_chooseKeep 21 [.ref v0, .int v1, .int v2, .int v3, Value.null] [] h oV h9 := by
  unfold MX3_chooseKeep_21 at H
  refine it_J (G := (fun q : Int32 × Hp => J (d + u + 0 + 1) YX3_chooseKeep 21 [.ref v0, .int v1, .int v2, .int q.1, Value.null] [] q.2 oV h9)) (Q := (fun y : Hp => y = h9)) (fun q x Hq hm => ?_) H rfl
  exact bX3_chooseKeep_21 hrc Hq (fun s hs => by subst hs; exact hm) (fun z hz => by subst hz; exact hm)
noncomputable def BX3_chooseKeep (rc : Nat → Hp → Nat → Int32 → Int32 → Option Hp) (h : Hp) (v0 : Nat) (v1 : Int32) (v2 : Int32) : Option Hp :=
  gg (β := Hp) (kd h v0 = 2) <|
  if v1 < (gI h v0 0) then
    gg (β := Hp) (kd h (gP h v0 7) = 20) <|
    gg (β := Hp) (inB v1 (ln h (gP h v0 7)) = true) <|
    MX3_chooseKeep_21 rc h v0 v1 v2 (gI h (gP h v0 7) v1.toNatClampNeg)
  else
    Option.bind (α := Hp) (β := Hp) (MX3_takeIfBetter h v0 v2) fun (h40 : Hp) =>
    some h40
set_option maxRecDepth 100000 in
set_option maxHeartbeats 8000000 in
theorem eX3_chooseKeep {d u : Nat} {rc : Nat → Hp → Nat → Int32 → Int32 → Option Hp} {h : Hp} {v0 : Nat} {v1 : Int32} {v2 : Int32} {h9 : Hp} (hrc : ∀ (t : Nat) (h : Hp) (a0 : Nat) (a1 : Int32) (a2 : Int32) (h1 : Hp), rc t h a0 a1 a2 = some h1 → CT (d + u + 0) ((fun _ => YX3_chooseKeep) t) [.ref a0, .int a1, .int a2] h (oV) h1) (H : BX3_chooseKeep rc h v0 v1 v2 = some h9) : J (d + u + 0 + 1) YX3_chooseKeep 0 [.ref v0, .int v1, .int v2, Value.null, Value.null] [] h oV h9 := by
  unfold BX3_chooseKeep at H
  refine J_iload_n 1 dX3_chooseKeep_0 rfl rfl ?_
  refine J_aload_n 0 dX3_chooseKeep_1 rfl rfl ?_
  obtain ⟨g1, H⟩ := gd H
  refine J_getI 2 0 dX3_chooseKeep_2 g1 flX3_9 rfl ?_
  refine J_icmp_lt 14 dX3_chooseKeep_5 rfl (fun q2 => ?_) (fun q2 => ?_)
  · replace H := br1 q2 H
    refine J_aload_n 0 dX3_chooseKeep_14 rfl rfl ?_
    refine J_gP 2 7 dX3_chooseKeep_15 g1 flX3_34 rfl rfl ?_
    refine J_iload_n 1 dX3_chooseKeep_18 rfl rfl ?_
    obtain ⟨g3, H⟩ := gd H
    obtain ⟨g4, H⟩ := gd H
    refine J_iald dX3_chooseKeep_19 g3 (inB_ok g4) ?_
    refine J_istore_n 3 dX3_chooseKeep_20 rfl (by decide) (ls' := [.ref v0, .int v1, .int v2, .int (gI h (gP h v0 7) v1.toNatClampNeg), Value.null]) rfl ?_
    exact J_dr (kX3_chooseKeep_21 hrc H ) ⟨rfl, ⟨rfl, ⟨rfl, ⟨rfl, trivial⟩⟩⟩⟩
  · replace H := br0 q2 H
    refine J_aload_n 0 dX3_chooseKeep_8 rfl rfl ?_
    refine J_iload_n 2 dX3_chooseKeep_9 rfl rfl ?_
    obtain ⟨h40, e39, H⟩ := bd H
    refine J_cV (as := [.int v2]) 2 YX3_takeIfBetter 1 dX3_chooseKeep_10 moX3_takeIfBetter mvX3_takeIfBetter mlX3_80 g1 rfl rfl (okX3_takeIfBetter (d := d + u) e39) rfl rfl [] rfl rfl (st2 := []) rfl ?_
    cases H
    exact J_ret dX3_chooseKeep_13 rfl
noncomputable def RX3_chooseKeep : Nat → Nat → Hp → Nat → Int32 → Int32 → Option Hp
  | 0 => fun _ _ _ _ _ => none
  | u + 1 => fun t h a0 a1 a2 => BX3_chooseKeep (RX3_chooseKeep u) h a0 a1 a2
theorem okRX3_chooseKeep (d : Nat) : ∀ (u t : Nat) (h : Hp) (a0 : Nat) (a1 : Int32) (a2 : Int32) (h1 : Hp), RX3_chooseKeep u t h a0 a1 a2 = some h1 → CT (d + u + 0) (YX3_chooseKeep) [.ref a0, .int a1, .int a2] h (oV) h1 := by
  intro u
  induction u with
  | zero => intro t h a0 a1 a2 h1 H; cases H
  | succ u ih =>
    intro t h a0 a1 a2 h1 H
    simp only [RX3_chooseKeep] at H
    exact CT_of (by decide +kernel) (Nat.le_of_ble_eq_true rfl) (eX3_chooseKeep (d := d) (u := u) ih H)
noncomputable def MX3_chooseKeep (u : Nat) (h : Hp) (v0 : Nat) (v1 : Int32) (v2 : Int32) : Option Hp := RX3_chooseKeep u 0 h v0 v1 v2
theorem okX3_chooseKeep {d : Nat} {h : Hp} {v0 : Nat} {v1 : Int32} {v2 : Int32} {h9 : Hp} (H : MX3_chooseKeep 30 h v0 v1 v2 = some h9) : CT (d + 30) YX3_chooseKeep [.ref v0, .int v1, .int v2] h oV h9 := okRX3_chooseKeep d 30 0 _ _ _ _ _ H
noncomputable def BX3_chooseColumn_17 (rc : Nat → Hp → Nat → Int32 → Option Hp) (h : Hp) (v0 : Nat) (v1 : Int32) (v2 : Int32) : Option ((Int32 × Hp) ⊕ Hp) :=
  gg (β := ((Int32 × Hp) ⊕ Hp)) (kd h v0 = 2) <|
  if (gI h v0 10) ≤ v2 then
    some (.inr (h))
  else
    gg (β := ((Int32 × Hp) ⊕ Hp)) (kd h (gP h v0 5) = 20) <|
    gg (β := ((Int32 × Hp) ⊕ Hp)) (inB v1 (ln h (gP h v0 5)) = true) <|
    lt (α := Hp) (β := Option ((Int32 × Hp) ⊕ Hp)) (sI h (gP h v0 5) v1.toNatClampNeg v2) fun (h7 : Hp) =>
    Option.bind (α := Hp) (β := ((Int32 × Hp) ⊕ Hp)) (rc 0 h7 v0 (v1 + (1 : Int32))) fun (h13 : Hp) =>
    some (.inl ((v2 + (1 : Int32)), h13))
set_option maxRecDepth 100000 in
set_option maxHeartbeats 8000000 in
theorem bX3_chooseColumn_17 {d u : Nat} {rc : Nat → Hp → Nat → Int32 → Option Hp} {h : Hp} {v0 : Nat} {v1 : Int32} {v2 : Int32} {h9 : Hp} {x : ((Int32 × Hp) ⊕ Hp)} (hrc : ∀ (t : Nat) (h : Hp) (a0 : Nat) (a1 : Int32) (h1 : Hp), rc t h a0 a1 = some h1 → CT (d + u + 30) ((fun _ => YX3_chooseColumn) t) [.ref a0, .int a1] h (oV) h1) (H : BX3_chooseColumn_17 rc h v0 v1 v2 = some x) (hb0 : ∀ s : Int32 × Hp, x = .inl s → J (d + u + 30 + 1) YX3_chooseColumn 17 [.ref v0, .int v1, .int s.1] [] s.2 oV h9) (hx : ∀ z : Hp, x = .inr (z) → z = h9) : J (d + u + 30 + 1) YX3_chooseColumn 17 [.ref v0, .int v1, .int v2] [] h oV h9 := by
  unfold BX3_chooseColumn_17 at H
  refine J_iload_n 2 dX3_chooseColumn_17 rfl rfl ?_
  refine J_aload_n 0 dX3_chooseColumn_18 rfl rfl ?_
  obtain ⟨g3, H⟩ := gd H
  refine J_getI 2 10 dX3_chooseColumn_19 g3 flX3_43 rfl ?_
  refine J_icmp_ge 45 dX3_chooseColumn_22 rfl (fun q4 => ?_) (fun q4 => ?_)
  · replace H := br1 q4 H
    cases H
    cases hx _ rfl
    exact J_ret dX3_chooseColumn_45 rfl
  · replace H := br0 q4 H
    refine J_aload_n 0 dX3_chooseColumn_25 rfl rfl ?_
    refine J_gP 2 5 dX3_chooseColumn_26 g3 flX3_28 rfl rfl ?_
    refine J_iload_n 1 dX3_chooseColumn_29 rfl rfl ?_
    refine J_iload_n 2 dX3_chooseColumn_30 rfl rfl ?_
    obtain ⟨g5, H⟩ := gd H
    obtain ⟨g6, H⟩ := gd H
    obtain ⟨h7, e8, H⟩ := lt_el H
    refine J_sI dX3_chooseColumn_31 g5 (inB_ok g6) e8 ?_
    have c9 := ekI e8
    have c10 := elI e8
    have c11 := epI e8
    refine J_aload_n 0 dX3_chooseColumn_32 rfl rfl ?_
    refine J_iload_n 1 dX3_chooseColumn_33 rfl rfl ?_
    refine J_iconst (1 : Int32) dX3_chooseColumn_34 kc_1 ?_
    refine J_iadd dX3_chooseColumn_35 ?_
    obtain ⟨h13, e12, H⟩ := bd H
    refine J_cV (as := [.int (v1 + (1 : Int32))]) 2 YX3_chooseColumn 1 dX3_chooseColumn_36 moX3_chooseColumn mvX3_chooseColumn mlX3_60 (kq c9 g3) rfl rfl (hrc 0 _ _ _ _ e12) rfl rfl [] rfl rfl (st2 := []) rfl ?_
    refine J_iinc (v2 + (1 : Int32)) dX3_chooseColumn_39 rfl (congrArg (HAdd.hAdd v2) kc_1) (by decide) (ls' := [.ref v0, .int v1, .int (v2 + (1 : Int32))]) rfl ?_
    refine J_goto 17 dX3_chooseColumn_42 rfl ?_
    cases H
    exact J_dr (hb0 _ rfl) ⟨rfl, ⟨rfl, ⟨rfl, trivial⟩⟩⟩
noncomputable def MX3_chooseColumn_17 (rc : Nat → Hp → Nat → Int32 → Option Hp) (h : Hp) (v0 : Nat) (v1 : Int32) (v2 : Int32) : Option Hp := it (fun q : Int32 × Hp => BX3_chooseColumn_17 rc q.2 v0 v1 q.1) (v2, h)
set_option maxRecDepth 100000 in
set_option maxHeartbeats 8000000 in
theorem kX3_chooseColumn_17 {d u : Nat} {rc : Nat → Hp → Nat → Int32 → Option Hp} {h : Hp} {v0 : Nat} {v1 : Int32} {v2 : Int32} {h9 : Hp} (hrc : ∀ (t : Nat) (h : Hp) (a0 : Nat) (a1 : Int32) (h1 : Hp), rc t h a0 a1 = some h1 → CT (d + u + 30) ((fun _ => YX3_chooseColumn) t) [.ref a0, .int a1] h (oV) h1) (H : MX3_chooseColumn_17 rc h v0 v1 v2 = some h9) : J (d + u + 30 + 1) YX3_chooseColumn 17 [.ref v0, .int v1, .int v2] [] h oV h9 := by
  unfold MX3_chooseColumn_17 at H
  refine it_J (G := (fun q : Int32 × Hp => J (d + u + 30 + 1) YX3_chooseColumn 17 [.ref v0, .int v1, .int q.1] [] q.2 oV h9)) (Q := (fun y : Hp => y = h9)) (fun q x Hq hm => ?_) H rfl
  exact bX3_chooseColumn_17 hrc Hq (fun s hs => by subst hs; exact hm) (fun z hz => by subst hz; exact hm)
noncomputable def BX3_chooseColumn (rc : Nat → Hp → Nat → Int32 → Option Hp) (h : Hp) (v0 : Nat) (v1 : Int32) : Option Hp :=
  gg (β := Hp) (kd h v0 = 2) <|
  if v1 < (gI h v0 0) then
    MX3_chooseColumn_17 rc h v0 v1 (0 : Int32)
  else
    Option.bind (α := Hp) (β := Hp) (MX3_chooseKeep 30 h v0 (0 : Int32) (0 : Int32)) fun (h15 : Hp) =>
    some h15
set_option maxRecDepth 100000 in
set_option maxHeartbeats 8000000 in
theorem eX3_chooseColumn {d u : Nat} {rc : Nat → Hp → Nat → Int32 → Option Hp} {h : Hp} {v0 : Nat} {v1 : Int32} {h9 : Hp} (hrc : ∀ (t : Nat) (h : Hp) (a0 : Nat) (a1 : Int32) (h1 : Hp), rc t h a0 a1 = some h1 → CT (d + u + 30) ((fun _ => YX3_chooseColumn) t) [.ref a0, .int a1] h (oV) h1) (H : BX3_chooseColumn rc h v0 v1 = some h9) : J (d + u + 30 + 1) YX3_chooseColumn 0 [.ref v0, .int v1, Value.null] [] h oV h9 := by
  unfold BX3_chooseColumn at H
  refine J_iload_n 1 dX3_chooseColumn_0 rfl rfl ?_
  refine J_aload_n 0 dX3_chooseColumn_1 rfl rfl ?_
  obtain ⟨g1, H⟩ := gd H
  refine J_getI 2 0 dX3_chooseColumn_2 g1 flX3_9 rfl ?_
  refine J_icmp_lt 15 dX3_chooseColumn_5 rfl (fun q2 => ?_) (fun q2 => ?_)
  · replace H := br1 q2 H
    refine J_iconst (0 : Int32) dX3_chooseColumn_15 kc_0 ?_
    refine J_istore_n 2 dX3_chooseColumn_16 rfl (by decide) (ls' := [.ref v0, .int v1, .int (0 : Int32)]) rfl ?_
    exact J_dr (kX3_chooseColumn_17 hrc H ) ⟨rfl, ⟨rfl, ⟨rfl, trivial⟩⟩⟩
  · replace H := br0 q2 H
    refine J_aload_n 0 dX3_chooseColumn_8 rfl rfl ?_
    refine J_iconst (0 : Int32) dX3_chooseColumn_9 kc_0 ?_
    refine J_iconst (0 : Int32) dX3_chooseColumn_10 kc_0 ?_
    obtain ⟨h15, e14, H⟩ := bd H
    refine J_cV (as := [.int (0 : Int32), .int (0 : Int32)]) 2 YX3_chooseKeep 2 dX3_chooseColumn_11 moX3_chooseKeep mvX3_chooseKeep mlX3_76 g1 rfl rfl (okX3_chooseKeep (d := d + u) e14) rfl rfl [] rfl rfl (st2 := []) rfl ?_
    cases H
    exact J_ret dX3_chooseColumn_14 rfl
noncomputable def RX3_chooseColumn : Nat → Nat → Hp → Nat → Int32 → Option Hp
  | 0 => fun _ _ _ _ => none
  | u + 1 => fun t h a0 a1 => BX3_chooseColumn (RX3_chooseColumn u) h a0 a1
theorem okRX3_chooseColumn (d : Nat) : ∀ (u t : Nat) (h : Hp) (a0 : Nat) (a1 : Int32) (h1 : Hp), RX3_chooseColumn u t h a0 a1 = some h1 → CT (d + u + 30) (YX3_chooseColumn) [.ref a0, .int a1] h (oV) h1 := by
  intro u
  induction u with
  | zero => intro t h a0 a1 h1 H; cases H
  | succ u ih =>
    intro t h a0 a1 h1 H
    simp only [RX3_chooseColumn] at H
    exact CT_of (by decide +kernel) (Nat.le_of_ble_eq_true rfl) (eX3_chooseColumn (d := d) (u := u) ih H)
noncomputable def MX3_chooseColumn (u : Nat) (h : Hp) (v0 : Nat) (v1 : Int32) : Option Hp := RX3_chooseColumn u 0 h v0 v1
theorem okX3_chooseColumn {d : Nat} {h : Hp} {v0 : Nat} {v1 : Int32} {h9 : Hp} (H : MX3_chooseColumn 30 h v0 v1 = some h9) : CT (d + 60) YX3_chooseColumn [.ref v0, .int v1] h oV h9 := okRX3_chooseColumn d 30 0 _ _ _ _ H
noncomputable def MX3_search_92 (h : Hp) (v0 : Nat) : Option Hp :=
  gg (β := Hp) (kd h v0 = 2) <|
  Option.bind (α := Hp) (β := Hp) (MX3_chooseColumn 30 h v0 (0 : Int32)) fun (h24 : Hp) =>
  some h24
set_option maxRecDepth 100000 in
set_option maxHeartbeats 8000000 in
theorem kX3_search_92 {d : Nat} {h : Hp} {v0 : Nat} {h9 : Hp} (H : MX3_search_92 h v0 = some h9) : J (d + 61) YX3_search 92 [.ref v0, Value.null, Value.null, Value.null, Value.null, Value.null] [] h oV h9 := by
  unfold MX3_search_92 at H
  refine J_aload_n 0 dX3_search_92 rfl rfl ?_
  refine J_iconst (0 : Int32) dX3_search_93 kc_0 ?_
  obtain ⟨g23, H⟩ := gd H
  obtain ⟨h24, e22, H⟩ := bd H
  refine J_cV (as := [.int (0 : Int32)]) 2 YX3_chooseColumn 1 dX3_search_94 moX3_chooseColumn mvX3_chooseColumn mlX3_60 g23 rfl rfl (okX3_chooseColumn (d := d) e22) rfl rfl [] rfl rfl (st2 := []) rfl ?_
  cases H
  exact J_ret dX3_search_97 rfl
noncomputable def BX3_search_68 (h : Hp) (v0 : Nat) (v4 : Int32) (v5 : Int32) : Option ((Int32 × Hp) ⊕ Hp) :=
  gg (β := ((Int32 × Hp) ⊕ Hp)) (kd h v0 = 2) <|
  if (gI h v0 10) ≤ v5 then
    up1 (MX3_search_92 h v0)
  else
    gg (β := ((Int32 × Hp) ⊕ Hp)) (kd h (gP h v0 9) = 20) <|
    gg (β := ((Int32 × Hp) ⊕ Hp)) (inB v5 (ln h (gP h v0 9)) = true) <|
    lt (α := Hp) (β := Option ((Int32 × Hp) ⊕ Hp)) (sI h (gP h v0 9) v5.toNatClampNeg v4) fun (h27 : Hp) =>
    some (.inl ((v5 + (1 : Int32)), h27))
set_option maxRecDepth 100000 in
set_option maxHeartbeats 8000000 in
theorem bX3_search_68 {d : Nat} {h : Hp} {v0 : Nat} {v4 : Int32} {v5 : Int32} {h9 : Hp} {x : ((Int32 × Hp) ⊕ Hp)} (H : BX3_search_68 h v0 v4 v5 = some x) (hb0 : ∀ s : Int32 × Hp, x = .inl s → J (d + 61) YX3_search 68 [.ref v0, Value.null, Value.null, Value.null, .int v4, .int s.1] [] s.2 oV h9) (hx : ∀ z : Hp, x = .inr (z) → z = h9) : J (d + 61) YX3_search 68 [.ref v0, Value.null, Value.null, Value.null, .int v4, .int v5] [] h oV h9 := by
  unfold BX3_search_68 at H
  refine J_iload dX3_search_68 rfl ?_
  refine J_aload_n 0 dX3_search_70 rfl rfl ?_
  obtain ⟨g20, H⟩ := gd H
  refine J_getI 2 10 dX3_search_71 g20 flX3_43 rfl ?_
  refine J_icmp_ge 92 dX3_search_74 rfl (fun q21 => ?_) (fun q21 => ?_)
  · replace H := br1 q21 H
    obtain ⟨y0, H90, rfl⟩ := up1_el H
    replace H := H90
    obtain rfl := hx _ rfl
    exact J_dr (kX3_search_92 H ) ⟨rfl, trivial⟩
  · replace H := br0 q21 H
    refine J_aload_n 0 dX3_search_77 rfl rfl ?_
    refine J_gP 2 9 dX3_search_78 g20 flX3_40 rfl rfl ?_
    refine J_iload dX3_search_81 rfl ?_
    refine J_iload dX3_search_83 rfl ?_
    obtain ⟨g25, H⟩ := gd H
    obtain ⟨g26, H⟩ := gd H
    obtain ⟨h27, e28, H⟩ := lt_el H
    refine J_sI dX3_search_85 g25 (inB_ok g26) e28 ?_
    have c29 := ekI e28
    have c30 := elI e28
    have c31 := epI e28
    refine J_iinc (v5 + (1 : Int32)) dX3_search_86 rfl (congrArg (HAdd.hAdd v5) kc_1) (by decide) (ls' := [.ref v0, Value.null, Value.null, Value.null, .int v4, .int (v5 + (1 : Int32))]) rfl ?_
    refine J_goto 68 dX3_search_89 rfl ?_
    cases H
    exact J_dr (hb0 _ rfl) ⟨rfl, ⟨rfl, ⟨rfl, trivial⟩⟩⟩
noncomputable def MX3_search_68 (h : Hp) (v0 : Nat) (v4 : Int32) (v5 : Int32) : Option Hp := it (fun q : Int32 × Hp => BX3_search_68 q.2 v0 v4 q.1) (v5, h)
set_option maxRecDepth 100000 in
set_option maxHeartbeats 8000000 in
theorem kX3_search_68 {d : Nat} {h : Hp} {v0 : Nat} {v4 : Int32} {v5 : Int32} {h9 : Hp} (H : MX3_search_68 h v0 v4 v5 = some h9) : J (d + 61) YX3_search 68 [.ref v0, Value.null, Value.null, Value.null, .int v4, .int v5] [] h oV h9 := by
  unfold MX3_search_68 at H
  refine it_J (G := (fun q : Int32 × Hp => J (d + 61) YX3_search 68 [.ref v0, Value.null, Value.null, Value.null, .int v4, .int q.1] [] q.2 oV h9)) (Q := (fun y : Hp => y = h9)) (fun q x Hq hm => ?_) H rfl
  exact bX3_search_68 Hq (fun s hs => by subst hs; exact hm) (fun z hz => by subst hz; exact hm)
noncomputable def MX3_search_65 (h : Hp) (v0 : Nat) (v4 : Int32) : Option Hp :=
  MX3_search_68 h v0 v4 (0 : Int32)
set_option maxRecDepth 100000 in
set_option maxHeartbeats 8000000 in
theorem kX3_search_65 {d : Nat} {h : Hp} {v0 : Nat} {v4 : Int32} {h9 : Hp} (H : MX3_search_65 h v0 v4 = some h9) : J (d + 61) YX3_search 65 [.ref v0, Value.null, Value.null, Value.null, .int v4, Value.null] [] h oV h9 := by
  unfold MX3_search_65 at H
  refine J_iconst (0 : Int32) dX3_search_65 kc_0 ?_
  refine J_istore dX3_search_66 (by decide) (ls' := [.ref v0, Value.null, Value.null, Value.null, .int v4, .int (0 : Int32)]) rfl ?_
  exact J_dr (kX3_search_68 H ) ⟨rfl, ⟨rfl, ⟨rfl, trivial⟩⟩⟩
noncomputable def BX3_search_26 (h : Hp) (v0 : Nat) (v1 : Nat) (v2 : Int32) (v4 : Int32) (v5 : Int32) : Option ((Int32 × Hp) ⊕ Hp) :=
  gg (β := ((Int32 × Hp) ⊕ Hp)) (kd h v1 = 6) <|
  if (gI h v1 7) ≤ v5 then
    up1 (MX3_search_65 h v0 v4)
  else
    gg (β := ((Int32 × Hp) ⊕ Hp)) (kd h v0 = 2) <|
    if (4 : Int32) ≤ (gI h v0 0) then
      up1 (MX3_search_65 h v0 v4)
    else
      if ((v2 >>> (v5 &&& 31)) &&& (1 : Int32)) = 0 then
        some (.inl ((v5 + (1 : Int32)), h))
      else
        Option.bind (α := Hp) (β := ((Int32 × Hp) ⊕ Hp)) (MX3_addStory h v0 v1 v5) fun (h36 : Hp) =>
        some (.inl ((v5 + (1 : Int32)), h36))
set_option maxRecDepth 100000 in
set_option maxHeartbeats 8000000 in
theorem bX3_search_26 {d : Nat} {h : Hp} {v0 : Nat} {v1 : Nat} {v2 : Int32} {v4 : Int32} {v5 : Int32} {h9 : Hp} {x : ((Int32 × Hp) ⊕ Hp)} (H : BX3_search_26 h v0 v1 v2 v4 v5 = some x) (hb0 : ∀ s : Int32 × Hp, x = .inl s → J (d + 61) YX3_search 26 [.ref v0, .ref v1, .int v2, Value.null, .int v4, .int s.1] [] s.2 oV h9) (hx : ∀ z : Hp, x = .inr (z) → z = h9) : J (d + 61) YX3_search 26 [.ref v0, .ref v1, .int v2, Value.null, .int v4, .int v5] [] h oV h9 := by
  unfold BX3_search_26 at H
  refine J_iload dX3_search_26 rfl ?_
  refine J_aload_n 1 dX3_search_28 rfl rfl ?_
  obtain ⟨g18, H⟩ := gd H
  refine J_getI 6 7 dX3_search_29 g18 flX3_52 rfl ?_
  refine J_icmp_ge 65 dX3_search_32 rfl (fun q19 => ?_) (fun q19 => ?_)
  · replace H := br1 q19 H
    obtain ⟨y0, H90, rfl⟩ := up1_el H
    replace H := H90
    obtain rfl := hx _ rfl
    exact J_dr (kX3_search_65 H ) ⟨rfl, ⟨rfl, trivial⟩⟩
  · replace H := br0 q19 H
    refine J_aload_n 0 dX3_search_35 rfl rfl ?_
    obtain ⟨g32, H⟩ := gd H
    refine J_getI 2 0 dX3_search_36 g32 flX3_9 rfl ?_
    refine J_iconst (4 : Int32) dX3_search_39 kc_4 ?_
    refine J_icmp_ge 65 dX3_search_40 rfl (fun q33 => ?_) (fun q33 => ?_)
    · replace H := br1 q33 H
      obtain ⟨y0, H90, rfl⟩ := up1_el H
      replace H := H90
      obtain rfl := hx _ rfl
      exact J_dr (kX3_search_65 H ) ⟨rfl, ⟨rfl, trivial⟩⟩
    · replace H := br0 q33 H
      refine J_iload_n 2 dX3_search_43 rfl rfl ?_
      refine J_iload dX3_search_44 rfl ?_
      refine J_ishr dX3_search_46 ?_
      refine J_iconst (1 : Int32) dX3_search_47 kc_1 ?_
      refine J_iand dX3_search_48 ?_
      refine J_if_eq 59 dX3_search_49 rfl (fun q34 => ?_) (fun q34 => ?_)
      · replace H := br1 q34 H
        refine J_iinc (v5 + (1 : Int32)) dX3_search_59 rfl (congrArg (HAdd.hAdd v5) kc_1) (by decide) (ls' := [.ref v0, .ref v1, .int v2, Value.null, .int v4, .int (v5 + (1 : Int32))]) rfl ?_
        refine J_goto 26 dX3_search_62 rfl ?_
        cases H
        exact J_dr (hb0 _ rfl) ⟨rfl, ⟨rfl, ⟨rfl, ⟨rfl, ⟨rfl, trivial⟩⟩⟩⟩⟩
      · replace H := br0 q34 H
        refine J_aload_n 0 dX3_search_52 rfl rfl ?_
        refine J_aload_n 1 dX3_search_53 rfl rfl ?_
        refine J_iload dX3_search_54 rfl ?_
        obtain ⟨h36, e35, H⟩ := bd H
        refine J_cV (as := [.ref v1, .int v5]) 2 YX3_addStory 2 dX3_search_56 moX3_addStory mvX3_addStory mlX3_56 g32 rfl rfl (okX3_addStory (d := d + 59) e35) rfl rfl [] rfl rfl (st2 := []) rfl ?_
        refine J_iinc (v5 + (1 : Int32)) dX3_search_59 rfl (congrArg (HAdd.hAdd v5) kc_1) (by decide) (ls' := [.ref v0, .ref v1, .int v2, Value.null, .int v4, .int (v5 + (1 : Int32))]) rfl ?_
        refine J_goto 26 dX3_search_62 rfl ?_
        cases H
        exact J_dr (hb0 _ rfl) ⟨rfl, ⟨rfl, ⟨rfl, ⟨rfl, ⟨rfl, trivial⟩⟩⟩⟩⟩
noncomputable def MX3_search_26 (h : Hp) (v0 : Nat) (v1 : Nat) (v2 : Int32) (v4 : Int32) (v5 : Int32) : Option Hp := it (fun q : Int32 × Hp => BX3_search_26 q.2 v0 v1 v2 v4 q.1) (v5, h)
set_option maxRecDepth 100000 in
set_option maxHeartbeats 8000000 in
theorem kX3_search_26 {d : Nat} {h : Hp} {v0 : Nat} {v1 : Nat} {v2 : Int32} {v4 : Int32} {v5 : Int32} {h9 : Hp} (H : MX3_search_26 h v0 v1 v2 v4 v5 = some h9) : J (d + 61) YX3_search 26 [.ref v0, .ref v1, .int v2, Value.null, .int v4, .int v5] [] h oV h9 := by
  unfold MX3_search_26 at H
  refine it_J (G := (fun q : Int32 × Hp => J (d + 61) YX3_search 26 [.ref v0, .ref v1, .int v2, Value.null, .int v4, .int q.1] [] q.2 oV h9)) (Q := (fun y : Hp => y = h9)) (fun q x Hq hm => ?_) H rfl
  exact bX3_search_26 Hq (fun s hs => by subst hs; exact hm) (fun z hz => by subst hz; exact hm)
noncomputable def MX3_search (h : Hp) (v0 : Nat) (v1 : Nat) (v2 : Int32) (v3 : Int32) (v4 : Int32) : Option Hp :=
  gg (β := Hp) (kd h v0 = 2) <|
  lt (α := Hp) (β := Option Hp) (sI h v0 0 (0 : Int32)) fun (h2 : Hp) =>
  lt (α := Hp) (β := Option Hp) (sI h2 v0 1 (-1 : Int32)) fun (h7 : Hp) =>
  gg (β := Hp) (kd h (gP h v0 9) = 20) <|
  lt (α := Hp) (β := Option Hp) (sI h7 v0 10 (jmin v3 (nI (ln h7 (gP h v0 9))))) fun (h13 : Hp) =>
  MX3_search_26 h13 v0 v1 v2 v4 (0 : Int32)
set_option maxRecDepth 100000 in
set_option maxHeartbeats 8000000 in
theorem eX3_search {d : Nat} {h : Hp} {v0 : Nat} {v1 : Nat} {v2 : Int32} {v3 : Int32} {v4 : Int32} {h9 : Hp} (H : MX3_search h v0 v1 v2 v3 v4 = some h9) : J (d + 61) YX3_search 0 [.ref v0, .ref v1, .int v2, .int v3, .int v4, Value.null] [] h oV h9 := by
  unfold MX3_search at H
  refine J_aload_n 0 dX3_search_0 rfl rfl ?_
  refine J_iconst (0 : Int32) dX3_search_1 kc_0 ?_
  obtain ⟨g1, H⟩ := gd H
  obtain ⟨h2, e3, H⟩ := lt_el H
  refine J_pI 2 0 dX3_search_2 g1 flX3_9 rfl rfl e3 ?_
  have c4 := ekI e3
  have c5 := elI e3
  have c6 := epI e3
  refine J_aload_n 0 dX3_search_5 rfl rfl ?_
  refine J_iconst (-1 : Int32) dX3_search_6 kc_m1 ?_
  obtain ⟨h7, e8, H⟩ := lt_el H
  refine J_pI 2 1 dX3_search_7 (kq c4 g1) flX3_15 rfl rfl e8 ?_
  have c9 := (ekI e8).trans c4
  have c10 := (elI e8).trans c5
  have c11 := (epI e8).trans c6
  refine J_aload_n 0 dX3_search_10 rfl rfl ?_
  refine J_iload_n 3 dX3_search_11 rfl rfl ?_
  refine J_aload_n 0 dX3_search_12 rfl rfl ?_
  refine J_gP 2 9 dX3_search_13 (kq c9 g1) flX3_40 rfl (congrFun (congrFun c11 v0) 9) ?_
  obtain ⟨g12, H⟩ := gd H
  refine J_len 20 dX3_search_16 (kq c9 g12) rfl ?_
  refine J_mn dX3_search_17 mlX3_46 rfl ?_
  obtain ⟨h13, e14, H⟩ := lt_el H
  refine J_pI 2 10 dX3_search_20 (kq c9 g1) flX3_43 rfl rfl e14 ?_
  have c15 := (ekI e14).trans c9
  have c16 := (elI e14).trans c10
  have c17 := (epI e14).trans c11
  refine J_iconst (0 : Int32) dX3_search_23 kc_0 ?_
  refine J_istore dX3_search_24 (by decide) (ls' := [.ref v0, .ref v1, .int v2, .int v3, .int v4, .int (0 : Int32)]) rfl ?_
  exact J_dr (kX3_search_26 H ) ⟨rfl, ⟨rfl, ⟨rfl, ⟨rfl, ⟨rfl, trivial⟩⟩⟩⟩⟩
theorem okX3_search {d : Nat} {h : Hp} {v0 : Nat} {v1 : Nat} {v2 : Int32} {v3 : Int32} {v4 : Int32} {h9 : Hp} (H : MX3_search h v0 v1 v2 v3 v4 = some h9) : CT (d + 61) YX3_search [.ref v0, .ref v1, .int v2, .int v3, .int v4] h oV h9 := CT_of (by decide +kernel) (Nat.le_of_ble_eq_true rfl) (eX3_search H)
noncomputable def BX7_isStorySet_2 (h : Hp) (v0 : Nat) (v1 : Int32) (v2 : Int32) : Option ((Int32) ⊕ Int32) :=
  if (5 : Int32) ≤ v2 then
    some (.inr ((1 : Int32)))
  else
    gg (β := ((Int32) ⊕ Int32)) (kd h v0 = 6) <|
    Option.bind (α := Nat) (β := ((Int32) ⊕ Int32)) (MX7_findPart h v0 (((5 : Int32) * v1) + v2)) fun (t4 : Nat) =>
    if t4 = 0 then
      some (.inl (v2 + (1 : Int32)))
    else
      gg (β := ((Int32) ⊕ Int32)) (kd h t4 = 4) <|
      if (gI h t4 11) = 0 then
        some (.inr ((0 : Int32)))
      else
        some (.inl (v2 + (1 : Int32)))
set_option maxRecDepth 100000 in
set_option maxHeartbeats 8000000 in
theorem bX7_isStorySet_2 {d : Nat} {h : Hp} {v0 : Nat} {v1 : Int32} {v2 : Int32} {r : Int32} {x : ((Int32) ⊕ Int32)} (H : BX7_isStorySet_2 h v0 v1 v2 = some x) (hb0 : ∀ s : Int32, x = .inl s → J (d + 1) YX7_isStorySet 2 [.ref v0, .int v1, .int s, Value.null] [] h (oI r) h) (hx : ∀ z : Int32, x = .inr (z) → z = r) : J (d + 1) YX7_isStorySet 2 [.ref v0, .int v1, .int v2, Value.null] [] h (oI r) h := by
  unfold BX7_isStorySet_2 at H
  refine J_iload_n 2 dX7_isStorySet_2 rfl rfl ?_
  refine J_iconst (5 : Int32) dX7_isStorySet_3 kc_5 ?_
  refine J_icmp_ge 36 dX7_isStorySet_4 rfl (fun q1 => ?_) (fun q1 => ?_)
  · replace H := br1 q1 H
    refine J_iconst (1 : Int32) dX7_isStorySet_36 kc_1 ?_
    cases H
    cases hx _ rfl
    exact J_rZ dX7_isStorySet_37 rfl rfl
  · replace H := br0 q1 H
    refine J_aload_n 0 dX7_isStorySet_7 rfl rfl ?_
    refine J_iconst (5 : Int32) dX7_isStorySet_8 kc_5 ?_
    refine J_iload_n 1 dX7_isStorySet_9 rfl rfl ?_
    refine J_imul dX7_isStorySet_10 ?_
    refine J_iload_n 2 dX7_isStorySet_11 rfl rfl ?_
    refine J_iadd dX7_isStorySet_12 ?_
    obtain ⟨g3, H⟩ := gd H
    obtain ⟨t4, e2, H⟩ := bd H
    refine J_cV (as := [.int (((5 : Int32) * v1) + v2)]) 6 YX7_findPart 1 dX7_isStorySet_13 moX7_findPart mvX7_findPart mlX7_120 g3 rfl rfl (okX7_findPart (d := d) e2) rfl rfl [] rfl rfl (st2 := [.ref t4]) rfl ?_
    refine J_astore_n 3 dX7_isStorySet_16 rfl (by decide) (ls' := [.ref v0, .int v1, .int v2, .ref t4]) rfl ?_
    refine J_aload_n 3 dX7_isStorySet_17 rfl rfl ?_
    refine J_ifnull 30 dX7_isStorySet_18 rfl (fun q5 => ?_) (fun q5 => ?_)
    · replace H := br1 q5 H
      refine J_iinc (v2 + (1 : Int32)) dX7_isStorySet_30 rfl (congrArg (HAdd.hAdd v2) kc_1) (by decide) (ls' := [.ref v0, .int v1, .int (v2 + (1 : Int32)), .ref t4]) rfl ?_
      refine J_goto 2 dX7_isStorySet_33 rfl ?_
      cases H
      exact J_dr (hb0 _ rfl) ⟨rfl, ⟨rfl, ⟨rfl, trivial⟩⟩⟩
    · replace H := br0 q5 H
      refine J_aload_n 3 dX7_isStorySet_21 rfl rfl ?_
      obtain ⟨g6, H⟩ := gd H
      refine J_getI 4 11 dX7_isStorySet_22 g6 flX7_212 rfl ?_
      refine J_if_ne 30 dX7_isStorySet_25 rfl (fun q7 => ?_) (fun q7 => ?_)
      · replace H := br0 q7 H
        refine J_iinc (v2 + (1 : Int32)) dX7_isStorySet_30 rfl (congrArg (HAdd.hAdd v2) kc_1) (by decide) (ls' := [.ref v0, .int v1, .int (v2 + (1 : Int32)), .ref t4]) rfl ?_
        refine J_goto 2 dX7_isStorySet_33 rfl ?_
        cases H
        exact J_dr (hb0 _ rfl) ⟨rfl, ⟨rfl, ⟨rfl, trivial⟩⟩⟩
      · replace H := br1 q7 H
        refine J_iconst (0 : Int32) dX7_isStorySet_28 kc_0 ?_
        cases H
        cases hx _ rfl
        exact J_rZ dX7_isStorySet_29 rfl rfl
noncomputable def MX7_isStorySet_2 (h : Hp) (v0 : Nat) (v1 : Int32) (v2 : Int32) : Option Int32 := it (fun q : Int32 => BX7_isStorySet_2 h v0 v1 q) (v2)
set_option maxRecDepth 100000 in
set_option maxHeartbeats 8000000 in
theorem kX7_isStorySet_2 {d : Nat} {h : Hp} {v0 : Nat} {v1 : Int32} {v2 : Int32} {r : Int32} (H : MX7_isStorySet_2 h v0 v1 v2 = some r) : J (d + 1) YX7_isStorySet 2 [.ref v0, .int v1, .int v2, Value.null] [] h (oI r) h := by
  unfold MX7_isStorySet_2 at H
  refine it_J (G := (fun q : Int32 => J (d + 1) YX7_isStorySet 2 [.ref v0, .int v1, .int q, Value.null] [] h (oI r) h)) (Q := (fun y : Int32 => y = r)) (fun q x Hq hm => ?_) H rfl
  exact bX7_isStorySet_2 Hq (fun s hs => by subst hs; exact hm) (fun z hz => by subst hz; exact hm)
noncomputable def MX7_isStorySet (h : Hp) (v0 : Nat) (v1 : Int32) : Option Int32 :=
  MX7_isStorySet_2 h v0 v1 (0 : Int32)
set_option maxRecDepth 100000 in
set_option maxHeartbeats 8000000 in
theorem eX7_isStorySet {d : Nat} {h : Hp} {v0 : Nat} {v1 : Int32} {r : Int32} (H : MX7_isStorySet h v0 v1 = some r) : J (d + 1) YX7_isStorySet 0 [.ref v0, .int v1, Value.null, Value.null] [] h (oI r) h := by
  unfold MX7_isStorySet at H
  refine J_iconst (0 : Int32) dX7_isStorySet_0 kc_0 ?_
  refine J_istore_n 2 dX7_isStorySet_1 rfl (by decide) (ls' := [.ref v0, .int v1, .int (0 : Int32), Value.null]) rfl ?_
  exact J_dr (kX7_isStorySet_2 H ) ⟨rfl, ⟨rfl, ⟨rfl, trivial⟩⟩⟩
theorem okX7_isStorySet {d : Nat} {h : Hp} {v0 : Nat} {v1 : Int32} {r : Int32} (H : MX7_isStorySet h v0 v1 = some r) : CT (d + 1) YX7_isStorySet [.ref v0, .int v1] h (oI r) h := CT_of (by decide +kernel) (Nat.le_of_ble_eq_true rfl) (eX7_isStorySet H)
noncomputable def MJ6_bitCount_0f7a4 (h : Hp) (v0 : Int32) : Option Int32 :=
  lt (α := Int32) (β := Option Int32) (v0 - ((v0.toUInt32 >>> ((1 : Int32).toUInt32 &&& Int32.toUInt32 31)).toInt32 &&& (1431655765 : Int32))) fun (w1 : Int32) =>
  lt (α := Int32) (β := Option Int32) ((w1 &&& (858993459 : Int32)) + ((w1.toUInt32 >>> ((2 : Int32).toUInt32 &&& Int32.toUInt32 31)).toInt32 &&& (858993459 : Int32))) fun (w3 : Int32) =>
  lt (α := Int32) (β := Option Int32) ((w3 + (w3.toUInt32 >>> ((4 : Int32).toUInt32 &&& Int32.toUInt32 31)).toInt32) &&& (252645135 : Int32)) fun (w5 : Int32) =>
  lt (α := Int32) (β := Option Int32) (w5 + (w5.toUInt32 >>> ((8 : Int32).toUInt32 &&& Int32.toUInt32 31)).toInt32) fun (w7 : Int32) =>
  lt (α := Int32) (β := Option Int32) (w7 + (w7.toUInt32 >>> ((16 : Int32).toUInt32 &&& Int32.toUInt32 31)).toInt32) fun (w9 : Int32) =>
  some (w9 &&& (63 : Int32))
set_option maxRecDepth 100000 in
set_option maxHeartbeats 8000000 in
theorem eJ6_bitCount_0f7a4 {d : Nat} {h : Hp} {v0 : Int32} {r : Int32} (H : MJ6_bitCount_0f7a4 h v0 = some r) : J (d) YJ6_bitCount_0f7a4 0 [.int v0] [] h (oI r) h := by
  unfold MJ6_bitCount_0f7a4 at H
  refine J_iload_n 0 dJ6_bitCount_0f7a4_0 rfl rfl ?_
  refine J_iload_n 0 dJ6_bitCount_0f7a4_1 rfl rfl ?_
  refine J_iconst (1 : Int32) dJ6_bitCount_0f7a4_2 kc_1 ?_
  refine J_iushr dJ6_bitCount_0f7a4_3 ?_
  refine J_ldcw (1431655765 : Int32) coJ6_265 dJ6_bitCount_0f7a4_4 ?_
  refine J_iand dJ6_bitCount_0f7a4_7 ?_
  refine J_isub dJ6_bitCount_0f7a4_8 ?_
  obtain ⟨w1, e2, H⟩ := lt_el H
  refine J_nmI e2 ?_
  refine J_istore_n 0 dJ6_bitCount_0f7a4_9 rfl (by decide) (ls' := [.int w1]) rfl ?_
  refine J_iload_n 0 dJ6_bitCount_0f7a4_10 rfl rfl ?_
  refine J_ldcw (858993459 : Int32) coJ6_266 dJ6_bitCount_0f7a4_11 ?_
  refine J_iand dJ6_bitCount_0f7a4_14 ?_
  refine J_iload_n 0 dJ6_bitCount_0f7a4_15 rfl rfl ?_
  refine J_iconst (2 : Int32) dJ6_bitCount_0f7a4_16 kc_2 ?_
  refine J_iushr dJ6_bitCount_0f7a4_17 ?_
  refine J_ldcw (858993459 : Int32) coJ6_266 dJ6_bitCount_0f7a4_18 ?_
  refine J_iand dJ6_bitCount_0f7a4_21 ?_
  refine J_iadd dJ6_bitCount_0f7a4_22 ?_
  obtain ⟨w3, e4, H⟩ := lt_el H
  refine J_nmI e4 ?_
  refine J_istore_n 0 dJ6_bitCount_0f7a4_23 rfl (by decide) (ls' := [.int w3]) rfl ?_
  refine J_iload_n 0 dJ6_bitCount_0f7a4_24 rfl rfl ?_
  refine J_iload_n 0 dJ6_bitCount_0f7a4_25 rfl rfl ?_
  refine J_iconst (4 : Int32) dJ6_bitCount_0f7a4_26 kc_4 ?_
  refine J_iushr dJ6_bitCount_0f7a4_27 ?_
  refine J_iadd dJ6_bitCount_0f7a4_28 ?_
  refine J_ldcw (252645135 : Int32) coJ6_267 dJ6_bitCount_0f7a4_29 ?_
  refine J_iand dJ6_bitCount_0f7a4_32 ?_
  obtain ⟨w5, e6, H⟩ := lt_el H
  refine J_nmI e6 ?_
  refine J_istore_n 0 dJ6_bitCount_0f7a4_33 rfl (by decide) (ls' := [.int w5]) rfl ?_
  refine J_iload_n 0 dJ6_bitCount_0f7a4_34 rfl rfl ?_
  refine J_iload_n 0 dJ6_bitCount_0f7a4_35 rfl rfl ?_
  refine J_bipush (8 : Int32) dJ6_bitCount_0f7a4_36 kb_8 ?_
  refine J_iushr dJ6_bitCount_0f7a4_38 ?_
  refine J_iadd dJ6_bitCount_0f7a4_39 ?_
  obtain ⟨w7, e8, H⟩ := lt_el H
  refine J_nmI e8 ?_
  refine J_istore_n 0 dJ6_bitCount_0f7a4_40 rfl (by decide) (ls' := [.int w7]) rfl ?_
  refine J_iload_n 0 dJ6_bitCount_0f7a4_41 rfl rfl ?_
  refine J_iload_n 0 dJ6_bitCount_0f7a4_42 rfl rfl ?_
  refine J_bipush (16 : Int32) dJ6_bitCount_0f7a4_43 kb_16 ?_
  refine J_iushr dJ6_bitCount_0f7a4_45 ?_
  refine J_iadd dJ6_bitCount_0f7a4_46 ?_
  obtain ⟨w9, e10, H⟩ := lt_el H
  refine J_nmI e10 ?_
  refine J_istore_n 0 dJ6_bitCount_0f7a4_47 rfl (by decide) (ls' := [.int w9]) rfl ?_
  refine J_iload_n 0 dJ6_bitCount_0f7a4_48 rfl rfl ?_
  refine J_bipush (63 : Int32) dJ6_bitCount_0f7a4_49 kb_63 ?_
  refine J_iand dJ6_bitCount_0f7a4_51 ?_
  cases H
  exact J_iretI dJ6_bitCount_0f7a4_52 rfl
theorem okJ6_bitCount_0f7a4 {d : Nat} {h : Hp} {v0 : Int32} {r : Int32} (H : MJ6_bitCount_0f7a4 h v0 = some r) : CT (d) YJ6_bitCount_0f7a4 [.int v0] h (oI r) h := CT_of (by decide +kernel) (Nat.le_of_ble_eq_true rfl) (eJ6_bitCount_0f7a4 H)
noncomputable def MX11_findFit_100 (h : Hp) (v0 : Nat) (v1 : Int32) (v2 : Int32) : Option ((Unit ⊕ Nat) × Hp) :=
  gg (β := ((Unit ⊕ Nat) × Hp)) (kd h v0 = 10) <|
  gg (β := ((Unit ⊕ Nat) × Hp)) (kd h (gP h v0 6) = 1) <|
  gg (β := ((Unit ⊕ Nat) × Hp)) (kd h (gP h (gP h v0 6) 0) = 20) <|
  gg (β := ((Unit ⊕ Nat) × Hp)) (inB v1 (ln h (gP h (gP h v0 6) 0)) = true) <|
  gg (β := ((Unit ⊕ Nat) × Hp)) (kd h (gP h (gP h v0 6) 1) = 20) <|
  gg (β := ((Unit ⊕ Nat) × Hp)) (inB v1 (ln h (gP h (gP h v0 6) 1)) = true) <|
  gg (β := ((Unit ⊕ Nat) × Hp)) (kd h (gP h v0 7) = 2) <|
  Option.bind (α := Hp) (β := ((Unit ⊕ Nat) × Hp)) (MX3_search h (gP h v0 7) (gP h v0 5) v2 (gI h (gP h (gP h v0 6) 0) v1.toNatClampNeg) (gI h (gP h (gP h v0 6) 1) v1.toNatClampNeg)) fun (h22 : Hp) =>
  some (.inl (), h22)
set_option maxRecDepth 100000 in
set_option maxHeartbeats 8000000 in
theorem kX11_findFit_100 {d : Nat} {h : Hp} {v0 : Nat} {v1 : Int32} {v2 : Int32} {r : Unit ⊕ Nat} {h9 : Hp} (H : MX11_findFit_100 h v0 v1 v2 = some (r, h9)) : J (d + 62) YX11_findFit 100 [.ref v0, .int v1, .int v2, Value.null, Value.null] [] h (oU r) h9 := by
  unfold MX11_findFit_100 at H
  refine J_aload_n 0 dX11_findFit_100 rfl rfl ?_
  obtain ⟨g14, H⟩ := gd H
  refine J_gP 10 7 dX11_findFit_101 g14 flX11_53 rfl rfl ?_
  refine J_aload_n 0 dX11_findFit_104 rfl rfl ?_
  refine J_gP 10 5 dX11_findFit_105 g14 flX11_39 rfl rfl ?_
  refine J_iload_n 2 dX11_findFit_108 rfl rfl ?_
  refine J_aload_n 0 dX11_findFit_109 rfl rfl ?_
  refine J_gP 10 6 dX11_findFit_110 g14 flX11_46 rfl rfl ?_
  obtain ⟨g15, H⟩ := gd H
  refine J_gP 1 0 dX11_findFit_113 g15 flX11_385 rfl rfl ?_
  refine J_iload_n 1 dX11_findFit_116 rfl rfl ?_
  obtain ⟨g16, H⟩ := gd H
  obtain ⟨g17, H⟩ := gd H
  refine J_iald dX11_findFit_117 g16 (inB_ok g17) ?_
  refine J_aload_n 0 dX11_findFit_118 rfl rfl ?_
  refine J_gP 10 6 dX11_findFit_119 g14 flX11_46 rfl rfl ?_
  refine J_gP 1 1 dX11_findFit_122 g15 flX11_388 rfl rfl ?_
  refine J_iload_n 1 dX11_findFit_125 rfl rfl ?_
  obtain ⟨g18, H⟩ := gd H
  obtain ⟨g19, H⟩ := gd H
  refine J_iald dX11_findFit_126 g18 (inB_ok g19) ?_
  obtain ⟨g21, H⟩ := gd H
  obtain ⟨h22, e20, H⟩ := bd H
  refine J_cV (as := [.ref (gP h v0 5), .int v2, .int (gI h (gP h (gP h v0 6) 0) v1.toNatClampNeg), .int (gI h (gP h (gP h v0 6) 1) v1.toNatClampNeg)]) 2 YX3_search 4 dX11_findFit_127 moX3_search mvX3_search mlX11_446 g21 rfl rfl (okX3_search (d := d) e20) rfl rfl [] rfl rfl (st2 := []) rfl ?_
  cases H
  exact J_ret dX11_findFit_130 rfl
noncomputable def BX11_findFit_53 (h : Hp) (v0 : Nat) (v1 : Int32) (v2 : Int32) (v4 : Int32) : Option ((Int32) ⊕ ((Unit ⊕ Nat) × Hp)) :=
  gg (β := ((Int32) ⊕ ((Unit ⊕ Nat) × Hp))) (kd h v0 = 10) <|
  gg (β := ((Int32) ⊕ ((Unit ⊕ Nat) × Hp))) (kd h (gP h v0 5) = 6) <|
  if (gI h (gP h v0 5) 7) ≤ v4 then
    up1 (MX11_findFit_100 h v0 v1 v2)
  else
    if ((v2 >>> (v4 &&& 31)) &&& (1 : Int32)) = 0 then
      some (.inl (v4 + (1 : Int32)))
    else
      Option.bind (α := Int32) (β := ((Int32) ⊕ ((Unit ⊕ Nat) × Hp))) (MX7_isStorySet h (gP h v0 5) v4) fun (t25 : Int32) =>
      if t25 = 0 then
        some (.inr ((.inr 5, bmp h 1 6)))
      else
        some (.inl (v4 + (1 : Int32)))
set_option maxRecDepth 100000 in
set_option maxHeartbeats 8000000 in
theorem bX11_findFit_53 {d : Nat} {h : Hp} {v0 : Nat} {v1 : Int32} {v2 : Int32} {v4 : Int32} {r : Unit ⊕ Nat} {h9 : Hp} {x : ((Int32) ⊕ ((Unit ⊕ Nat) × Hp))} (H : BX11_findFit_53 h v0 v1 v2 v4 = some x) (hb0 : ∀ s : Int32, x = .inl s → J (d + 62) YX11_findFit 53 [.ref v0, .int v1, .int v2, Value.null, .int s] [] h (oU r) h9) (hx : ∀ z : ((Unit ⊕ Nat) × Hp), x = .inr (z) → z = (r, h9)) : J (d + 62) YX11_findFit 53 [.ref v0, .int v1, .int v2, Value.null, .int v4] [] h (oU r) h9 := by
  unfold BX11_findFit_53 at H
  refine J_iload dX11_findFit_53 rfl ?_
  refine J_aload_n 0 dX11_findFit_55 rfl rfl ?_
  obtain ⟨g11, H⟩ := gd H
  refine J_gP 10 5 dX11_findFit_56 g11 flX11_39 rfl rfl ?_
  obtain ⟨g12, H⟩ := gd H
  refine J_getI 6 7 dX11_findFit_59 g12 flX11_107 rfl ?_
  refine J_icmp_ge 100 dX11_findFit_62 rfl (fun q13 => ?_) (fun q13 => ?_)
  · replace H := br1 q13 H
    obtain ⟨y0, H90, rfl⟩ := up1_el H
    replace H := H90
    obtain rfl := hx _ rfl
    exact J_dr (kX11_findFit_100 H ) ⟨rfl, ⟨rfl, ⟨rfl, trivial⟩⟩⟩
  · replace H := br0 q13 H
    refine J_iload_n 2 dX11_findFit_65 rfl rfl ?_
    refine J_iload dX11_findFit_66 rfl ?_
    refine J_ishr dX11_findFit_68 ?_
    refine J_iconst (1 : Int32) dX11_findFit_69 kc_1 ?_
    refine J_iand dX11_findFit_70 ?_
    refine J_if_eq 94 dX11_findFit_71 rfl (fun q23 => ?_) (fun q23 => ?_)
    · replace H := br1 q23 H
      refine J_iinc (v4 + (1 : Int32)) dX11_findFit_94 rfl (congrArg (HAdd.hAdd v4) kc_1) (by decide) (ls' := [.ref v0, .int v1, .int v2, Value.null, .int (v4 + (1 : Int32))]) rfl ?_
      refine J_goto 53 dX11_findFit_97 rfl ?_
      cases H
      exact J_dr (hb0 _ rfl) ⟨rfl, ⟨rfl, ⟨rfl, ⟨rfl, trivial⟩⟩⟩⟩
    · replace H := br0 q23 H
      refine J_aload_n 0 dX11_findFit_74 rfl rfl ?_
      refine J_gP 10 5 dX11_findFit_75 g11 flX11_39 rfl rfl ?_
      refine J_iload dX11_findFit_78 rfl ?_
      obtain ⟨t25, e24, H⟩ := bd H
      refine J_cV (as := [.int v4]) 6 YX7_isStorySet 1 dX11_findFit_80 moX7_isStorySet mvX7_isStorySet mlX11_443 g12 rfl rfl (okX7_isStorySet (d := d + 60) e24) rfl rfl [] rfl rfl (st2 := [.int t25]) rfl ?_
      refine J_if_ne 94 dX11_findFit_83 rfl (fun q26 => ?_) (fun q26 => ?_)
      · replace H := br0 q26 H
        refine J_iinc (v4 + (1 : Int32)) dX11_findFit_94 rfl (congrArg (HAdd.hAdd v4) kc_1) (by decide) (ls' := [.ref v0, .int v1, .int v2, Value.null, .int (v4 + (1 : Int32))]) rfl ?_
        refine J_goto 53 dX11_findFit_97 rfl ?_
        cases H
        exact J_dr (hb0 _ rfl) ⟨rfl, ⟨rfl, ⟨rfl, ⟨rfl, trivial⟩⟩⟩⟩
      · replace H := br1 q26 H
        cases H
        cases hx _ rfl
        exact J_throw 5 ["java/lang/RuntimeException", "java/lang/Exception"] dX11_findFit_86 dX11_findFit_89 dX11_findFit_90 dX11_findFit_93 th_324 clX11_322 (Nat.le_of_ble_eq_true rfl)
noncomputable def MX11_findFit_53 (h : Hp) (v0 : Nat) (v1 : Int32) (v2 : Int32) (v4 : Int32) : Option ((Unit ⊕ Nat) × Hp) := it (fun q : Int32 => BX11_findFit_53 h v0 v1 v2 q) (v4)
set_option maxRecDepth 100000 in
set_option maxHeartbeats 8000000 in
theorem kX11_findFit_53 {d : Nat} {h : Hp} {v0 : Nat} {v1 : Int32} {v2 : Int32} {v4 : Int32} {r : Unit ⊕ Nat} {h9 : Hp} (H : MX11_findFit_53 h v0 v1 v2 v4 = some (r, h9)) : J (d + 62) YX11_findFit 53 [.ref v0, .int v1, .int v2, Value.null, .int v4] [] h (oU r) h9 := by
  unfold MX11_findFit_53 at H
  refine it_J (G := (fun q : Int32 => J (d + 62) YX11_findFit 53 [.ref v0, .int v1, .int v2, Value.null, .int q] [] h (oU r) h9)) (Q := (fun y : ((Unit ⊕ Nat) × Hp) => y = (r, h9))) (fun q x Hq hm => ?_) H rfl
  exact bX11_findFit_53 Hq (fun s hs => by subst hs; exact hm) (fun z hz => by subst hz; exact hm)
noncomputable def MX11_findFit (h : Hp) (v0 : Nat) (v1 : Int32) (v2 : Int32) : Option ((Unit ⊕ Nat) × Hp) :=
  Option.bind (α := Int32) (β := ((Unit ⊕ Nat) × Hp)) (MX11_isPage h v1) fun (t2 : Int32) =>
  if t2 = 0 then
    some (.inr 1, bmp h 1 6)
  else
    gg (β := ((Unit ⊕ Nat) × Hp)) (kd h v0 = 10) <|
    gg (β := ((Unit ⊕ Nat) × Hp)) (kd h (gP h v0 5) = 6) <|
    if (v2.toUInt32 >>> ((gI h (gP h v0 5) 7).toUInt32 &&& Int32.toUInt32 31)).toInt32 = 0 then
      Option.bind (α := Int32) (β := ((Unit ⊕ Nat) × Hp)) (MJ6_bitCount_0f7a4 h v2) fun (t8 : Int32) =>
      if t8 < (1 : Int32) then
        some (.inr 2, bmp h 1 6)
      else
        if t8 ≤ (4 : Int32) then
          MX11_findFit_53 h v0 v1 v2 (0 : Int32)
        else
          some (.inr 2, bmp h 1 6)
    else
      some (.inr 1, bmp h 1 6)
set_option maxRecDepth 100000 in
set_option maxHeartbeats 8000000 in
theorem eX11_findFit {d : Nat} {h : Hp} {v0 : Nat} {v1 : Int32} {v2 : Int32} {r : Unit ⊕ Nat} {h9 : Hp} (H : MX11_findFit h v0 v1 v2 = some (r, h9)) : J (d + 62) YX11_findFit 0 [.ref v0, .int v1, .int v2, Value.null, Value.null] [] h (oU r) h9 := by
  unfold MX11_findFit at H
  refine J_iload_n 1 dX11_findFit_0 rfl rfl ?_
  obtain ⟨t2, e1, H⟩ := bd H
  refine J_cS (as := [.int v1]) YX11_isPage 1 dX11_findFit_1 moX11_isPage msX11_isPage mlX11_382 (okX11_isPage (d := d + 61) e1) rfl rfl [] rfl rfl (st2 := [.int t2]) rfl ?_
  refine J_if_eq 19 dX11_findFit_4 rfl (fun q3 => ?_) (fun q3 => ?_)
  · replace H := br1 q3 H
    cases H
    exact J_throw 1 ["java/lang/RuntimeException", "java/lang/Exception"] dX11_findFit_19 dX11_findFit_22 dX11_findFit_23 dX11_findFit_26 th_86 clX11_84 (Nat.le_of_ble_eq_true rfl)
  · replace H := br0 q3 H
    refine J_iload_n 2 dX11_findFit_7 rfl rfl ?_
    refine J_aload_n 0 dX11_findFit_8 rfl rfl ?_
    obtain ⟨g4, H⟩ := gd H
    refine J_gP 10 5 dX11_findFit_9 g4 flX11_39 rfl rfl ?_
    obtain ⟨g5, H⟩ := gd H
    refine J_getI 6 7 dX11_findFit_12 g5 flX11_107 rfl ?_
    refine J_iushr dX11_findFit_15 ?_
    refine J_if_eq 27 dX11_findFit_16 rfl (fun q6 => ?_) (fun q6 => ?_)
    · replace H := br1 q6 H
      refine J_iload_n 2 dX11_findFit_27 rfl rfl ?_
      obtain ⟨t8, e7, H⟩ := bd H
      refine J_cS (as := [.int v2]) YJ6_bitCount_0f7a4 1 dX11_findFit_28 moJ6_bitCount_0f7a4 msJ6_bitCount_0f7a4 mlX11_438 (okJ6_bitCount_0f7a4 (d := d + 61) e7) rfl rfl [] rfl rfl (st2 := [.int t8]) rfl ?_
      refine J_istore_n 3 dX11_findFit_31 rfl (by decide) (ls' := [.ref v0, .int v1, .int v2, .int t8, Value.null]) rfl ?_
      refine J_iload_n 3 dX11_findFit_32 rfl rfl ?_
      refine J_iconst (1 : Int32) dX11_findFit_33 kc_1 ?_
      refine J_icmp_lt 42 dX11_findFit_34 rfl (fun q9 => ?_) (fun q9 => ?_)
      · replace H := br1 q9 H
        cases H
        exact J_throw 2 ["java/lang/RuntimeException", "java/lang/Exception"] dX11_findFit_42 dX11_findFit_45 dX11_findFit_46 dX11_findFit_49 th_89 clX11_87 (Nat.le_of_ble_eq_true rfl)
      · replace H := br0 q9 H
        refine J_iload_n 3 dX11_findFit_37 rfl rfl ?_
        refine J_iconst (4 : Int32) dX11_findFit_38 kc_4 ?_
        refine J_icmp_le 50 dX11_findFit_39 rfl (fun q10 => ?_) (fun q10 => ?_)
        · replace H := br1 q10 H
          refine J_iconst (0 : Int32) dX11_findFit_50 kc_0 ?_
          refine J_istore dX11_findFit_51 (by decide) (ls' := [.ref v0, .int v1, .int v2, .int t8, .int (0 : Int32)]) rfl ?_
          exact J_dr (kX11_findFit_53 H ) ⟨rfl, ⟨rfl, ⟨rfl, ⟨rfl, trivial⟩⟩⟩⟩
        · replace H := br0 q10 H
          cases H
          exact J_throw 2 ["java/lang/RuntimeException", "java/lang/Exception"] dX11_findFit_42 dX11_findFit_45 dX11_findFit_46 dX11_findFit_49 th_89 clX11_87 (Nat.le_of_ble_eq_true rfl)
    · replace H := br0 q6 H
      cases H
      exact J_throw 1 ["java/lang/RuntimeException", "java/lang/Exception"] dX11_findFit_19 dX11_findFit_22 dX11_findFit_23 dX11_findFit_26 th_86 clX11_84 (Nat.le_of_ble_eq_true rfl)
theorem okX11_findFit {d : Nat} {h : Hp} {v0 : Nat} {v1 : Int32} {v2 : Int32} {r : Unit ⊕ Nat} {h9 : Hp} (H : MX11_findFit h v0 v1 v2 = some (r, h9)) : CT (d + 62) YX11_findFit [.ref v0, .int v1, .int v2] h (oU r) h9 := CT_of (by decide +kernel) (Nat.le_of_ble_eq_true rfl) (eX11_findFit H)
noncomputable def MX11_fit (h : Hp) (v0 : Nat) (v1 : Int32) (v2 : Int32) : Option ((Int32 ⊕ Nat) × Hp) :=
  gg (β := ((Int32 ⊕ Nat) × Hp)) (kd h v0 = 10) <|
  bT (α := Unit) (β := Int32) (MX11_findFit h v0 v1 v2) fun (t3 : Unit) (h4 : Hp) =>
  gg (β := ((Int32 ⊕ Nat) × Hp)) (kd h4 v0 = 10) <|
  gg (β := ((Int32 ⊕ Nat) × Hp)) (kd h4 (gP h4 v0 7) = 2) <|
  some (.inl (gI h4 (gP h4 v0 7) 1), h4)
set_option maxRecDepth 100000 in
set_option maxHeartbeats 8000000 in
theorem eX11_fit {d : Nat} {h : Hp} {v0 : Nat} {v1 : Int32} {v2 : Int32} {r : Int32 ⊕ Nat} {h9 : Hp} (H : MX11_fit h v0 v1 v2 = some (r, h9)) : J (d + 63) YX11_fit 0 [.ref v0, .int v1, .int v2] [] h (oT r) h9 := by
  unfold MX11_fit at H
  refine J_aload_n 0 dX11_fit_0 rfl rfl ?_
  refine J_iload_n 1 dX11_fit_1 rfl rfl ?_
  refine J_iload_n 2 dX11_fit_2 rfl rfl ?_
  obtain ⟨g2, H⟩ := gd H
  rcases bT_el H with ⟨t3, h4, e1, H⟩ | ⟨t3, h4, e1, H⟩
  rotate_left
  · cases H
    exact J_cVX (as := [.int v1, .int v2]) 10 YX11_findFit 2 dX11_fit_3 moX11_findFit mvX11_findFit mlX11_391 g2 rfl rfl (okX11_findFit (d := d) e1) rfl rfl [] rfl rfl
  refine J_cV (as := [.int v1, .int v2]) 10 YX11_findFit 2 dX11_fit_3 moX11_findFit mvX11_findFit mlX11_391 g2 rfl rfl (okX11_findFit (d := d) e1) rfl rfl [] rfl rfl (st2 := []) rfl ?_
  refine J_aload_n 0 dX11_fit_6 rfl rfl ?_
  obtain ⟨g5, H⟩ := gd H
  refine J_gP 10 7 dX11_fit_7 g5 flX11_53 rfl rfl ?_
  obtain ⟨g6, H⟩ := gd H
  refine J_getI 2 1 dX11_fit_10 g6 flX11_395 rfl ?_
  cases H
  exact J_iretI dX11_fit_13 rfl
theorem okX11_fit {d : Nat} {h : Hp} {v0 : Nat} {v1 : Int32} {v2 : Int32} {r : Int32 ⊕ Nat} {h9 : Hp} (H : MX11_fit h v0 v1 v2 = some (r, h9)) : CT (d + 63) YX11_fit [.ref v0, .int v1, .int v2] h (oT r) h9 := CT_of (by decide +kernel) (Nat.le_of_ble_eq_true rfl) (eX11_fit H)
noncomputable def BX3_placeOf_2 (h : Hp) (v0 : Nat) (v1 : Int32) (v2 : Int32) : Option ((Int32) ⊕ Int32) :=
  gg (β := ((Int32) ⊕ Int32)) (kd h v0 = 2) <|
  if (gI h v0 0) ≤ v2 then
    some (.inr ((-1 : Int32)))
  else
    gg (β := ((Int32) ⊕ Int32)) (kd h (gP h v0 2) = 20) <|
    gg (β := ((Int32) ⊕ Int32)) (inB v2 (ln h (gP h v0 2)) = true) <|
    if (gI h (gP h v0 2) v2.toNatClampNeg) = v1 then
      some (.inr (v2))
    else
      some (.inl (v2 + (1 : Int32)))
set_option maxRecDepth 100000 in
set_option maxHeartbeats 8000000 in
theorem bX3_placeOf_2 {d : Nat} {h : Hp} {v0 : Nat} {v1 : Int32} {v2 : Int32} {r : Int32} {x : ((Int32) ⊕ Int32)} (H : BX3_placeOf_2 h v0 v1 v2 = some x) (hb0 : ∀ s : Int32, x = .inl s → J (d) YX3_placeOf 2 [.ref v0, .int v1, .int s] [] h (oI r) h) (hx : ∀ z : Int32, x = .inr (z) → z = r) : J (d) YX3_placeOf 2 [.ref v0, .int v1, .int v2] [] h (oI r) h := by
  unfold BX3_placeOf_2 at H
  refine J_iload_n 2 dX3_placeOf_2 rfl rfl ?_
  refine J_aload_n 0 dX3_placeOf_3 rfl rfl ?_
  obtain ⟨g1, H⟩ := gd H
  refine J_getI 2 0 dX3_placeOf_4 g1 flX3_9 rfl ?_
  refine J_icmp_ge 28 dX3_placeOf_7 rfl (fun q2 => ?_) (fun q2 => ?_)
  · replace H := br1 q2 H
    refine J_iconst (-1 : Int32) dX3_placeOf_28 kc_m1 ?_
    cases H
    cases hx _ rfl
    exact J_iretI dX3_placeOf_29 rfl
  · replace H := br0 q2 H
    refine J_aload_n 0 dX3_placeOf_10 rfl rfl ?_
    refine J_gP 2 2 dX3_placeOf_11 g1 flX3_18 rfl rfl ?_
    refine J_iload_n 2 dX3_placeOf_14 rfl rfl ?_
    obtain ⟨g3, H⟩ := gd H
    obtain ⟨g4, H⟩ := gd H
    refine J_iald dX3_placeOf_15 g3 (inB_ok g4) ?_
    refine J_iload_n 1 dX3_placeOf_16 rfl rfl ?_
    refine J_icmp_ne 22 dX3_placeOf_17 rfl (fun q5 => ?_) (fun q5 => ?_)
    · replace H := br0 q5 H
      refine J_iinc (v2 + (1 : Int32)) dX3_placeOf_22 rfl (congrArg (HAdd.hAdd v2) kc_1) (by decide) (ls' := [.ref v0, .int v1, .int (v2 + (1 : Int32))]) rfl ?_
      refine J_goto 2 dX3_placeOf_25 rfl ?_
      cases H
      exact J_dr (hb0 _ rfl) ⟨rfl, ⟨rfl, ⟨rfl, trivial⟩⟩⟩
    · replace H := br1 q5 H
      refine J_iload_n 2 dX3_placeOf_20 rfl rfl ?_
      cases H
      cases hx _ rfl
      exact J_iretI dX3_placeOf_21 rfl
noncomputable def MX3_placeOf_2 (h : Hp) (v0 : Nat) (v1 : Int32) (v2 : Int32) : Option Int32 := it (fun q : Int32 => BX3_placeOf_2 h v0 v1 q) (v2)
set_option maxRecDepth 100000 in
set_option maxHeartbeats 8000000 in
theorem kX3_placeOf_2 {d : Nat} {h : Hp} {v0 : Nat} {v1 : Int32} {v2 : Int32} {r : Int32} (H : MX3_placeOf_2 h v0 v1 v2 = some r) : J (d) YX3_placeOf 2 [.ref v0, .int v1, .int v2] [] h (oI r) h := by
  unfold MX3_placeOf_2 at H
  refine it_J (G := (fun q : Int32 => J (d) YX3_placeOf 2 [.ref v0, .int v1, .int q] [] h (oI r) h)) (Q := (fun y : Int32 => y = r)) (fun q x Hq hm => ?_) H rfl
  exact bX3_placeOf_2 Hq (fun s hs => by subst hs; exact hm) (fun z hz => by subst hz; exact hm)
noncomputable def MX3_placeOf (h : Hp) (v0 : Nat) (v1 : Int32) : Option Int32 :=
  MX3_placeOf_2 h v0 v1 (0 : Int32)
set_option maxRecDepth 100000 in
set_option maxHeartbeats 8000000 in
theorem eX3_placeOf {d : Nat} {h : Hp} {v0 : Nat} {v1 : Int32} {r : Int32} (H : MX3_placeOf h v0 v1 = some r) : J (d) YX3_placeOf 0 [.ref v0, .int v1, Value.null] [] h (oI r) h := by
  unfold MX3_placeOf at H
  refine J_iconst (0 : Int32) dX3_placeOf_0 kc_0 ?_
  refine J_istore_n 2 dX3_placeOf_1 rfl (by decide) (ls' := [.ref v0, .int v1, .int (0 : Int32)]) rfl ?_
  exact J_dr (kX3_placeOf_2 H ) ⟨rfl, ⟨rfl, ⟨rfl, trivial⟩⟩⟩
theorem okX3_placeOf {d : Nat} {h : Hp} {v0 : Nat} {v1 : Int32} {r : Int32} (H : MX3_placeOf h v0 v1 = some r) : CT (d) YX3_placeOf [.ref v0, .int v1] h (oI r) h := CT_of (by decide +kernel) (Nat.le_of_ble_eq_true rfl) (eX3_placeOf H)
noncomputable def MX11_fits (h : Hp) (v0 : Nat) (v1 : Int32) (v2 : Int32) (v3 : Int32) (v4 : Int32) : Option ((Int32 ⊕ Nat) × Hp) :=
  if v3 < 0 then
    some (.inr 1, bmp h 1 6)
  else
    gg (β := ((Int32 ⊕ Nat) × Hp)) (kd h v0 = 10) <|
    gg (β := ((Int32 ⊕ Nat) × Hp)) (kd h (gP h v0 5) = 6) <|
    if v3 < (gI h (gP h v0 5) 7) then
      bT (α := Unit) (β := Int32) (MX11_findFit h v0 v1 v2) fun (t6 : Unit) (h7 : Hp) =>
      gg (β := ((Int32 ⊕ Nat) × Hp)) (kd h7 v0 = 10) <|
      gg (β := ((Int32 ⊕ Nat) × Hp)) (kd h7 (gP h7 v0 7) = 2) <|
      Option.bind (α := Int32) (β := ((Int32 ⊕ Nat) × Hp)) (MX3_placeOf h7 (gP h7 v0 7) v3) fun (t11 : Int32) =>
      if (gI h7 (gP h7 v0 7) 1) = (-1 : Int32) then
        some (.inl (-1 : Int32), h7)
      else
        if t11 = (-1 : Int32) then
          some (.inl (-1 : Int32), h7)
        else
          if v4 = 0 then
            gg (β := ((Int32 ⊕ Nat) × Hp)) (kd h7 (gP h7 (gP h7 v0 7) 3) = 20) <|
            gg (β := ((Int32 ⊕ Nat) × Hp)) (inB t11 (ln h7 (gP h7 (gP h7 v0 7) 3)) = true) <|
            some (.inl (gI h7 (gP h7 (gP h7 v0 7) 3) t11.toNatClampNeg), h7)
          else
            gg (β := ((Int32 ⊕ Nat) × Hp)) (kd h7 (gP h7 (gP h7 v0 7) 4) = 20) <|
            gg (β := ((Int32 ⊕ Nat) × Hp)) (inB t11 (ln h7 (gP h7 (gP h7 v0 7) 4)) = true) <|
            some (.inl (gI h7 (gP h7 (gP h7 v0 7) 4) t11.toNatClampNeg), h7)
    else
      some (.inr 1, bmp h 1 6)
set_option maxRecDepth 100000 in
set_option maxHeartbeats 8000000 in
theorem eX11_fits {d : Nat} {h : Hp} {v0 : Nat} {v1 : Int32} {v2 : Int32} {v3 : Int32} {v4 : Int32} {r : Int32 ⊕ Nat} {h9 : Hp} (H : MX11_fits h v0 v1 v2 v3 v4 = some (r, h9)) : J (d + 63) YX11_fits 0 [.ref v0, .int v1, .int v2, .int v3, .int v4, Value.null] [] h (oT r) h9 := by
  unfold MX11_fits at H
  refine J_iload_n 3 dX11_fits_0 rfl rfl ?_
  refine J_if_lt 15 dX11_fits_1 rfl (fun q1 => ?_) (fun q1 => ?_)
  · replace H := br1 q1 H
    cases H
    exact J_throw 1 ["java/lang/RuntimeException", "java/lang/Exception"] dX11_fits_15 dX11_fits_18 dX11_fits_19 dX11_fits_22 th_86 clX11_84 (Nat.le_of_ble_eq_true rfl)
  · replace H := br0 q1 H
    refine J_iload_n 3 dX11_fits_4 rfl rfl ?_
    refine J_aload_n 0 dX11_fits_5 rfl rfl ?_
    obtain ⟨g2, H⟩ := gd H
    refine J_gP 10 5 dX11_fits_6 g2 flX11_39 rfl rfl ?_
    obtain ⟨g3, H⟩ := gd H
    refine J_getI 6 7 dX11_fits_9 g3 flX11_107 rfl ?_
    refine J_icmp_lt 23 dX11_fits_12 rfl (fun q4 => ?_) (fun q4 => ?_)
    · replace H := br1 q4 H
      refine J_aload_n 0 dX11_fits_23 rfl rfl ?_
      refine J_iload_n 1 dX11_fits_24 rfl rfl ?_
      refine J_iload_n 2 dX11_fits_25 rfl rfl ?_
      rcases bT_el H with ⟨t6, h7, e5, H⟩ | ⟨t6, h7, e5, H⟩
      rotate_left
      · cases H
        exact J_cVX (as := [.int v1, .int v2]) 10 YX11_findFit 2 dX11_fits_26 moX11_findFit mvX11_findFit mlX11_391 g2 rfl rfl (okX11_findFit (d := d) e5) rfl rfl [] rfl rfl
      refine J_cV (as := [.int v1, .int v2]) 10 YX11_findFit 2 dX11_fits_26 moX11_findFit mvX11_findFit mlX11_391 g2 rfl rfl (okX11_findFit (d := d) e5) rfl rfl [] rfl rfl (st2 := []) rfl ?_
      refine J_aload_n 0 dX11_fits_29 rfl rfl ?_
      obtain ⟨g8, H⟩ := gd H
      refine J_gP 10 7 dX11_fits_30 g8 flX11_53 rfl rfl ?_
      refine J_iload_n 3 dX11_fits_33 rfl rfl ?_
      obtain ⟨g10, H⟩ := gd H
      obtain ⟨t11, e9, H⟩ := bd H
      refine J_cV (as := [.int v3]) 2 YX3_placeOf 1 dX11_fits_34 moX3_placeOf mvX3_placeOf mlX11_398 g10 rfl rfl (okX3_placeOf (d := d + 62) e9) rfl rfl [] rfl rfl (st2 := [.int t11]) rfl ?_
      refine J_istore dX11_fits_37 (by decide) (ls' := [.ref v0, .int v1, .int v2, .int v3, .int v4, .int t11]) rfl ?_
      refine J_aload_n 0 dX11_fits_39 rfl rfl ?_
      refine J_gP 10 7 dX11_fits_40 g8 flX11_53 rfl rfl ?_
      refine J_getI 2 1 dX11_fits_43 g10 flX11_395 rfl ?_
      refine J_iconst (-1 : Int32) dX11_fits_46 kc_m1 ?_
      refine J_icmp_eq 56 dX11_fits_47 rfl (fun q12 => ?_) (fun q12 => ?_)
      · replace H := br1 q12 H
        refine J_iconst (-1 : Int32) dX11_fits_56 kc_m1 ?_
        cases H
        exact J_iretI dX11_fits_57 rfl
      · replace H := br0 q12 H
        refine J_iload dX11_fits_50 rfl ?_
        refine J_iconst (-1 : Int32) dX11_fits_52 kc_m1 ?_
        refine J_icmp_ne 58 dX11_fits_53 rfl (fun q13 => ?_) (fun q13 => ?_)
        · replace H := br0 q13 H
          refine J_iload dX11_fits_58 rfl ?_
          refine J_if_eq 76 dX11_fits_60 rfl (fun q14 => ?_) (fun q14 => ?_)
          · replace H := br1 q14 H
            refine J_aload_n 0 dX11_fits_76 rfl rfl ?_
            refine J_gP 10 7 dX11_fits_77 g8 flX11_53 rfl rfl ?_
            refine J_gP 2 3 dX11_fits_80 g10 flX11_404 rfl rfl ?_
            refine J_iload dX11_fits_83 rfl ?_
            obtain ⟨g15, H⟩ := gd H
            obtain ⟨g16, H⟩ := gd H
            refine J_iald dX11_fits_85 g15 (inB_ok g16) ?_
            cases H
            exact J_iretI dX11_fits_86 rfl
          · replace H := br0 q14 H
            refine J_aload_n 0 dX11_fits_63 rfl rfl ?_
            refine J_gP 10 7 dX11_fits_64 g8 flX11_53 rfl rfl ?_
            refine J_gP 2 4 dX11_fits_67 g10 flX11_401 rfl rfl ?_
            refine J_iload dX11_fits_70 rfl ?_
            obtain ⟨g17, H⟩ := gd H
            obtain ⟨g18, H⟩ := gd H
            refine J_iald dX11_fits_72 g17 (inB_ok g18) ?_
            refine J_goto 86 dX11_fits_73 rfl ?_
            cases H
            exact J_iretI dX11_fits_86 rfl
        · replace H := br1 q13 H
          refine J_iconst (-1 : Int32) dX11_fits_56 kc_m1 ?_
          cases H
          exact J_iretI dX11_fits_57 rfl
    · replace H := br0 q4 H
      cases H
      exact J_throw 1 ["java/lang/RuntimeException", "java/lang/Exception"] dX11_fits_15 dX11_fits_18 dX11_fits_19 dX11_fits_22 th_86 clX11_84 (Nat.le_of_ble_eq_true rfl)
theorem okX11_fits {d : Nat} {h : Hp} {v0 : Nat} {v1 : Int32} {v2 : Int32} {v3 : Int32} {v4 : Int32} {r : Int32 ⊕ Nat} {h9 : Hp} (H : MX11_fits h v0 v1 v2 v3 v4 = some (r, h9)) : CT (d + 63) YX11_fits [.ref v0, .int v1, .int v2, .int v3, .int v4] h (oT r) h9 := CT_of (by decide +kernel) (Nat.le_of_ble_eq_true rfl) (eX11_fits H)
noncomputable def MX11_give (h : Hp) (v0 : Nat) (v1 : Int32) (v2 : Int32) : Option ((Int32 ⊕ Nat) × Hp) :=
  gg (β := ((Int32 ⊕ Nat) × Hp)) (kd h v0 = 10) <|
  gg (β := ((Int32 ⊕ Nat) × Hp)) (kd h (gP h v0 5) = 6) <|
  Option.bind (α := Nat) (β := ((Int32 ⊕ Nat) × Hp)) (MX7_findPart h (gP h v0 5) v1) fun (t4 : Nat) =>
  Option.bind (α := Nat) (β := ((Int32 ⊕ Nat) × Hp)) (MX7_findMachine h (gP h v0 5) v2) fun (t6 : Nat) =>
  if t4 = 0 then
    some (.inr 1, bmp h 1 6)
  else
    if t6 = 0 then
      some (.inr 1, bmp h 1 6)
    else
      gg (β := ((Int32 ⊕ Nat) × Hp)) (kd h t6 = 3) <|
      if (gI h t6 3) < (30 : Int32) then
        gg (β := ((Int32 ⊕ Nat) × Hp)) (kd h t4 = 4) <|
        if (gI h t4 10) = 0 then
          lt (α := Hp) (β := Option ((Int32 ⊕ Nat) × Hp)) (sI h t4 10 (1 : Int32)) fun (h13 : Hp) =>
          Option.bind (α := Hp) (β := ((Int32 ⊕ Nat) × Hp)) (MX4_addJob h13 t6 v1 (0 : Int32) (-1 : Int32) (0 : Int32)) fun (h19 : Hp) =>
          gg (β := ((Int32 ⊕ Nat) × Hp)) (kd h19 t6 = 3) <|
          some (.inl (gI h19 t6 3), h19)
        else
          some (.inl (-1 : Int32), h)
      else
        some (.inr 3, bmp h 1 6)
set_option maxRecDepth 100000 in
set_option maxHeartbeats 8000000 in
theorem eX11_give {d : Nat} {h : Hp} {v0 : Nat} {v1 : Int32} {v2 : Int32} {r : Int32 ⊕ Nat} {h9 : Hp} (H : MX11_give h v0 v1 v2 = some (r, h9)) : J (d + 1) YX11_give 0 [.ref v0, .int v1, .int v2, Value.null, Value.null] [] h (oT r) h9 := by
  unfold MX11_give at H
  refine J_aload_n 0 dX11_give_0 rfl rfl ?_
  obtain ⟨g1, H⟩ := gd H
  refine J_gP 10 5 dX11_give_1 g1 flX11_39 rfl rfl ?_
  refine J_iload_n 1 dX11_give_4 rfl rfl ?_
  obtain ⟨g3, H⟩ := gd H
  obtain ⟨t4, e2, H⟩ := bd H
  refine J_cV (as := [.int v1]) 6 YX7_findPart 1 dX11_give_5 moX7_findPart mvX7_findPart mlX11_139 g3 rfl rfl (okX7_findPart (d := d) e2) rfl rfl [] rfl rfl (st2 := [.ref t4]) rfl ?_
  refine J_astore_n 3 dX11_give_8 rfl (by decide) (ls' := [.ref v0, .int v1, .int v2, .ref t4, Value.null]) rfl ?_
  refine J_aload_n 0 dX11_give_9 rfl rfl ?_
  refine J_gP 10 5 dX11_give_10 g1 flX11_39 rfl rfl ?_
  refine J_iload_n 2 dX11_give_13 rfl rfl ?_
  obtain ⟨t6, e5, H⟩ := bd H
  refine J_cV (as := [.int v2]) 6 YX7_findMachine 1 dX11_give_14 moX7_findMachine mvX7_findMachine mlX11_231 g3 rfl rfl (okX7_findMachine (d := d) e5) rfl rfl [] rfl rfl (st2 := [.ref t6]) rfl ?_
  refine J_astore dX11_give_17 (by decide) (ls' := [.ref v0, .int v1, .int v2, .ref t4, .ref t6]) rfl ?_
  refine J_aload_n 3 dX11_give_19 rfl rfl ?_
  refine J_ifnull 28 dX11_give_20 rfl (fun q7 => ?_) (fun q7 => ?_)
  · replace H := br1 q7 H
    cases H
    exact J_throw 1 ["java/lang/RuntimeException", "java/lang/Exception"] dX11_give_28 dX11_give_31 dX11_give_32 dX11_give_35 th_86 clX11_84 (Nat.le_of_ble_eq_true rfl)
  · replace H := br0 q7 H
    refine J_aload dX11_give_23 rfl ?_
    refine J_ifnonnull 36 dX11_give_25 rfl (fun q8 => ?_) (fun q8 => ?_)
    · replace H := br0 q8 H
      refine J_aload dX11_give_36 rfl ?_
      obtain ⟨g9, H⟩ := gd H
      refine J_getI 3 3 dX11_give_38 g9 flX11_258 rfl ?_
      refine J_bipush (30 : Int32) dX11_give_41 kb_30 ?_
      refine J_icmp_lt 54 dX11_give_43 rfl (fun q10 => ?_) (fun q10 => ?_)
      · replace H := br1 q10 H
        refine J_aload_n 3 dX11_give_54 rfl rfl ?_
        obtain ⟨g11, H⟩ := gd H
        refine J_getI 4 10 dX11_give_55 g11 flX11_155 rfl ?_
        refine J_if_eq 63 dX11_give_58 rfl (fun q12 => ?_) (fun q12 => ?_)
        · replace H := br1 q12 H
          refine J_aload_n 3 dX11_give_63 rfl rfl ?_
          refine J_iconst (1 : Int32) dX11_give_64 kc_1 ?_
          obtain ⟨h13, e14, H⟩ := lt_el H
          refine J_pZ 4 10 dX11_give_65 g11 flX11_155 rfl rfl rfl e14 ?_
          have c15 := ekI e14
          have c16 := elI e14
          have c17 := epI e14
          refine J_aload dX11_give_68 rfl ?_
          refine J_iload_n 1 dX11_give_70 rfl rfl ?_
          refine J_iconst (0 : Int32) dX11_give_71 kc_0 ?_
          refine J_iconst (-1 : Int32) dX11_give_72 kc_m1 ?_
          refine J_iconst (0 : Int32) dX11_give_73 kc_0 ?_
          obtain ⟨h19, e18, H⟩ := bd H
          refine J_cV (as := [.int v1, .int (0 : Int32), .int (-1 : Int32), .int (0 : Int32)]) 3 YX4_addJob 4 dX11_give_74 moX4_addJob mvX4_addJob mlX11_261 (kq c15 g9) rfl rfl (okX4_addJob (d := d) e18) rfl rfl [] rfl rfl (st2 := []) rfl ?_
          refine J_aload dX11_give_77 rfl ?_
          obtain ⟨g20, H⟩ := gd H
          refine J_getI 3 3 dX11_give_79 g20 flX11_258 rfl ?_
          cases H
          exact J_iretI dX11_give_82 rfl
        · replace H := br0 q12 H
          refine J_iconst (-1 : Int32) dX11_give_61 kc_m1 ?_
          cases H
          exact J_iretI dX11_give_62 rfl
      · replace H := br0 q10 H
        cases H
        exact J_throw 3 ["java/lang/RuntimeException", "java/lang/Exception"] dX11_give_46 dX11_give_49 dX11_give_50 dX11_give_53 th_112 clX11_110 (Nat.le_of_ble_eq_true rfl)
    · replace H := br1 q8 H
      cases H
      exact J_throw 1 ["java/lang/RuntimeException", "java/lang/Exception"] dX11_give_28 dX11_give_31 dX11_give_32 dX11_give_35 th_86 clX11_84 (Nat.le_of_ble_eq_true rfl)
theorem okX11_give {d : Nat} {h : Hp} {v0 : Nat} {v1 : Int32} {v2 : Int32} {r : Int32 ⊕ Nat} {h9 : Hp} (H : MX11_give h v0 v1 v2 = some (r, h9)) : CT (d + 1) YX11_give [.ref v0, .int v1, .int v2] h (oT r) h9 := CT_of (by decide +kernel) (Nat.le_of_ble_eq_true rfl) (eX11_give H)
noncomputable def BX0_longestFrom_4 (h : Hp) (v0 : Nat) (v1 : Int32) (v2 : Int32) (v3 : Int32) : Option ((Int32 × Int32) ⊕ Int32) :=
  gg (β := ((Int32 × Int32) ⊕ Int32)) (kd h v0 = 0) <|
  if (gI h v0 6) ≤ v3 then
    some (.inr (v2))
  else
    Option.bind (α := Int32) (β := ((Int32 × Int32) ⊕ Int32)) (MX0_spare h v0 v1 v3) fun (t4 : Int32) =>
    if t4 < 0 then
      some (.inl (v2, (v3 + (1 : Int32))))
    else
      some (.inl (v3, (v3 + (1 : Int32))))
set_option maxRecDepth 100000 in
set_option maxHeartbeats 8000000 in
theorem bX0_longestFrom_4 {d : Nat} {h : Hp} {v0 : Nat} {v1 : Int32} {v2 : Int32} {v3 : Int32} {r : Int32} {x : ((Int32 × Int32) ⊕ Int32)} (H : BX0_longestFrom_4 h v0 v1 v2 v3 = some x) (hb0 : ∀ s : Int32 × Int32, x = .inl s → J (d + 1) YX0_longestFrom 4 [.ref v0, .int v1, .int s.1, .int s.2] [] h (oI r) h) (hx : ∀ z : Int32, x = .inr (z) → z = r) : J (d + 1) YX0_longestFrom 4 [.ref v0, .int v1, .int v2, .int v3] [] h (oI r) h := by
  unfold BX0_longestFrom_4 at H
  refine J_iload_n 3 dX0_longestFrom_4 rfl rfl ?_
  refine J_aload_n 0 dX0_longestFrom_5 rfl rfl ?_
  obtain ⟨g1, H⟩ := gd H
  refine J_getI 0 6 dX0_longestFrom_6 g1 flX0_30 rfl ?_
  refine J_icmp_ge 29 dX0_longestFrom_9 rfl (fun q2 => ?_) (fun q2 => ?_)
  · replace H := br1 q2 H
    refine J_iload_n 2 dX0_longestFrom_29 rfl rfl ?_
    cases H
    cases hx _ rfl
    exact J_iretI dX0_longestFrom_30 rfl
  · replace H := br0 q2 H
    refine J_aload_n 0 dX0_longestFrom_12 rfl rfl ?_
    refine J_iload_n 1 dX0_longestFrom_13 rfl rfl ?_
    refine J_iload_n 3 dX0_longestFrom_14 rfl rfl ?_
    obtain ⟨t4, e3, H⟩ := bd H
    refine J_cV (as := [.int v1, .int v3]) 0 YX0_spare 2 dX0_longestFrom_15 moX0_spare mvX0_spare mlX0_88 g1 rfl rfl (okX0_spare (d := d) e3) rfl rfl [] rfl rfl (st2 := [.int t4]) rfl ?_
    refine J_if_lt 23 dX0_longestFrom_18 rfl (fun q5 => ?_) (fun q5 => ?_)
    · replace H := br1 q5 H
      refine J_iinc (v3 + (1 : Int32)) dX0_longestFrom_23 rfl (congrArg (HAdd.hAdd v3) kc_1) (by decide) (ls' := [.ref v0, .int v1, .int v2, .int (v3 + (1 : Int32))]) rfl ?_
      refine J_goto 4 dX0_longestFrom_26 rfl ?_
      cases H
      exact J_dr (hb0 _ rfl) ⟨rfl, ⟨rfl, ⟨rfl, ⟨rfl, trivial⟩⟩⟩⟩
    · replace H := br0 q5 H
      refine J_iload_n 3 dX0_longestFrom_21 rfl rfl ?_
      refine J_istore_n 2 dX0_longestFrom_22 rfl (by decide) (ls' := [.ref v0, .int v1, .int v3, .int v3]) rfl ?_
      refine J_iinc (v3 + (1 : Int32)) dX0_longestFrom_23 rfl (congrArg (HAdd.hAdd v3) kc_1) (by decide) (ls' := [.ref v0, .int v1, .int v3, .int (v3 + (1 : Int32))]) rfl ?_
      refine J_goto 4 dX0_longestFrom_26 rfl ?_
      cases H
      exact J_dr (hb0 _ rfl) ⟨rfl, ⟨rfl, ⟨rfl, ⟨rfl, trivial⟩⟩⟩⟩
noncomputable def MX0_longestFrom_4 (h : Hp) (v0 : Nat) (v1 : Int32) (v2 : Int32) (v3 : Int32) : Option Int32 := it (fun q : Int32 × Int32 => BX0_longestFrom_4 h v0 v1 q.1 q.2) (v2, v3)
set_option maxRecDepth 100000 in
set_option maxHeartbeats 8000000 in
theorem kX0_longestFrom_4 {d : Nat} {h : Hp} {v0 : Nat} {v1 : Int32} {v2 : Int32} {v3 : Int32} {r : Int32} (H : MX0_longestFrom_4 h v0 v1 v2 v3 = some r) : J (d + 1) YX0_longestFrom 4 [.ref v0, .int v1, .int v2, .int v3] [] h (oI r) h := by
  unfold MX0_longestFrom_4 at H
  refine it_J (G := (fun q : Int32 × Int32 => J (d + 1) YX0_longestFrom 4 [.ref v0, .int v1, .int q.1, .int q.2] [] h (oI r) h)) (Q := (fun y : Int32 => y = r)) (fun q x Hq hm => ?_) H rfl
  exact bX0_longestFrom_4 Hq (fun s hs => by subst hs; exact hm) (fun z hz => by subst hz; exact hm)
noncomputable def MX0_longestFrom (h : Hp) (v0 : Nat) (v1 : Int32) : Option Int32 :=
  MX0_longestFrom_4 h v0 v1 (-1 : Int32) v1
set_option maxRecDepth 100000 in
set_option maxHeartbeats 8000000 in
theorem eX0_longestFrom {d : Nat} {h : Hp} {v0 : Nat} {v1 : Int32} {r : Int32} (H : MX0_longestFrom h v0 v1 = some r) : J (d + 1) YX0_longestFrom 0 [.ref v0, .int v1, Value.null, Value.null] [] h (oI r) h := by
  unfold MX0_longestFrom at H
  refine J_iconst (-1 : Int32) dX0_longestFrom_0 kc_m1 ?_
  refine J_istore_n 2 dX0_longestFrom_1 rfl (by decide) (ls' := [.ref v0, .int v1, .int (-1 : Int32), Value.null]) rfl ?_
  refine J_iload_n 1 dX0_longestFrom_2 rfl rfl ?_
  refine J_istore_n 3 dX0_longestFrom_3 rfl (by decide) (ls' := [.ref v0, .int v1, .int (-1 : Int32), .int v1]) rfl ?_
  exact J_dr (kX0_longestFrom_4 H ) ⟨rfl, ⟨rfl, ⟨rfl, ⟨rfl, trivial⟩⟩⟩⟩
theorem okX0_longestFrom {d : Nat} {h : Hp} {v0 : Nat} {v1 : Int32} {r : Int32} (H : MX0_longestFrom h v0 v1 = some r) : CT (d + 1) YX0_longestFrom [.ref v0, .int v1] h (oI r) h := CT_of (by decide +kernel) (Nat.le_of_ble_eq_true rfl) (eX0_longestFrom H)
noncomputable def MX0_byHand_68 (h : Hp) (v1 : Int32) (v3 : Int32) (v4 : Int32) : Option Int32 :=
  if v1 = 0 then
    some v3
  else
    some v4
set_option maxRecDepth 100000 in
set_option maxHeartbeats 8000000 in
theorem kX0_byHand_68 {d : Nat} {h : Hp} {v1 : Int32} {v3 : Int32} {v4 : Int32} {r : Int32} (H : MX0_byHand_68 h v1 v3 v4 = some r) : J (d + 2) YX0_byHand 68 [Value.null, .int v1, Value.null, .int v3, .int v4, Value.null] [] h (oI r) h := by
  unfold MX0_byHand_68 at H
  refine J_iload_n 1 dX0_byHand_68 rfl rfl ?_
  refine J_if_eq 77 dX0_byHand_69 rfl (fun q3 => ?_) (fun q3 => ?_)
  · replace H := br1 q3 H
    refine J_iload_n 3 dX0_byHand_77 rfl rfl ?_
    cases H
    exact J_iretI dX0_byHand_78 rfl
  · replace H := br0 q3 H
    refine J_iload dX0_byHand_72 rfl ?_
    refine J_goto 78 dX0_byHand_74 rfl ?_
    cases H
    exact J_iretI dX0_byHand_78 rfl
noncomputable def MX0_byHand_57 (h : Hp) (v0 : Nat) (v1 : Int32) (v3 : Int32) (v5 : Int32) (s0 : Int32) (s1 : Int32) : Option ((Int32 × Int32 × Int32) ⊕ Int32) :=
  some (.inl ((v5 + (1 : Int32)), v3, (s0 + s1)))
set_option maxRecDepth 100000 in
set_option maxHeartbeats 8000000 in
theorem kX0_byHand_57 {d : Nat} {h : Hp} {v0 : Nat} {v1 : Int32} {v3 : Int32} {v5 : Int32} {s0 : Int32} {s1 : Int32} {r : Int32} {x : ((Int32 × Int32 × Int32) ⊕ Int32)} (H : MX0_byHand_57 h v0 v1 v3 v5 s0 s1 = some x) (hb0 : ∀ s : Int32 × Int32 × Int32, x = .inl s → J (d + 2) YX0_byHand 7 [.ref v0, .int v1, .int s.1, .int s.2.1, .int s.2.2, Value.null] [] h (oI r) h) (hx : ∀ z : Int32, x = .inr (z) → z = r) : J (d + 2) YX0_byHand 57 [.ref v0, .int v1, Value.null, .int v3, Value.null, .int v5] [.int s1, .int s0] h (oI r) h := by
  unfold MX0_byHand_57 at H
  refine J_iadd dX0_byHand_57 ?_
  refine J_istore dX0_byHand_58 (by decide) (ls' := [.ref v0, .int v1, Value.null, .int v3, .int (s0 + s1), .int v5]) rfl ?_
  refine J_iload dX0_byHand_60 rfl ?_
  refine J_iconst (1 : Int32) dX0_byHand_62 kc_1 ?_
  refine J_iadd dX0_byHand_63 ?_
  refine J_istore_n 2 dX0_byHand_64 rfl (by decide) (ls' := [.ref v0, .int v1, .int (v5 + (1 : Int32)), .int v3, .int (s0 + s1), .int v5]) rfl ?_
  refine J_goto 7 dX0_byHand_65 rfl ?_
  cases H
  exact J_dr (hb0 _ rfl) ⟨rfl, ⟨rfl, ⟨rfl, ⟨rfl, ⟨rfl, trivial⟩⟩⟩⟩⟩
noncomputable def BX0_byHand_7 (h : Hp) (v0 : Nat) (v1 : Int32) (v2 : Int32) (v3 : Int32) (v4 : Int32) : Option ((Int32 × Int32 × Int32) ⊕ Int32) :=
  gg (β := ((Int32 × Int32 × Int32) ⊕ Int32)) (kd h v0 = 0) <|
  if (gI h v0 6) ≤ v2 then
    up1 (MX0_byHand_68 h v1 v3 v4)
  else
    if (40 : Int32) ≤ v3 then
      up1 (MX0_byHand_68 h v1 v3 v4)
    else
      Option.bind (α := Int32) (β := ((Int32 × Int32 × Int32) ⊕ Int32)) (MX0_longestFrom h v0 v2) fun (t6 : Int32) =>
      if t6 = (-1 : Int32) then
        some (.inr ((-1 : Int32)))
      else
        Option.bind (α := Int32) (β := ((Int32 × Int32 × Int32) ⊕ Int32)) (MX0_lineBadness h v0 v2 t6) fun (t9 : Int32) =>
        if t9 = (-1 : Int32) then
          MX0_byHand_57 h v0 v1 (v3 + (1 : Int32)) t6 v4 (1 : Int32)
        else
          MX0_byHand_57 h v0 v1 (v3 + (1 : Int32)) t6 v4 (0 : Int32)
set_option maxRecDepth 100000 in
set_option maxHeartbeats 8000000 in
theorem bX0_byHand_7 {d : Nat} {h : Hp} {v0 : Nat} {v1 : Int32} {v2 : Int32} {v3 : Int32} {v4 : Int32} {r : Int32} {x : ((Int32 × Int32 × Int32) ⊕ Int32)} (H : BX0_byHand_7 h v0 v1 v2 v3 v4 = some x) (hb0 : ∀ s : Int32 × Int32 × Int32, x = .inl s → J (d + 2) YX0_byHand 7 [.ref v0, .int v1, .int s.1, .int s.2.1, .int s.2.2, Value.null] [] h (oI r) h) (hx : ∀ z : Int32, x = .inr (z) → z = r) : J (d + 2) YX0_byHand 7 [.ref v0, .int v1, .int v2, .int v3, .int v4, Value.null] [] h (oI r) h := by
  unfold BX0_byHand_7 at H
  refine J_iload_n 2 dX0_byHand_7 rfl rfl ?_
  refine J_aload_n 0 dX0_byHand_8 rfl rfl ?_
  obtain ⟨g1, H⟩ := gd H
  refine J_getI 0 6 dX0_byHand_9 g1 flX0_30 rfl ?_
  refine J_icmp_ge 68 dX0_byHand_12 rfl (fun q2 => ?_) (fun q2 => ?_)
  · replace H := br1 q2 H
    obtain ⟨y0, H90, rfl⟩ := up1_el H
    replace H := H90
    obtain rfl := hx _ rfl
    exact J_dr (kX0_byHand_68 H ) ⟨rfl, ⟨rfl, ⟨rfl, trivial⟩⟩⟩
  · replace H := br0 q2 H
    refine J_iload_n 3 dX0_byHand_15 rfl rfl ?_
    refine J_bipush (40 : Int32) dX0_byHand_16 kb_40 ?_
    refine J_icmp_ge 68 dX0_byHand_18 rfl (fun q4 => ?_) (fun q4 => ?_)
    · replace H := br1 q4 H
      obtain ⟨y0, H90, rfl⟩ := up1_el H
      replace H := H90
      obtain rfl := hx _ rfl
      exact J_dr (kX0_byHand_68 H ) ⟨rfl, ⟨rfl, ⟨rfl, trivial⟩⟩⟩
    · replace H := br0 q4 H
      refine J_aload_n 0 dX0_byHand_21 rfl rfl ?_
      refine J_iload_n 2 dX0_byHand_22 rfl rfl ?_
      obtain ⟨t6, e5, H⟩ := bd H
      refine J_cV (as := [.int v2]) 0 YX0_longestFrom 1 dX0_byHand_23 moX0_longestFrom mvX0_longestFrom mlX0_110 g1 rfl rfl (okX0_longestFrom (d := d) e5) rfl rfl [] rfl rfl (st2 := [.int t6]) rfl ?_
      refine J_istore dX0_byHand_26 (by decide) (ls' := [.ref v0, .int v1, .int v2, .int v3, .int v4, .int t6]) rfl ?_
      refine J_iload dX0_byHand_28 rfl ?_
      refine J_iconst (-1 : Int32) dX0_byHand_30 kc_m1 ?_
      refine J_icmp_ne 36 dX0_byHand_31 rfl (fun q7 => ?_) (fun q7 => ?_)
      · replace H := br0 q7 H
        refine J_iinc (v3 + (1 : Int32)) dX0_byHand_36 rfl (congrArg (HAdd.hAdd v3) kc_1) (by decide) (ls' := [.ref v0, .int v1, .int v2, .int (v3 + (1 : Int32)), .int v4, .int t6]) rfl ?_
        refine J_iload dX0_byHand_39 rfl ?_
        refine J_aload_n 0 dX0_byHand_41 rfl rfl ?_
        refine J_iload_n 2 dX0_byHand_42 rfl rfl ?_
        refine J_iload dX0_byHand_43 rfl ?_
        obtain ⟨t9, e8, H⟩ := bd H
        refine J_cV (as := [.int v2, .int t6]) 0 YX0_lineBadness 2 dX0_byHand_45 moX0_lineBadness mvX0_lineBadness mlX0_96 g1 rfl rfl (okX0_lineBadness (d := d) e8) rfl rfl [.int v4] rfl rfl (st2 := [.int t9, .int v4]) rfl ?_
        refine J_iconst (-1 : Int32) dX0_byHand_48 kc_m1 ?_
        refine J_icmp_ne 56 dX0_byHand_49 rfl (fun q10 => ?_) (fun q10 => ?_)
        · replace H := br0 q10 H
          refine J_iconst (0 : Int32) dX0_byHand_56 kc_0 ?_
          exact J_dr (kX0_byHand_57 H hb0 hx) ⟨rfl, ⟨rfl, ⟨rfl, ⟨rfl, trivial⟩⟩⟩⟩
        · replace H := br1 q10 H
          refine J_iconst (1 : Int32) dX0_byHand_52 kc_1 ?_
          refine J_goto 57 dX0_byHand_53 rfl ?_
          exact J_dr (kX0_byHand_57 H hb0 hx) ⟨rfl, ⟨rfl, ⟨rfl, ⟨rfl, trivial⟩⟩⟩⟩
      · replace H := br1 q7 H
        refine J_iconst (-1 : Int32) dX0_byHand_34 kc_m1 ?_
        cases H
        cases hx _ rfl
        exact J_iretI dX0_byHand_35 rfl
noncomputable def MX0_byHand_7 (h : Hp) (v0 : Nat) (v1 : Int32) (v2 : Int32) (v3 : Int32) (v4 : Int32) : Option Int32 := it (fun q : Int32 × Int32 × Int32 => BX0_byHand_7 h v0 v1 q.1 q.2.1 q.2.2) (v2, v3, v4)
set_option maxRecDepth 100000 in
set_option maxHeartbeats 8000000 in
theorem kX0_byHand_7 {d : Nat} {h : Hp} {v0 : Nat} {v1 : Int32} {v2 : Int32} {v3 : Int32} {v4 : Int32} {r : Int32} (H : MX0_byHand_7 h v0 v1 v2 v3 v4 = some r) : J (d + 2) YX0_byHand 7 [.ref v0, .int v1, .int v2, .int v3, .int v4, Value.null] [] h (oI r) h := by
  unfold MX0_byHand_7 at H
  refine it_J (G := (fun q : Int32 × Int32 × Int32 => J (d + 2) YX0_byHand 7 [.ref v0, .int v1, .int q.1, .int q.2.1, .int q.2.2, Value.null] [] h (oI r) h)) (Q := (fun y : Int32 => y = r)) (fun q x Hq hm => ?_) H rfl
  exact bX0_byHand_7 Hq (fun s hs => by subst hs; exact hm) (fun z hz => by subst hz; exact hm)
noncomputable def MX0_byHand (h : Hp) (v0 : Nat) (v1 : Int32) : Option Int32 :=
  MX0_byHand_7 h v0 v1 (0 : Int32) (0 : Int32) (0 : Int32)
set_option maxRecDepth 100000 in
set_option maxHeartbeats 8000000 in
theorem eX0_byHand {d : Nat} {h : Hp} {v0 : Nat} {v1 : Int32} {r : Int32} (H : MX0_byHand h v0 v1 = some r) : J (d + 2) YX0_byHand 0 [.ref v0, .int v1, Value.null, Value.null, Value.null, Value.null] [] h (oI r) h := by
  unfold MX0_byHand at H
  refine J_iconst (0 : Int32) dX0_byHand_0 kc_0 ?_
  refine J_istore_n 2 dX0_byHand_1 rfl (by decide) (ls' := [.ref v0, .int v1, .int (0 : Int32), Value.null, Value.null, Value.null]) rfl ?_
  refine J_iconst (0 : Int32) dX0_byHand_2 kc_0 ?_
  refine J_istore_n 3 dX0_byHand_3 rfl (by decide) (ls' := [.ref v0, .int v1, .int (0 : Int32), .int (0 : Int32), Value.null, Value.null]) rfl ?_
  refine J_iconst (0 : Int32) dX0_byHand_4 kc_0 ?_
  refine J_istore dX0_byHand_5 (by decide) (ls' := [.ref v0, .int v1, .int (0 : Int32), .int (0 : Int32), .int (0 : Int32), Value.null]) rfl ?_
  exact J_dr (kX0_byHand_7 H ) ⟨rfl, ⟨rfl, ⟨rfl, ⟨rfl, ⟨rfl, trivial⟩⟩⟩⟩⟩
theorem okX0_byHand {d : Nat} {h : Hp} {v0 : Nat} {v1 : Int32} {r : Int32} (H : MX0_byHand h v0 v1 = some r) : CT (d + 2) YX0_byHand [.ref v0, .int v1] h (oI r) h := CT_of (by decide +kernel) (Nat.le_of_ble_eq_true rfl) (eX0_byHand H)
noncomputable def MX11_hand (h : Hp) (v0 : Nat) (v1 : Int32) (v2 : Int32) : Option ((Int32 ⊕ Nat) × Hp) :=
  gg (β := ((Int32 ⊕ Nat) × Hp)) (kd h v0 = 10) <|
  gg (β := ((Int32 ⊕ Nat) × Hp)) (kd h (gP h v0 5) = 6) <|
  Option.bind (α := Nat) (β := ((Int32 ⊕ Nat) × Hp)) (MX7_findPart h (gP h v0 5) v1) fun (t4 : Nat) =>
  if t4 = 0 then
    some (.inr 1, bmp h 1 6)
  else
    b2 (α := Nat) (β := Hp) (γ := ((Int32 ⊕ Nat) × Hp)) (MX7_breakerFor h (gP h v0 5) t4 (gI h (gP h v0 5) 0)) fun (t8 : Nat) (h7 : Hp) =>
    gg (β := ((Int32 ⊕ Nat) × Hp)) (kd h7 t8 = 0) <|
    Option.bind (α := Int32) (β := ((Int32 ⊕ Nat) × Hp)) (MX0_byHand h7 t8 v2) fun (t11 : Int32) =>
    some (.inl t11, h7)
set_option maxRecDepth 100000 in
set_option maxHeartbeats 8000000 in
theorem eX11_hand {d : Nat} {h : Hp} {v0 : Nat} {v1 : Int32} {v2 : Int32} {r : Int32 ⊕ Nat} {h9 : Hp} (H : MX11_hand h v0 v1 v2 = some (r, h9)) : J (d + 4) YX11_hand 0 [.ref v0, .int v1, .int v2, Value.null] [] h (oT r) h9 := by
  unfold MX11_hand at H
  refine J_aload_n 0 dX11_hand_0 rfl rfl ?_
  obtain ⟨g1, H⟩ := gd H
  refine J_gP 10 5 dX11_hand_1 g1 flX11_39 rfl rfl ?_
  refine J_iload_n 1 dX11_hand_4 rfl rfl ?_
  obtain ⟨g3, H⟩ := gd H
  obtain ⟨t4, e2, H⟩ := bd H
  refine J_cV (as := [.int v1]) 6 YX7_findPart 1 dX11_hand_5 moX7_findPart mvX7_findPart mlX11_139 g3 rfl rfl (okX7_findPart (d := d + 3) e2) rfl rfl [] rfl rfl (st2 := [.ref t4]) rfl ?_
  refine J_astore_n 3 dX11_hand_8 rfl (by decide) (ls' := [.ref v0, .int v1, .int v2, .ref t4]) rfl ?_
  refine J_aload_n 3 dX11_hand_9 rfl rfl ?_
  refine J_ifnonnull 21 dX11_hand_10 rfl (fun q5 => ?_) (fun q5 => ?_)
  · replace H := br0 q5 H
    refine J_aload_n 0 dX11_hand_21 rfl rfl ?_
    refine J_gP 10 5 dX11_hand_22 g1 flX11_39 rfl rfl ?_
    refine J_aload_n 3 dX11_hand_25 rfl rfl ?_
    refine J_aload_n 0 dX11_hand_26 rfl rfl ?_
    refine J_gP 10 5 dX11_hand_27 g1 flX11_39 rfl rfl ?_
    refine J_getI 6 0 dX11_hand_30 g3 flX11_117 rfl ?_
    obtain ⟨t8, h7, e6, H⟩ := b2_el H
    refine J_cV (as := [.ref t4, .int (gI h (gP h v0 5) 0)]) 6 YX7_breakerFor 2 dX11_hand_33 moX7_breakerFor mvX7_breakerFor mlX11_175 g3 rfl rfl (okX7_breakerFor (d := d) e6) rfl rfl [] rfl rfl (st2 := [.ref t8]) rfl ?_
    refine J_iload_n 2 dX11_hand_36 rfl rfl ?_
    obtain ⟨g10, H⟩ := gd H
    obtain ⟨t11, e9, H⟩ := bd H
    refine J_cV (as := [.int v2]) 0 YX0_byHand 1 dX11_hand_37 moX0_byHand mvX0_byHand mlX11_217 g10 rfl rfl (okX0_byHand (d := d + 1) e9) rfl rfl [] rfl rfl (st2 := [.int t11]) rfl ?_
    cases H
    exact J_iretI dX11_hand_40 rfl
  · replace H := br1 q5 H
    cases H
    exact J_throw 1 ["java/lang/RuntimeException", "java/lang/Exception"] dX11_hand_13 dX11_hand_16 dX11_hand_17 dX11_hand_20 th_86 clX11_84 (Nat.le_of_ble_eq_true rfl)
theorem okX11_hand {d : Nat} {h : Hp} {v0 : Nat} {v1 : Int32} {v2 : Int32} {r : Int32 ⊕ Nat} {h9 : Hp} (H : MX11_hand h v0 v1 v2 = some (r, h9)) : CT (d + 4) YX11_hand [.ref v0, .int v1, .int v2] h (oT r) h9 := CT_of (by decide +kernel) (Nat.le_of_ble_eq_true rfl) (eX11_hand H)
noncomputable def MX11_image_36 (h : Hp) (v0 : Nat) : Option Hp :=
  gg (β := Hp) (kd h v0 = 10) <|
  gg (β := Hp) (kd h (gP h v0 9) = 6) <|
  Option.bind (α := Hp) (β := Hp) (MX7_takeAll h (gP h v0 9) (gP h v0 5)) fun (h8 : Hp) =>
  gg (β := Hp) (kd h8 v0 = 10) <|
  gg (β := Hp) (kd h8 (gP h8 v0 10) = 1) <|
  Option.bind (α := Hp) (β := Hp) (MX2_takeAll h8 (gP h8 v0 10) (gP h8 v0 6)) fun (h12 : Hp) =>
  some h12
set_option maxRecDepth 100000 in
set_option maxHeartbeats 8000000 in
theorem kX11_image_36 {d : Nat} {h : Hp} {v0 : Nat} {h9 : Hp} (H : MX11_image_36 h v0 = some h9) : J (d + 4) YX11_image 36 [.ref v0] [] h oV h9 := by
  unfold MX11_image_36 at H
  refine J_aload_n 0 dX11_image_36 rfl rfl ?_
  obtain ⟨g5, H⟩ := gd H
  refine J_gP 10 9 dX11_image_37 g5 flX11_64 rfl rfl ?_
  refine J_aload_n 0 dX11_image_40 rfl rfl ?_
  refine J_gP 10 5 dX11_image_41 g5 flX11_39 rfl rfl ?_
  obtain ⟨g7, H⟩ := gd H
  obtain ⟨h8, e6, H⟩ := bd H
  refine J_cV (as := [.ref (gP h v0 5)]) 6 YX7_takeAll 1 dX11_image_44 moX7_takeAll mvX7_takeAll mlX11_469 g7 rfl rfl (okX7_takeAll (d := d) e6) rfl rfl [] rfl rfl (st2 := []) rfl ?_
  refine J_aload_n 0 dX11_image_47 rfl rfl ?_
  obtain ⟨g9, H⟩ := gd H
  refine J_gP 10 10 dX11_image_48 g9 flX11_67 rfl rfl ?_
  refine J_aload_n 0 dX11_image_51 rfl rfl ?_
  refine J_gP 10 6 dX11_image_52 g9 flX11_46 rfl rfl ?_
  obtain ⟨g11, H⟩ := gd H
  obtain ⟨h12, e10, H⟩ := bd H
  refine J_cV (as := [.ref (gP h8 v0 6)]) 1 YX2_takeAll 1 dX11_image_55 moX2_takeAll mvX2_takeAll mlX11_495 g11 rfl rfl (okX2_takeAll (d := d + 1) e10) rfl rfl [] rfl rfl (st2 := []) rfl ?_
  cases H
  exact J_ret dX11_image_58 rfl
noncomputable def MX11_image_18 (h : Hp) (v0 : Nat) : Option Hp :=
  gg (β := Hp) (kd h v0 = 10) <|
  if (gP h v0 10) = 0 then
    lt (α := Hp) (β := Option Hp) (alc h 1 12) fun (h13 : Hp) =>
    Option.bind (α := Hp) (β := Hp) (MX2_init h13 (sz h + 1)) fun (h16 : Hp) =>
    gg (β := Hp) (kd h16 v0 = 10) <|
    lt (α := Hp) (β := Option Hp) (sP h16 v0 10 (sz h + 1)) fun (h18 : Hp) =>
    MX11_image_36 h18 v0
  else
    MX11_image_36 h v0
set_option maxRecDepth 100000 in
set_option maxHeartbeats 8000000 in
theorem kX11_image_18 {d : Nat} {h : Hp} {v0 : Nat} {h9 : Hp} (H : MX11_image_18 h v0 = some h9) : J (d + 4) YX11_image 18 [.ref v0] [] h oV h9 := by
  unfold MX11_image_18 at H
  refine J_aload_n 0 dX11_image_18 rfl rfl ?_
  obtain ⟨g3, H⟩ := gd H
  refine J_gP 10 10 dX11_image_19 g3 flX11_67 rfl rfl ?_
  refine J_ifnonnull 36 dX11_image_22 rfl (fun q4 => ?_) (fun q4 => ?_)
  · replace H := br0 q4 H
    exact J_dr (kX11_image_36 H ) ⟨rfl, trivial⟩
  · replace H := br1 q4 H
    refine J_aload_n 0 dX11_image_25 rfl rfl ?_
    obtain ⟨h13, e14, H⟩ := lt_el H
    refine J_nO 1 12 dX11_image_26 rfl rfl clX11_43 in1 ini1 e14 ?_
    refine J_dup dX11_image_29 rfl ?_
    obtain ⟨h16, e15, H⟩ := bd H
    refine J_cI (as := []) YX2_init 0 dX11_image_30 moX2_init miX2_init mlX11_45 rfl rfl (kn99 (ekN e14) rfl) (okX2_init (d := d + 3) e15) rfl rfl [.ref (sz h + 1), .ref v0] rfl rfl ?_
    obtain ⟨g17, H⟩ := gd H
    obtain ⟨h18, e19, H⟩ := lt_el H
    refine J_pP 10 10 dX11_image_33 g17 flX11_67 rfl rfl e19 ?_
    have c20 := ekP e19
    have c21 := elP e19
    exact J_dr (kX11_image_36 H ) ⟨rfl, trivial⟩
noncomputable def MX11_image (h : Hp) (v0 : Nat) : Option Hp :=
  gg (β := Hp) (kd h v0 = 10) <|
  if (gP h v0 9) = 0 then
    lt (α := Hp) (β := Option Hp) (alc h 6 20) fun (h22 : Hp) =>
    Option.bind (α := Hp) (β := Hp) (MX7_init h22 (sz h + 1)) fun (h25 : Hp) =>
    gg (β := Hp) (kd h25 v0 = 10) <|
    lt (α := Hp) (β := Option Hp) (sP h25 v0 9 (sz h + 1)) fun (h27 : Hp) =>
    MX11_image_18 h27 v0
  else
    MX11_image_18 h v0
set_option maxRecDepth 100000 in
set_option maxHeartbeats 8000000 in
theorem eX11_image {d : Nat} {h : Hp} {v0 : Nat} {h9 : Hp} (H : MX11_image h v0 = some h9) : J (d + 4) YX11_image 0 [.ref v0] [] h oV h9 := by
  unfold MX11_image at H
  refine J_aload_n 0 dX11_image_0 rfl rfl ?_
  obtain ⟨g1, H⟩ := gd H
  refine J_gP 10 9 dX11_image_1 g1 flX11_64 rfl rfl ?_
  refine J_ifnonnull 18 dX11_image_4 rfl (fun q2 => ?_) (fun q2 => ?_)
  · replace H := br0 q2 H
    exact J_dr (kX11_image_18 H ) ⟨rfl, trivial⟩
  · replace H := br1 q2 H
    refine J_aload_n 0 dX11_image_7 rfl rfl ?_
    obtain ⟨h22, e23, H⟩ := lt_el H
    refine J_nO 6 20 dX11_image_8 rfl rfl clX11_36 in6 ini6 e23 ?_
    refine J_dup dX11_image_11 rfl ?_
    obtain ⟨h25, e24, H⟩ := bd H
    refine J_cI (as := []) YX7_init 0 dX11_image_12 moX7_init miX7_init mlX11_38 rfl rfl (kn99 (ekN e23) rfl) (okX7_init (d := d + 2) e24) rfl rfl [.ref (sz h + 1), .ref v0] rfl rfl ?_
    obtain ⟨g26, H⟩ := gd H
    obtain ⟨h27, e28, H⟩ := lt_el H
    refine J_pP 10 9 dX11_image_15 g26 flX11_64 rfl rfl e28 ?_
    have c29 := ekP e28
    have c30 := elP e28
    exact J_dr (kX11_image_18 H ) ⟨rfl, trivial⟩
theorem okX11_image {d : Nat} {h : Hp} {v0 : Nat} {h9 : Hp} (H : MX11_image h v0 = some h9) : CT (d + 4) YX11_image [.ref v0] h oV h9 := CT_of (by decide +kernel) (Nat.le_of_ble_eq_true rfl) (eX11_image H)
noncomputable def MX11_isFace (h : Hp) (v0 : Int32) : Option Int32 :=
  if v0 < 0 then
    some (0 : Int32)
  else
    if (2 : Int32) ≤ v0 then
      some (0 : Int32)
    else
      some (1 : Int32)
set_option maxRecDepth 100000 in
set_option maxHeartbeats 8000000 in
theorem eX11_isFace {d : Nat} {h : Hp} {v0 : Int32} {r : Int32} (H : MX11_isFace h v0 = some r) : J (d) YX11_isFace 0 [.int v0] [] h (oI r) h := by
  unfold MX11_isFace at H
  refine J_iload_n 0 dX11_isFace_0 rfl rfl ?_
  refine J_if_lt 13 dX11_isFace_1 rfl (fun q1 => ?_) (fun q1 => ?_)
  · replace H := br1 q1 H
    refine J_iconst (0 : Int32) dX11_isFace_13 kc_0 ?_
    cases H
    exact J_rZ dX11_isFace_14 rfl rfl
  · replace H := br0 q1 H
    refine J_iload_n 0 dX11_isFace_4 rfl rfl ?_
    refine J_iconst (2 : Int32) dX11_isFace_5 kc_2 ?_
    refine J_icmp_ge 13 dX11_isFace_6 rfl (fun q2 => ?_) (fun q2 => ?_)
    · replace H := br1 q2 H
      refine J_iconst (0 : Int32) dX11_isFace_13 kc_0 ?_
      cases H
      exact J_rZ dX11_isFace_14 rfl rfl
    · replace H := br0 q2 H
      refine J_iconst (1 : Int32) dX11_isFace_9 kc_1 ?_
      refine J_goto 14 dX11_isFace_10 rfl ?_
      cases H
      exact J_rZ dX11_isFace_14 rfl rfl
theorem okX11_isFace {d : Nat} {h : Hp} {v0 : Int32} {r : Int32} (H : MX11_isFace h v0 = some r) : CT (d) YX11_isFace [.int v0] h (oI r) h := CT_of (by decide +kernel) (Nat.le_of_ble_eq_true rfl) (eX11_isFace H)
noncomputable def MX11_isMinute (h : Hp) (v0 : Int32) : Option Int32 :=
  if v0 < 0 then
    some (0 : Int32)
  else
    if (600 : Int32) < v0 then
      some (0 : Int32)
    else
      some (1 : Int32)
set_option maxRecDepth 100000 in
set_option maxHeartbeats 8000000 in
theorem eX11_isMinute {d : Nat} {h : Hp} {v0 : Int32} {r : Int32} (H : MX11_isMinute h v0 = some r) : J (d) YX11_isMinute 0 [.int v0] [] h (oI r) h := by
  unfold MX11_isMinute at H
  refine J_iload_n 0 dX11_isMinute_0 rfl rfl ?_
  refine J_if_lt 15 dX11_isMinute_1 rfl (fun q1 => ?_) (fun q1 => ?_)
  · replace H := br1 q1 H
    refine J_iconst (0 : Int32) dX11_isMinute_15 kc_0 ?_
    cases H
    exact J_rZ dX11_isMinute_16 rfl rfl
  · replace H := br0 q1 H
    refine J_iload_n 0 dX11_isMinute_4 rfl rfl ?_
    refine J_sipush (600 : Int32) dX11_isMinute_5 ks_600 ?_
    refine J_icmp_gt 15 dX11_isMinute_8 rfl (fun q2 => ?_) (fun q2 => ?_)
    · replace H := br1 q2 H
      refine J_iconst (0 : Int32) dX11_isMinute_15 kc_0 ?_
      cases H
      exact J_rZ dX11_isMinute_16 rfl rfl
    · replace H := br0 q2 H
      refine J_iconst (1 : Int32) dX11_isMinute_11 kc_1 ?_
      refine J_goto 16 dX11_isMinute_12 rfl ?_
      cases H
      exact J_rZ dX11_isMinute_16 rfl rfl
theorem okX11_isMinute {d : Nat} {h : Hp} {v0 : Int32} {r : Int32} (H : MX11_isMinute h v0 = some r) : CT (d) YX11_isMinute [.int v0] h (oI r) h := CT_of (by decide +kernel) (Nat.le_of_ble_eq_true rfl) (eX11_isMinute H)
noncomputable def MX8_saysText (h : Hp) (v0 : Nat) (v1 : Nat) (v2 : Int32) : Option Int32 :=
  gg (β := Int32) (kd h v0 = 7) <|
  Option.bind (α := Int32) (β := Int32) (MX8_sameBytes h (gP h v0 1) (gI h v0 2) v1 v2) fun (t3 : Int32) =>
  gg (β := Int32) (zOk t3 = true) <|
  some t3
set_option maxRecDepth 100000 in
set_option maxHeartbeats 8000000 in
theorem eX8_saysText {d : Nat} {h : Hp} {v0 : Nat} {v1 : Nat} {v2 : Int32} {r : Int32} (H : MX8_saysText h v0 v1 v2 = some r) : J (d + 1) YX8_saysText 0 [.ref v0, .ref v1, .int v2] [] h (oI r) h := by
  unfold MX8_saysText at H
  refine J_aload_n 0 dX8_saysText_0 rfl rfl ?_
  obtain ⟨g1, H⟩ := gd H
  refine J_gP 7 1 dX8_saysText_1 g1 flX8_15 rfl rfl ?_
  refine J_aload_n 0 dX8_saysText_4 rfl rfl ?_
  refine J_getI 7 2 dX8_saysText_5 g1 flX8_18 rfl ?_
  refine J_aload_n 1 dX8_saysText_8 rfl rfl ?_
  refine J_iload_n 2 dX8_saysText_9 rfl rfl ?_
  obtain ⟨t3, e2, H⟩ := bd H
  refine J_cS (as := [.ref (gP h v0 1), .int (gI h v0 2), .ref v1, .int v2]) YX8_sameBytes 4 dX8_saysText_10 moX8_sameBytes msX8_sameBytes mlX8_88 (okX8_sameBytes (d := d) e2) rfl rfl [] rfl rfl (st2 := [.int t3]) rfl ?_
  obtain ⟨g4, H⟩ := gd H
  cases H
  exact J_rZ dX8_saysText_13 rfl g4
theorem okX8_saysText {d : Nat} {h : Hp} {v0 : Nat} {v1 : Nat} {v2 : Int32} {r : Int32} (H : MX8_saysText h v0 v1 v2 = some r) : CT (d + 1) YX8_saysText [.ref v0, .ref v1, .int v2] h (oI r) h := CT_of (by decide +kernel) (Nat.le_of_ble_eq_true rfl) (eX8_saysText H)
noncomputable def MX7_isRight_22 (h : Hp) (v0 : Nat) (v1 : Nat) (v2 : Int32) (s0 : Nat) : Option (Int32 × Hp) :=
  if s0 = 0 then
    some ((0 : Int32), h)
  else
    gg (β := (Int32 × Hp)) (kd h s0 = 7) <|
    gg (β := (Int32 × Hp)) (kd h v1 = 4) <|
    if (gI h s0 6) = (gI h v1 7) then
      gg (β := (Int32 × Hp)) (kd h v0 = 6) <|
      b2 (α := Int32) (β := Hp) (γ := (Int32 × Hp)) (MX5_spell h v1 v2 (gP h v0 18)) fun (t12 : Int32) (h11 : Hp) =>
      gg (β := (Int32 × Hp)) (kd h11 s0 = 7) <|
      Option.bind (α := Int32) (β := (Int32 × Hp)) (MX8_saysText h11 s0 (gP h v0 18) t12) fun (t15 : Int32) =>
      if t15 = 0 then
        some ((0 : Int32), h11)
      else
        some ((1 : Int32), h11)
    else
      some ((0 : Int32), h)
set_option maxRecDepth 100000 in
set_option maxHeartbeats 8000000 in
theorem kX7_isRight_22 {d : Nat} {h : Hp} {v0 : Nat} {v1 : Nat} {v2 : Int32} {s0 : Nat} {r : Int32} {h9 : Hp} (H : MX7_isRight_22 h v0 v1 v2 s0 = some (r, h9)) : J (d + 2) YX7_isRight 22 [.ref v0, .ref v1, .int v2, Value.null] [.ref s0] h (oI r) h9 := by
  unfold MX7_isRight_22 at H
  refine J_astore_n 3 dX7_isRight_22 rfl (by decide) (ls' := [.ref v0, .ref v1, .int v2, .ref s0]) rfl ?_
  refine J_aload_n 3 dX7_isRight_23 rfl rfl ?_
  refine J_ifnull 62 dX7_isRight_24 rfl (fun q5 => ?_) (fun q5 => ?_)
  · replace H := br1 q5 H
    refine J_iconst (0 : Int32) dX7_isRight_62 kc_0 ?_
    cases H
    exact J_rZ dX7_isRight_63 rfl rfl
  · replace H := br0 q5 H
    refine J_aload_n 3 dX7_isRight_27 rfl rfl ?_
    obtain ⟨g6, H⟩ := gd H
    refine J_getI 7 6 dX7_isRight_28 g6 flX7_295 rfl ?_
    refine J_aload_n 1 dX7_isRight_31 rfl rfl ?_
    obtain ⟨g7, H⟩ := gd H
    refine J_getI 4 7 dX7_isRight_32 g7 flX7_151 rfl ?_
    refine J_icmp_ne 62 dX7_isRight_35 rfl (fun q8 => ?_) (fun q8 => ?_)
    · replace H := br0 q8 H
      refine J_iconst (0 : Int32) dX7_isRight_62 kc_0 ?_
      cases H
      exact J_rZ dX7_isRight_63 rfl rfl
    · replace H := br1 q8 H
      refine J_aload_n 3 dX7_isRight_38 rfl rfl ?_
      refine J_aload_n 0 dX7_isRight_39 rfl rfl ?_
      obtain ⟨g9, H⟩ := gd H
      refine J_gP 6 18 dX7_isRight_40 g9 flX7_85 rfl rfl ?_
      refine J_aload_n 1 dX7_isRight_43 rfl rfl ?_
      refine J_iload_n 2 dX7_isRight_44 rfl rfl ?_
      refine J_aload_n 0 dX7_isRight_45 rfl rfl ?_
      refine J_gP 6 18 dX7_isRight_46 g9 flX7_85 rfl rfl ?_
      obtain ⟨t12, h11, e10, H⟩ := b2_el H
      refine J_cV (as := [.int v2, .ref (gP h v0 18)]) 4 YX5_spell 2 dX7_isRight_49 moX5_spell mvX5_spell mlX7_270 g7 rfl rfl (okX5_spell (d := d) e10) rfl rfl [.ref (gP h v0 18), .ref s0] rfl rfl (st2 := [.int t12, .ref (gP h v0 18), .ref s0]) rfl ?_
      obtain ⟨g14, H⟩ := gd H
      obtain ⟨t15, e13, H⟩ := bd H
      refine J_cV (as := [.ref (gP h v0 18), .int t12]) 7 YX8_saysText 2 dX7_isRight_52 moX8_saysText mvX8_saysText mlX7_333 g14 rfl rfl (okX8_saysText (d := d) e13) rfl rfl [] rfl rfl (st2 := [.int t15]) rfl ?_
      refine J_if_eq 62 dX7_isRight_55 rfl (fun q16 => ?_) (fun q16 => ?_)
      · replace H := br1 q16 H
        refine J_iconst (0 : Int32) dX7_isRight_62 kc_0 ?_
        cases H
        exact J_rZ dX7_isRight_63 rfl rfl
      · replace H := br0 q16 H
        refine J_iconst (1 : Int32) dX7_isRight_58 kc_1 ?_
        refine J_goto 63 dX7_isRight_59 rfl ?_
        cases H
        exact J_rZ dX7_isRight_63 rfl rfl
noncomputable def MX7_isRight (h : Hp) (v0 : Nat) (v1 : Nat) (v2 : Int32) : Option (Int32 × Hp) :=
  gg (β := (Int32 × Hp)) (kd h v1 = 4) <|
  Option.bind (α := Int32) (β := (Int32 × Hp)) (MX5_hasLine h v1 v2) fun (t3 : Int32) =>
  if t3 = 0 then
    MX7_isRight_22 h v0 v1 v2 0
  else
    gg (β := (Int32 × Hp)) (kd h (gP h v1 4) = 20) <|
    gg (β := (Int32 × Hp)) (inB v2 (ln h (gP h v1 4)) = true) <|
    gg (β := (Int32 × Hp)) (kd h v0 = 6) <|
    Option.bind (α := Nat) (β := (Int32 × Hp)) (MX7_findSlug h v0 (gI h (gP h v1 4) v2.toNatClampNeg)) fun (t21 : Nat) =>
    MX7_isRight_22 h v0 v1 v2 t21
set_option maxRecDepth 100000 in
set_option maxHeartbeats 8000000 in
theorem eX7_isRight {d : Nat} {h : Hp} {v0 : Nat} {v1 : Nat} {v2 : Int32} {r : Int32} {h9 : Hp} (H : MX7_isRight h v0 v1 v2 = some (r, h9)) : J (d + 2) YX7_isRight 0 [.ref v0, .ref v1, .int v2, Value.null] [] h (oI r) h9 := by
  unfold MX7_isRight at H
  refine J_aload_n 1 dX7_isRight_0 rfl rfl ?_
  refine J_iload_n 2 dX7_isRight_1 rfl rfl ?_
  obtain ⟨g2, H⟩ := gd H
  obtain ⟨t3, e1, H⟩ := bd H
  refine J_cV (as := [.int v2]) 4 YX5_hasLine 1 dX7_isRight_2 moX5_hasLine mvX5_hasLine mlX7_284 g2 rfl rfl (okX5_hasLine (d := d + 1) e1) rfl rfl [] rfl rfl (st2 := [.int t3]) rfl ?_
  refine J_if_eq 21 dX7_isRight_5 rfl (fun q4 => ?_) (fun q4 => ?_)
  · replace H := br1 q4 H
    refine J_null dX7_isRight_21 ?_
    exact J_dr (kX7_isRight_22 H ) ⟨rfl, ⟨rfl, ⟨rfl, trivial⟩⟩⟩
  · replace H := br0 q4 H
    refine J_aload_n 0 dX7_isRight_8 rfl rfl ?_
    refine J_aload_n 1 dX7_isRight_9 rfl rfl ?_
    refine J_gP 4 4 dX7_isRight_10 g2 flX7_327 rfl rfl ?_
    refine J_iload_n 2 dX7_isRight_13 rfl rfl ?_
    obtain ⟨g17, H⟩ := gd H
    obtain ⟨g18, H⟩ := gd H
    refine J_iald dX7_isRight_14 g17 (inB_ok g18) ?_
    obtain ⟨g20, H⟩ := gd H
    obtain ⟨t21, e19, H⟩ := bd H
    refine J_cV (as := [.int (gI h (gP h v1 4) v2.toNatClampNeg)]) 6 YX7_findSlug 1 dX7_isRight_15 moX7_findSlug mvX7_findSlug mlX7_315 g20 rfl rfl (okX7_findSlug (d := d + 1) e19) rfl rfl [] rfl rfl (st2 := [.ref t21]) rfl ?_
    refine J_goto 22 dX7_isRight_18 rfl ?_
    exact J_dr (kX7_isRight_22 H ) ⟨rfl, ⟨rfl, ⟨rfl, trivial⟩⟩⟩
theorem okX7_isRight {d : Nat} {h : Hp} {v0 : Nat} {v1 : Nat} {v2 : Int32} {r : Int32} {h9 : Hp} (H : MX7_isRight h v0 v1 v2 = some (r, h9)) : CT (d + 2) YX7_isRight [.ref v0, .ref v1, .int v2] h (oI r) h9 := CT_of (by decide +kernel) (Nat.le_of_ble_eq_true rfl) (eX7_isRight H)
noncomputable def BX7_firstNotRight_2 (h : Hp) (v0 : Nat) (v1 : Nat) (v2 : Int32) : Option ((Int32 × Hp) ⊕ (Int32 × Hp)) :=
  gg (β := ((Int32 × Hp) ⊕ (Int32 × Hp))) (kd h v1 = 4) <|
  if (gI h v1 9) ≤ v2 then
    some (.inr (((-1 : Int32), h)))
  else
    gg (β := ((Int32 × Hp) ⊕ (Int32 × Hp))) (kd h v0 = 6) <|
    b2 (α := Int32) (β := Hp) (γ := ((Int32 × Hp) ⊕ (Int32 × Hp))) (MX7_isRight h v0 v1 v2) fun (t6 : Int32) (h5 : Hp) =>
    if t6 = 0 then
      some (.inr ((v2, h5)))
    else
      some (.inl ((v2 + (1 : Int32)), h5))
set_option maxRecDepth 100000 in
set_option maxHeartbeats 8000000 in
theorem bX7_firstNotRight_2 {d : Nat} {h : Hp} {v0 : Nat} {v1 : Nat} {v2 : Int32} {r : Int32} {h9 : Hp} {x : ((Int32 × Hp) ⊕ (Int32 × Hp))} (H : BX7_firstNotRight_2 h v0 v1 v2 = some x) (hb0 : ∀ s : Int32 × Hp, x = .inl s → J (d + 3) YX7_firstNotRight 2 [.ref v0, .ref v1, .int s.1] [] s.2 (oI r) h9) (hx : ∀ z : (Int32 × Hp), x = .inr (z) → z = (r, h9)) : J (d + 3) YX7_firstNotRight 2 [.ref v0, .ref v1, .int v2] [] h (oI r) h9 := by
  unfold BX7_firstNotRight_2 at H
  refine J_iload_n 2 dX7_firstNotRight_2 rfl rfl ?_
  refine J_aload_n 1 dX7_firstNotRight_3 rfl rfl ?_
  obtain ⟨g1, H⟩ := gd H
  refine J_getI 4 9 dX7_firstNotRight_4 g1 flX7_225 rfl ?_
  refine J_icmp_ge 27 dX7_firstNotRight_7 rfl (fun q2 => ?_) (fun q2 => ?_)
  · replace H := br1 q2 H
    refine J_iconst (-1 : Int32) dX7_firstNotRight_27 kc_m1 ?_
    cases H
    cases hx _ rfl
    exact J_iretI dX7_firstNotRight_28 rfl
  · replace H := br0 q2 H
    refine J_aload_n 0 dX7_firstNotRight_10 rfl rfl ?_
    refine J_aload_n 1 dX7_firstNotRight_11 rfl rfl ?_
    refine J_iload_n 2 dX7_firstNotRight_12 rfl rfl ?_
    obtain ⟨g4, H⟩ := gd H
    obtain ⟨t6, h5, e3, H⟩ := b2_el H
    refine J_cV (as := [.ref v1, .int v2]) 6 YX7_isRight 2 dX7_firstNotRight_13 moX7_isRight mvX7_isRight mlX7_337 g4 rfl rfl (okX7_isRight (d := d) e3) rfl rfl [] rfl rfl (st2 := [.int t6]) rfl ?_
    refine J_if_ne 21 dX7_firstNotRight_16 rfl (fun q7 => ?_) (fun q7 => ?_)
    · replace H := br0 q7 H
      refine J_iinc (v2 + (1 : Int32)) dX7_firstNotRight_21 rfl (congrArg (HAdd.hAdd v2) kc_1) (by decide) (ls' := [.ref v0, .ref v1, .int (v2 + (1 : Int32))]) rfl ?_
      refine J_goto 2 dX7_firstNotRight_24 rfl ?_
      cases H
      exact J_dr (hb0 _ rfl) ⟨rfl, ⟨rfl, ⟨rfl, trivial⟩⟩⟩
    · replace H := br1 q7 H
      refine J_iload_n 2 dX7_firstNotRight_19 rfl rfl ?_
      cases H
      cases hx _ rfl
      exact J_iretI dX7_firstNotRight_20 rfl
noncomputable def MX7_firstNotRight_2 (h : Hp) (v0 : Nat) (v1 : Nat) (v2 : Int32) : Option (Int32 × Hp) := it (fun q : Int32 × Hp => BX7_firstNotRight_2 q.2 v0 v1 q.1) (v2, h)
set_option maxRecDepth 100000 in
set_option maxHeartbeats 8000000 in
theorem kX7_firstNotRight_2 {d : Nat} {h : Hp} {v0 : Nat} {v1 : Nat} {v2 : Int32} {r : Int32} {h9 : Hp} (H : MX7_firstNotRight_2 h v0 v1 v2 = some (r, h9)) : J (d + 3) YX7_firstNotRight 2 [.ref v0, .ref v1, .int v2] [] h (oI r) h9 := by
  unfold MX7_firstNotRight_2 at H
  refine it_J (G := (fun q : Int32 × Hp => J (d + 3) YX7_firstNotRight 2 [.ref v0, .ref v1, .int q.1] [] q.2 (oI r) h9)) (Q := (fun y : (Int32 × Hp) => y = (r, h9))) (fun q x Hq hm => ?_) H rfl
  exact bX7_firstNotRight_2 Hq (fun s hs => by subst hs; exact hm) (fun z hz => by subst hz; exact hm)
noncomputable def MX7_firstNotRight (h : Hp) (v0 : Nat) (v1 : Nat) : Option (Int32 × Hp) :=
  MX7_firstNotRight_2 h v0 v1 (0 : Int32)
set_option maxRecDepth 100000 in
set_option maxHeartbeats 8000000 in
theorem eX7_firstNotRight {d : Nat} {h : Hp} {v0 : Nat} {v1 : Nat} {r : Int32} {h9 : Hp} (H : MX7_firstNotRight h v0 v1 = some (r, h9)) : J (d + 3) YX7_firstNotRight 0 [.ref v0, .ref v1, Value.null] [] h (oI r) h9 := by
  unfold MX7_firstNotRight at H
  refine J_iconst (0 : Int32) dX7_firstNotRight_0 kc_0 ?_
  refine J_istore_n 2 dX7_firstNotRight_1 rfl (by decide) (ls' := [.ref v0, .ref v1, .int (0 : Int32)]) rfl ?_
  exact J_dr (kX7_firstNotRight_2 H ) ⟨rfl, ⟨rfl, ⟨rfl, trivial⟩⟩⟩
theorem okX7_firstNotRight {d : Nat} {h : Hp} {v0 : Nat} {v1 : Nat} {r : Int32} {h9 : Hp} (H : MX7_firstNotRight h v0 v1 = some (r, h9)) : CT (d + 3) YX7_firstNotRight [.ref v0, .ref v1] h (oI r) h9 := CT_of (by decide +kernel) (Nat.le_of_ble_eq_true rfl) (eX7_firstNotRight H)
noncomputable def MX11_judge (h : Hp) (v0 : Nat) (v1 : Int32) : Option ((Int32 ⊕ Nat) × Hp) :=
  gg (β := ((Int32 ⊕ Nat) × Hp)) (kd h v0 = 10) <|
  gg (β := ((Int32 ⊕ Nat) × Hp)) (kd h (gP h v0 5) = 6) <|
  Option.bind (α := Nat) (β := ((Int32 ⊕ Nat) × Hp)) (MX7_findPart h (gP h v0 5) v1) fun (t4 : Nat) =>
  if t4 = 0 then
    some (.inr 1, bmp h 1 6)
  else
    gg (β := ((Int32 ⊕ Nat) × Hp)) (kd h t4 = 4) <|
    if (gI h t4 11) = 0 then
      some (.inr 5, bmp h 1 6)
    else
      b2 (α := Int32) (β := Hp) (γ := ((Int32 ⊕ Nat) × Hp)) (MX7_firstNotRight h (gP h v0 5) t4) fun (t10 : Int32) (h9 : Hp) =>
      some (.inl t10, h9)
set_option maxRecDepth 100000 in
set_option maxHeartbeats 8000000 in
theorem eX11_judge {d : Nat} {h : Hp} {v0 : Nat} {v1 : Int32} {r : Int32 ⊕ Nat} {h9 : Hp} (H : MX11_judge h v0 v1 = some (r, h9)) : J (d + 4) YX11_judge 0 [.ref v0, .int v1, Value.null] [] h (oT r) h9 := by
  unfold MX11_judge at H
  refine J_aload_n 0 dX11_judge_0 rfl rfl ?_
  obtain ⟨g1, H⟩ := gd H
  refine J_gP 10 5 dX11_judge_1 g1 flX11_39 rfl rfl ?_
  refine J_iload_n 1 dX11_judge_4 rfl rfl ?_
  obtain ⟨g3, H⟩ := gd H
  obtain ⟨t4, e2, H⟩ := bd H
  refine J_cV (as := [.int v1]) 6 YX7_findPart 1 dX11_judge_5 moX7_findPart mvX7_findPart mlX11_139 g3 rfl rfl (okX7_findPart (d := d + 3) e2) rfl rfl [] rfl rfl (st2 := [.ref t4]) rfl ?_
  refine J_astore_n 2 dX11_judge_8 rfl (by decide) (ls' := [.ref v0, .int v1, .ref t4]) rfl ?_
  refine J_aload_n 2 dX11_judge_9 rfl rfl ?_
  refine J_ifnonnull 21 dX11_judge_10 rfl (fun q5 => ?_) (fun q5 => ?_)
  · replace H := br0 q5 H
    refine J_aload_n 2 dX11_judge_21 rfl rfl ?_
    obtain ⟨g6, H⟩ := gd H
    refine J_getI 4 11 dX11_judge_22 g6 flX11_159 rfl ?_
    refine J_if_ne 36 dX11_judge_25 rfl (fun q7 => ?_) (fun q7 => ?_)
    · replace H := br0 q7 H
      refine J_aload_n 0 dX11_judge_36 rfl rfl ?_
      refine J_gP 10 5 dX11_judge_37 g1 flX11_39 rfl rfl ?_
      refine J_aload_n 2 dX11_judge_40 rfl rfl ?_
      obtain ⟨t10, h9, e8, H⟩ := b2_el H
      refine J_cV (as := [.ref t4]) 6 YX7_firstNotRight 1 dX11_judge_41 moX7_firstNotRight mvX7_firstNotRight mlX11_327 g3 rfl rfl (okX7_firstNotRight (d := d) e8) rfl rfl [] rfl rfl (st2 := [.int t10]) rfl ?_
      cases H
      exact J_iretI dX11_judge_44 rfl
    · replace H := br1 q7 H
      cases H
      exact J_throw 5 ["java/lang/RuntimeException", "java/lang/Exception"] dX11_judge_28 dX11_judge_31 dX11_judge_32 dX11_judge_35 th_324 clX11_322 (Nat.le_of_ble_eq_true rfl)
  · replace H := br1 q5 H
    cases H
    exact J_throw 1 ["java/lang/RuntimeException", "java/lang/Exception"] dX11_judge_13 dX11_judge_16 dX11_judge_17 dX11_judge_20 th_86 clX11_84 (Nat.le_of_ble_eq_true rfl)
theorem okX11_judge {d : Nat} {h : Hp} {v0 : Nat} {v1 : Int32} {r : Int32 ⊕ Nat} {h9 : Hp} (H : MX11_judge h v0 v1 = some (r, h9)) : CT (d + 4) YX11_judge [.ref v0, .int v1] h (oT r) h9 := CT_of (by decide +kernel) (Nat.le_of_ble_eq_true rfl) (eX11_judge H)
noncomputable def BX2_layPart_2 (h : Hp) (v0 : Nat) (v1 : Int32) (v2 : Nat) (v3 : Int32) : Option ((Int32 × Hp) ⊕ Hp) :=
  gg (β := ((Int32 × Hp) ⊕ Hp)) (kd h v2 = 4) <|
  if (gI h v2 9) ≤ v3 then
    some (.inr (h))
  else
    gg (β := ((Int32 × Hp) ⊕ Hp)) (kd h (gP h v2 4) = 20) <|
    gg (β := ((Int32 × Hp) ⊕ Hp)) (inB v3 (ln h (gP h v2 4)) = true) <|
    gg (β := ((Int32 × Hp) ⊕ Hp)) (kd h v0 = 1) <|
    Option.bind (α := Hp) (β := ((Int32 × Hp) ⊕ Hp)) (MX2_addSlug h v0 v1 (gI h (gP h v2 4) v3.toNatClampNeg)) fun (h7 : Hp) =>
    some (.inl ((v3 + (1 : Int32)), h7))
set_option maxRecDepth 100000 in
set_option maxHeartbeats 8000000 in
theorem bX2_layPart_2 {d : Nat} {h : Hp} {v0 : Nat} {v1 : Int32} {v2 : Nat} {v3 : Int32} {h9 : Hp} {x : ((Int32 × Hp) ⊕ Hp)} (H : BX2_layPart_2 h v0 v1 v2 v3 = some x) (hb0 : ∀ s : Int32 × Hp, x = .inl s → J (d + 1) YX2_layPart 2 [.ref v0, .int v1, .ref v2, .int s.1] [] s.2 oV h9) (hx : ∀ z : Hp, x = .inr (z) → z = h9) : J (d + 1) YX2_layPart 2 [.ref v0, .int v1, .ref v2, .int v3] [] h oV h9 := by
  unfold BX2_layPart_2 at H
  refine J_iload_n 3 dX2_layPart_2 rfl rfl ?_
  refine J_aload_n 2 dX2_layPart_3 rfl rfl ?_
  obtain ⟨g1, H⟩ := gd H
  refine J_getI 4 9 dX2_layPart_4 g1 flX2_65 rfl ?_
  refine J_icmp_ge 27 dX2_layPart_7 rfl (fun q2 => ?_) (fun q2 => ?_)
  · replace H := br1 q2 H
    cases H
    cases hx _ rfl
    exact J_ret dX2_layPart_27 rfl
  · replace H := br0 q2 H
    refine J_aload_n 0 dX2_layPart_10 rfl rfl ?_
    refine J_iload_n 1 dX2_layPart_11 rfl rfl ?_
    refine J_aload_n 2 dX2_layPart_12 rfl rfl ?_
    refine J_gP 4 4 dX2_layPart_13 g1 flX2_70 rfl rfl ?_
    refine J_iload_n 3 dX2_layPart_16 rfl rfl ?_
    obtain ⟨g3, H⟩ := gd H
    obtain ⟨g4, H⟩ := gd H
    refine J_iald dX2_layPart_17 g3 (inB_ok g4) ?_
    obtain ⟨g6, H⟩ := gd H
    obtain ⟨h7, e5, H⟩ := bd H
    refine J_cV (as := [.int v1, .int (gI h (gP h v2 4) v3.toNatClampNeg)]) 1 YX2_addSlug 2 dX2_layPart_18 moX2_addSlug mvX2_addSlug mlX2_61 g6 rfl rfl (okX2_addSlug (d := d) e5) rfl rfl [] rfl rfl (st2 := []) rfl ?_
    refine J_iinc (v3 + (1 : Int32)) dX2_layPart_21 rfl (congrArg (HAdd.hAdd v3) kc_1) (by decide) (ls' := [.ref v0, .int v1, .ref v2, .int (v3 + (1 : Int32))]) rfl ?_
    refine J_goto 2 dX2_layPart_24 rfl ?_
    cases H
    exact J_dr (hb0 _ rfl) ⟨rfl, ⟨rfl, ⟨rfl, ⟨rfl, trivial⟩⟩⟩⟩
noncomputable def MX2_layPart_2 (h : Hp) (v0 : Nat) (v1 : Int32) (v2 : Nat) (v3 : Int32) : Option Hp := it (fun q : Int32 × Hp => BX2_layPart_2 q.2 v0 v1 v2 q.1) (v3, h)
set_option maxRecDepth 100000 in
set_option maxHeartbeats 8000000 in
theorem kX2_layPart_2 {d : Nat} {h : Hp} {v0 : Nat} {v1 : Int32} {v2 : Nat} {v3 : Int32} {h9 : Hp} (H : MX2_layPart_2 h v0 v1 v2 v3 = some h9) : J (d + 1) YX2_layPart 2 [.ref v0, .int v1, .ref v2, .int v3] [] h oV h9 := by
  unfold MX2_layPart_2 at H
  refine it_J (G := (fun q : Int32 × Hp => J (d + 1) YX2_layPart 2 [.ref v0, .int v1, .ref v2, .int q.1] [] q.2 oV h9)) (Q := (fun y : Hp => y = h9)) (fun q x Hq hm => ?_) H rfl
  exact bX2_layPart_2 Hq (fun s hs => by subst hs; exact hm) (fun z hz => by subst hz; exact hm)
noncomputable def MX2_layPart (h : Hp) (v0 : Nat) (v1 : Int32) (v2 : Nat) : Option Hp :=
  MX2_layPart_2 h v0 v1 v2 (0 : Int32)
set_option maxRecDepth 100000 in
set_option maxHeartbeats 8000000 in
theorem eX2_layPart {d : Nat} {h : Hp} {v0 : Nat} {v1 : Int32} {v2 : Nat} {h9 : Hp} (H : MX2_layPart h v0 v1 v2 = some h9) : J (d + 1) YX2_layPart 0 [.ref v0, .int v1, .ref v2, Value.null] [] h oV h9 := by
  unfold MX2_layPart at H
  refine J_iconst (0 : Int32) dX2_layPart_0 kc_0 ?_
  refine J_istore_n 3 dX2_layPart_1 rfl (by decide) (ls' := [.ref v0, .int v1, .ref v2, .int (0 : Int32)]) rfl ?_
  exact J_dr (kX2_layPart_2 H ) ⟨rfl, ⟨rfl, ⟨rfl, ⟨rfl, trivial⟩⟩⟩⟩
theorem okX2_layPart {d : Nat} {h : Hp} {v0 : Nat} {v1 : Int32} {v2 : Nat} {h9 : Hp} (H : MX2_layPart h v0 v1 v2 = some h9) : CT (d + 1) YX2_layPart [.ref v0, .int v1, .ref v2] h oV h9 := CT_of (by decide +kernel) (Nat.le_of_ble_eq_true rfl) (eX2_layPart H)
noncomputable def BX11_layStory_3 (h : Hp) (v0 : Nat) (v1 : Int32) (v2 : Int32) (v3 : Int32) (v4 : Int32) : Option ((Int32 × Hp) ⊕ Hp) :=
  if v3 ≤ v4 then
    some (.inr (h))
  else
    gg (β := ((Int32 × Hp) ⊕ Hp)) (kd h v0 = 10) <|
    gg (β := ((Int32 × Hp) ⊕ Hp)) (kd h (gP h v0 5) = 6) <|
    Option.bind (α := Nat) (β := ((Int32 × Hp) ⊕ Hp)) (MX7_findPart h (gP h v0 5) (((5 : Int32) * v2) + v4)) fun (t5 : Nat) =>
    if t5 = 0 then
      some (.inl ((v4 + (1 : Int32)), h))
    else
      gg (β := ((Int32 × Hp) ⊕ Hp)) (kd h (gP h v0 6) = 1) <|
      Option.bind (α := Hp) (β := ((Int32 × Hp) ⊕ Hp)) (MX2_layPart h (gP h v0 6) v1 t5) fun (h9 : Hp) =>
      some (.inl ((v4 + (1 : Int32)), h9))
set_option maxRecDepth 100000 in
set_option maxHeartbeats 8000000 in
theorem bX11_layStory_3 {d : Nat} {h : Hp} {v0 : Nat} {v1 : Int32} {v2 : Int32} {v3 : Int32} {v4 : Int32} {h9 : Hp} {x : ((Int32 × Hp) ⊕ Hp)} (H : BX11_layStory_3 h v0 v1 v2 v3 v4 = some x) (hb0 : ∀ s : Int32 × Hp, x = .inl s → J (d + 2) YX11_layStory 3 [.ref v0, .int v1, .int v2, .int v3, .int s.1, Value.null] [] s.2 oV h9) (hx : ∀ z : Hp, x = .inr (z) → z = h9) : J (d + 2) YX11_layStory 3 [.ref v0, .int v1, .int v2, .int v3, .int v4, Value.null] [] h oV h9 := by
  unfold BX11_layStory_3 at H
  refine J_iload dX11_layStory_3 rfl ?_
  refine J_iload_n 3 dX11_layStory_5 rfl rfl ?_
  refine J_icmp_ge 45 dX11_layStory_6 rfl (fun q1 => ?_) (fun q1 => ?_)
  · replace H := br1 q1 H
    cases H
    cases hx _ rfl
    exact J_ret dX11_layStory_45 rfl
  · replace H := br0 q1 H
    refine J_aload_n 0 dX11_layStory_9 rfl rfl ?_
    obtain ⟨g2, H⟩ := gd H
    refine J_gP 10 5 dX11_layStory_10 g2 flX11_39 rfl rfl ?_
    refine J_iconst (5 : Int32) dX11_layStory_13 kc_5 ?_
    refine J_iload_n 2 dX11_layStory_14 rfl rfl ?_
    refine J_imul dX11_layStory_15 ?_
    refine J_iload dX11_layStory_16 rfl ?_
    refine J_iadd dX11_layStory_18 ?_
    obtain ⟨g4, H⟩ := gd H
    obtain ⟨t5, e3, H⟩ := bd H
    refine J_cV (as := [.int (((5 : Int32) * v2) + v4)]) 6 YX7_findPart 1 dX11_layStory_19 moX7_findPart mvX7_findPart mlX11_139 g4 rfl rfl (okX7_findPart (d := d + 1) e3) rfl rfl [] rfl rfl (st2 := [.ref t5]) rfl ?_
    refine J_astore dX11_layStory_22 (by decide) (ls' := [.ref v0, .int v1, .int v2, .int v3, .int v4, .ref t5]) rfl ?_
    refine J_aload dX11_layStory_24 rfl ?_
    refine J_ifnull 39 dX11_layStory_26 rfl (fun q6 => ?_) (fun q6 => ?_)
    · replace H := br1 q6 H
      refine J_iinc (v4 + (1 : Int32)) dX11_layStory_39 rfl (congrArg (HAdd.hAdd v4) kc_1) (by decide) (ls' := [.ref v0, .int v1, .int v2, .int v3, .int (v4 + (1 : Int32)), .ref t5]) rfl ?_
      refine J_goto 3 dX11_layStory_42 rfl ?_
      cases H
      exact J_dr (hb0 _ rfl) ⟨rfl, ⟨rfl, ⟨rfl, ⟨rfl, ⟨rfl, trivial⟩⟩⟩⟩⟩
    · replace H := br0 q6 H
      refine J_aload_n 0 dX11_layStory_29 rfl rfl ?_
      refine J_gP 10 6 dX11_layStory_30 g2 flX11_46 rfl rfl ?_
      refine J_iload_n 1 dX11_layStory_33 rfl rfl ?_
      refine J_aload dX11_layStory_34 rfl ?_
      obtain ⟨g8, H⟩ := gd H
      obtain ⟨h9, e7, H⟩ := bd H
      refine J_cV (as := [.int v1, .ref t5]) 1 YX2_layPart 2 dX11_layStory_36 moX2_layPart mvX2_layPart mlX11_434 g8 rfl rfl (okX2_layPart (d := d) e7) rfl rfl [] rfl rfl (st2 := []) rfl ?_
      refine J_iinc (v4 + (1 : Int32)) dX11_layStory_39 rfl (congrArg (HAdd.hAdd v4) kc_1) (by decide) (ls' := [.ref v0, .int v1, .int v2, .int v3, .int (v4 + (1 : Int32)), .ref t5]) rfl ?_
      refine J_goto 3 dX11_layStory_42 rfl ?_
      cases H
      exact J_dr (hb0 _ rfl) ⟨rfl, ⟨rfl, ⟨rfl, ⟨rfl, ⟨rfl, trivial⟩⟩⟩⟩⟩
noncomputable def MX11_layStory_3 (h : Hp) (v0 : Nat) (v1 : Int32) (v2 : Int32) (v3 : Int32) (v4 : Int32) : Option Hp := it (fun q : Int32 × Hp => BX11_layStory_3 q.2 v0 v1 v2 v3 q.1) (v4, h)
set_option maxRecDepth 100000 in
set_option maxHeartbeats 8000000 in
theorem kX11_layStory_3 {d : Nat} {h : Hp} {v0 : Nat} {v1 : Int32} {v2 : Int32} {v3 : Int32} {v4 : Int32} {h9 : Hp} (H : MX11_layStory_3 h v0 v1 v2 v3 v4 = some h9) : J (d + 2) YX11_layStory 3 [.ref v0, .int v1, .int v2, .int v3, .int v4, Value.null] [] h oV h9 := by
  unfold MX11_layStory_3 at H
  refine it_J (G := (fun q : Int32 × Hp => J (d + 2) YX11_layStory 3 [.ref v0, .int v1, .int v2, .int v3, .int q.1, Value.null] [] q.2 oV h9)) (Q := (fun y : Hp => y = h9)) (fun q x Hq hm => ?_) H rfl
  exact bX11_layStory_3 Hq (fun s hs => by subst hs; exact hm) (fun z hz => by subst hz; exact hm)
noncomputable def MX11_layStory (h : Hp) (v0 : Nat) (v1 : Int32) (v2 : Int32) (v3 : Int32) : Option Hp :=
  MX11_layStory_3 h v0 v1 v2 v3 (0 : Int32)
set_option maxRecDepth 100000 in
set_option maxHeartbeats 8000000 in
theorem eX11_layStory {d : Nat} {h : Hp} {v0 : Nat} {v1 : Int32} {v2 : Int32} {v3 : Int32} {h9 : Hp} (H : MX11_layStory h v0 v1 v2 v3 = some h9) : J (d + 2) YX11_layStory 0 [.ref v0, .int v1, .int v2, .int v3, Value.null, Value.null] [] h oV h9 := by
  unfold MX11_layStory at H
  refine J_iconst (0 : Int32) dX11_layStory_0 kc_0 ?_
  refine J_istore dX11_layStory_1 (by decide) (ls' := [.ref v0, .int v1, .int v2, .int v3, .int (0 : Int32), Value.null]) rfl ?_
  exact J_dr (kX11_layStory_3 H ) ⟨rfl, ⟨rfl, ⟨rfl, ⟨rfl, ⟨rfl, trivial⟩⟩⟩⟩⟩
theorem okX11_layStory {d : Nat} {h : Hp} {v0 : Nat} {v1 : Int32} {v2 : Int32} {v3 : Int32} {h9 : Hp} (H : MX11_layStory h v0 v1 v2 v3 = some h9) : CT (d + 2) YX11_layStory [.ref v0, .int v1, .int v2, .int v3] h oV h9 := CT_of (by decide +kernel) (Nat.le_of_ble_eq_true rfl) (eX11_layStory H)
noncomputable def BX6_findOwn_71 (h : Hp) (v0 : Nat) (v1 : Int32) (v2 : Int32) (v3 : Int32) (v4 : Int32) (v5 : Int32) : Option ((Int32 × Hp) ⊕ ((Int32 × Hp) ⊕ Hp)) :=
  gg (β := ((Int32 × Hp) ⊕ ((Int32 × Hp) ⊕ Hp))) (kd h v0 = 5) <|
  if (gI h v0 0) ≤ v5 then
    some (.inr (.inl ((v3 + (1 : Int32)), h)))
  else
    if ((v3 >>> (v5 &&& 31)) &&& (1 : Int32)) = 0 then
      some (.inl ((v5 + (1 : Int32)), h))
    else
      gg (β := ((Int32 × Hp) ⊕ ((Int32 × Hp) ⊕ Hp))) (kd h (gP h v0 3) = 20) <|
      gg (β := ((Int32 × Hp) ⊕ ((Int32 × Hp) ⊕ Hp))) (inB v3 (ln h (gP h v0 3)) = true) <|
      gg (β := ((Int32 × Hp) ⊕ ((Int32 × Hp) ⊕ Hp))) (inB (v3 ^^^ ((1 : Int32) <<< (v5 &&& 31))) (ln h (gP h v0 3)) = true) <|
      gg (β := ((Int32 × Hp) ⊕ ((Int32 × Hp) ⊕ Hp))) (kd h (gP h v0 2) = 20) <|
      gg (β := ((Int32 × Hp) ⊕ ((Int32 × Hp) ⊕ Hp))) (inB v5 (ln h (gP h v0 2)) = true) <|
      lt (α := Hp) (β := Option ((Int32 × Hp) ⊕ ((Int32 × Hp) ⊕ Hp))) (sI h (gP h v0 3) v3.toNatClampNeg (jmin (gI h (gP h v0 3) v3.toNatClampNeg) ((gI h (gP h v0 3) (v3 ^^^ ((1 : Int32) <<< (v5 &&& 31))).toNatClampNeg) + (jmax (0 : Int32) (v4 - (gI h (gP h v0 2) v5.toNatClampNeg)))))) fun (h28 : Hp) =>
      some (.inl ((v5 + (1 : Int32)), h28))
set_option maxRecDepth 100000 in
set_option maxHeartbeats 8000000 in
theorem bX6_findOwn_71 {d : Nat} {h : Hp} {v0 : Nat} {v1 : Int32} {v2 : Int32} {v3 : Int32} {v4 : Int32} {v5 : Int32} {h9 : Hp} {x : ((Int32 × Hp) ⊕ ((Int32 × Hp) ⊕ Hp))} (H : BX6_findOwn_71 h v0 v1 v2 v3 v4 v5 = some x) (hb0 : ∀ s : Int32 × Hp, x = .inl s → J (d) YX6_findOwn 71 [.ref v0, .int v1, .int v2, .int v3, .int v4, .int s.1] [] s.2 oV h9) (hb1 : ∀ s : Int32 × Hp, x = .inr (.inl s) → J (d) YX6_findOwn 9 [.ref v0, .int v1, .int v2, .int s.1, Value.null, Value.null] [] s.2 oV h9) (hx : ∀ z : Hp, x = .inr (.inr (z)) → z = h9) : J (d) YX6_findOwn 71 [.ref v0, .int v1, .int v2, .int v3, .int v4, .int v5] [] h oV h9 := by
  unfold BX6_findOwn_71 at H
  refine J_iload dX6_findOwn_71 rfl ?_
  refine J_aload_n 0 dX6_findOwn_73 rfl rfl ?_
  obtain ⟨g20, H⟩ := gd H
  refine J_getI 5 0 dX6_findOwn_74 g20 flX6_9 rfl ?_
  refine J_icmp_ge 136 dX6_findOwn_77 rfl (fun q21 => ?_) (fun q21 => ?_)
  · replace H := br1 q21 H
    refine J_iinc (v3 + (1 : Int32)) dX6_findOwn_136 rfl (congrArg (HAdd.hAdd v3) kc_1) (by decide) (ls' := [.ref v0, .int v1, .int v2, .int (v3 + (1 : Int32)), .int v4, .int v5]) rfl ?_
    refine J_goto 9 dX6_findOwn_139 rfl ?_
    cases H
    exact J_dr (hb1 _ rfl) ⟨rfl, ⟨rfl, ⟨rfl, ⟨rfl, trivial⟩⟩⟩⟩
  · replace H := br0 q21 H
    refine J_iload_n 3 dX6_findOwn_80 rfl rfl ?_
    refine J_iload dX6_findOwn_81 rfl ?_
    refine J_ishr dX6_findOwn_83 ?_
    refine J_iconst (1 : Int32) dX6_findOwn_84 kc_1 ?_
    refine J_iand dX6_findOwn_85 ?_
    refine J_if_eq 130 dX6_findOwn_86 rfl (fun q22 => ?_) (fun q22 => ?_)
    · replace H := br1 q22 H
      refine J_iinc (v5 + (1 : Int32)) dX6_findOwn_130 rfl (congrArg (HAdd.hAdd v5) kc_1) (by decide) (ls' := [.ref v0, .int v1, .int v2, .int v3, .int v4, .int (v5 + (1 : Int32))]) rfl ?_
      refine J_goto 71 dX6_findOwn_133 rfl ?_
      cases H
      exact J_dr (hb0 _ rfl) ⟨rfl, ⟨rfl, ⟨rfl, ⟨rfl, ⟨rfl, ⟨rfl, trivial⟩⟩⟩⟩⟩⟩
    · replace H := br0 q22 H
      refine J_aload_n 0 dX6_findOwn_89 rfl rfl ?_
      refine J_gP 5 3 dX6_findOwn_90 g20 flX6_22 rfl rfl ?_
      refine J_iload_n 3 dX6_findOwn_93 rfl rfl ?_
      refine J_aload_n 0 dX6_findOwn_94 rfl rfl ?_
      refine J_gP 5 3 dX6_findOwn_95 g20 flX6_22 rfl rfl ?_
      refine J_iload_n 3 dX6_findOwn_98 rfl rfl ?_
      obtain ⟨g23, H⟩ := gd H
      obtain ⟨g24, H⟩ := gd H
      refine J_iald dX6_findOwn_99 g23 (inB_ok g24) ?_
      refine J_aload_n 0 dX6_findOwn_100 rfl rfl ?_
      refine J_gP 5 3 dX6_findOwn_101 g20 flX6_22 rfl rfl ?_
      refine J_iload_n 3 dX6_findOwn_104 rfl rfl ?_
      refine J_iconst (1 : Int32) dX6_findOwn_105 kc_1 ?_
      refine J_iload dX6_findOwn_106 rfl ?_
      refine J_ishl dX6_findOwn_108 ?_
      refine J_ixor dX6_findOwn_109 ?_
      obtain ⟨g25, H⟩ := gd H
      refine J_iald dX6_findOwn_110 g23 (inB_ok g25) ?_
      refine J_iconst (0 : Int32) dX6_findOwn_111 kc_0 ?_
      refine J_iload dX6_findOwn_112 rfl ?_
      refine J_aload_n 0 dX6_findOwn_114 rfl rfl ?_
      refine J_gP 5 2 dX6_findOwn_115 g20 flX6_19 rfl rfl ?_
      refine J_iload dX6_findOwn_118 rfl ?_
      obtain ⟨g26, H⟩ := gd H
      obtain ⟨g27, H⟩ := gd H
      refine J_iald dX6_findOwn_120 g26 (inB_ok g27) ?_
      refine J_isub dX6_findOwn_121 ?_
      refine J_mx dX6_findOwn_122 mlX6_88 rfl ?_
      refine J_iadd dX6_findOwn_125 ?_
      refine J_mn dX6_findOwn_126 mlX6_94 rfl ?_
      obtain ⟨h28, e29, H⟩ := lt_el H
      refine J_sI dX6_findOwn_129 g23 (inB_ok g24) e29 ?_
      have c30 := ekI e29
      have c31 := elI e29
      have c32 := epI e29
      refine J_iinc (v5 + (1 : Int32)) dX6_findOwn_130 rfl (congrArg (HAdd.hAdd v5) kc_1) (by decide) (ls' := [.ref v0, .int v1, .int v2, .int v3, .int v4, .int (v5 + (1 : Int32))]) rfl ?_
      refine J_goto 71 dX6_findOwn_133 rfl ?_
      cases H
      exact J_dr (hb0 _ rfl) ⟨rfl, ⟨rfl, ⟨rfl, ⟨rfl, ⟨rfl, ⟨rfl, trivial⟩⟩⟩⟩⟩⟩
noncomputable def MX6_findOwn_71 (h : Hp) (v0 : Nat) (v1 : Int32) (v2 : Int32) (v3 : Int32) (v4 : Int32) (v5 : Int32) : Option ((Int32 × Hp) ⊕ Hp) := it (fun q : Int32 × Hp => BX6_findOwn_71 q.2 v0 v1 v2 v3 v4 q.1) (v5, h)
set_option maxRecDepth 100000 in
set_option maxHeartbeats 8000000 in
theorem kX6_findOwn_71 {d : Nat} {h : Hp} {v0 : Nat} {v1 : Int32} {v2 : Int32} {v3 : Int32} {v4 : Int32} {v5 : Int32} {h9 : Hp} {x : ((Int32 × Hp) ⊕ Hp)} (H : MX6_findOwn_71 h v0 v1 v2 v3 v4 v5 = some x) (hb0 : ∀ s : Int32 × Hp, x = .inl s → J (d) YX6_findOwn 9 [.ref v0, .int v1, .int v2, .int s.1, Value.null, Value.null] [] s.2 oV h9) (hx : ∀ z : Hp, x = .inr (z) → z = h9) : J (d) YX6_findOwn 71 [.ref v0, .int v1, .int v2, .int v3, .int v4, .int v5] [] h oV h9 := by
  unfold MX6_findOwn_71 at H
  refine it_J (G := (fun q : Int32 × Hp => J (d) YX6_findOwn 71 [.ref v0, .int v1, .int v2, .int v3, .int v4, .int q.1] [] q.2 oV h9)) (Q := (fun y : ((Int32 × Hp) ⊕ Hp) => (∀ s : Int32 × Hp, y = .inl s → J (d) YX6_findOwn 9 [.ref v0, .int v1, .int v2, .int s.1, Value.null, Value.null] [] s.2 oV h9) ∧ (∀ z : Hp, y = .inr (z) → z = h9))) (fun q x Hq hm => ?_) H ⟨hb0, hx⟩
  exact bX6_findOwn_71 Hq (fun s hs => by subst hs; exact hm) (fun s hs => by subst hs; exact (hm.1) s rfl) (fun z hz => by subst hz; exact (hm.2) z rfl)
noncomputable def MX6_findOwn_60 (h : Hp) (v0 : Nat) (v1 : Int32) (v2 : Int32) (v3 : Int32) (v4 : Int32) : Option ((Int32 × Hp) ⊕ Hp) :=
  gg (β := ((Int32 × Hp) ⊕ Hp)) (kd h v0 = 5) <|
  gg (β := ((Int32 × Hp) ⊕ Hp)) (kd h (gP h v0 3) = 20) <|
  gg (β := ((Int32 × Hp) ⊕ Hp)) (inB v3 (ln h (gP h v0 3)) = true) <|
  lt (α := Hp) (β := Option ((Int32 × Hp) ⊕ Hp)) (sI h (gP h v0 3) v3.toNatClampNeg (1000000000 : Int32)) fun (h15 : Hp) =>
  MX6_findOwn_71 h15 v0 v1 v2 v3 v4 (0 : Int32)
set_option maxRecDepth 100000 in
set_option maxHeartbeats 8000000 in
theorem kX6_findOwn_60 {d : Nat} {h : Hp} {v0 : Nat} {v1 : Int32} {v2 : Int32} {v3 : Int32} {v4 : Int32} {h9 : Hp} {x : ((Int32 × Hp) ⊕ Hp)} (H : MX6_findOwn_60 h v0 v1 v2 v3 v4 = some x) (hb0 : ∀ s : Int32 × Hp, x = .inl s → J (d) YX6_findOwn 9 [.ref v0, .int v1, .int v2, .int s.1, Value.null, Value.null] [] s.2 oV h9) (hx : ∀ z : Hp, x = .inr (z) → z = h9) : J (d) YX6_findOwn 60 [.ref v0, .int v1, .int v2, .int v3, .int v4, Value.null] [] h oV h9 := by
  unfold MX6_findOwn_60 at H
  refine J_aload_n 0 dX6_findOwn_60 rfl rfl ?_
  obtain ⟨g12, H⟩ := gd H
  refine J_gP 5 3 dX6_findOwn_61 g12 flX6_22 rfl rfl ?_
  refine J_iload_n 3 dX6_findOwn_64 rfl rfl ?_
  refine J_ldc (1000000000 : Int32) coX6_32 dX6_findOwn_65 ?_
  obtain ⟨g13, H⟩ := gd H
  obtain ⟨g14, H⟩ := gd H
  obtain ⟨h15, e16, H⟩ := lt_el H
  refine J_sI dX6_findOwn_67 g13 (inB_ok g14) e16 ?_
  have c17 := ekI e16
  have c18 := elI e16
  have c19 := epI e16
  refine J_iconst (0 : Int32) dX6_findOwn_68 kc_0 ?_
  refine J_istore dX6_findOwn_69 (by decide) (ls' := [.ref v0, .int v1, .int v2, .int v3, .int v4, .int (0 : Int32)]) rfl ?_
  exact J_dr (kX6_findOwn_71 H hb0 hx) ⟨rfl, ⟨rfl, ⟨rfl, ⟨rfl, ⟨rfl, ⟨rfl, trivial⟩⟩⟩⟩⟩⟩
noncomputable def MX6_findOwn_51 (h : Hp) (v0 : Nat) (v1 : Int32) (v2 : Int32) (v3 : Int32) (v5 : Int32) (s0 : Int32) (s1 : Int32) : Option ((Int32 × Int32) ⊕ ((Int32 × Hp) ⊕ Hp)) :=
  some (.inl ((s0 + s1), (v5 + (1 : Int32))))
set_option maxRecDepth 100000 in
set_option maxHeartbeats 8000000 in
theorem kX6_findOwn_51 {d : Nat} {h : Hp} {v0 : Nat} {v1 : Int32} {v2 : Int32} {v3 : Int32} {v5 : Int32} {s0 : Int32} {s1 : Int32} {h9 : Hp} {x : ((Int32 × Int32) ⊕ ((Int32 × Hp) ⊕ Hp))} (H : MX6_findOwn_51 h v0 v1 v2 v3 v5 s0 s1 = some x) (hb0 : ∀ s : Int32 × Int32, x = .inl s → J (d) YX6_findOwn 20 [.ref v0, .int v1, .int v2, .int v3, .int s.1, .int s.2] [] h oV h9) (hb1 : ∀ s : Int32 × Hp, x = .inr (.inl s) → J (d) YX6_findOwn 9 [.ref v0, .int v1, .int v2, .int s.1, Value.null, Value.null] [] s.2 oV h9) (hx : ∀ z : Hp, x = .inr (.inr (z)) → z = h9) : J (d) YX6_findOwn 51 [.ref v0, .int v1, .int v2, .int v3, Value.null, .int v5] [.int s1, .int s0] h oV h9 := by
  unfold MX6_findOwn_51 at H
  refine J_iadd dX6_findOwn_51 ?_
  refine J_istore dX6_findOwn_52 (by decide) (ls' := [.ref v0, .int v1, .int v2, .int v3, .int (s0 + s1), .int v5]) rfl ?_
  refine J_iinc (v5 + (1 : Int32)) dX6_findOwn_54 rfl (congrArg (HAdd.hAdd v5) kc_1) (by decide) (ls' := [.ref v0, .int v1, .int v2, .int v3, .int (s0 + s1), .int (v5 + (1 : Int32))]) rfl ?_
  refine J_goto 20 dX6_findOwn_57 rfl ?_
  cases H
  exact J_dr (hb0 _ rfl) ⟨rfl, ⟨rfl, ⟨rfl, ⟨rfl, ⟨rfl, ⟨rfl, trivial⟩⟩⟩⟩⟩⟩
noncomputable def BX6_findOwn_20 (h : Hp) (v0 : Nat) (v1 : Int32) (v2 : Int32) (v3 : Int32) (v4 : Int32) (v5 : Int32) : Option ((Int32 × Int32) ⊕ ((Int32 × Hp) ⊕ Hp)) :=
  gg (β := ((Int32 × Int32) ⊕ ((Int32 × Hp) ⊕ Hp))) (kd h v0 = 5) <|
  if (gI h v0 0) ≤ v5 then
    up1 (MX6_findOwn_60 h v0 v1 v2 v3 v4)
  else
    if ((v3 >>> (v5 &&& 31)) &&& (1 : Int32)) = 0 then
      MX6_findOwn_51 h v0 v1 v2 v3 v5 v4 (0 : Int32)
    else
      gg (β := ((Int32 × Int32) ⊕ ((Int32 × Hp) ⊕ Hp))) (kd h (gP h v0 1) = 20) <|
      gg (β := ((Int32 × Int32) ⊕ ((Int32 × Hp) ⊕ Hp))) (inB v5 (ln h (gP h v0 1)) = true) <|
      MX6_findOwn_51 h v0 v1 v2 v3 v5 v4 (gI h (gP h v0 1) v5.toNatClampNeg)
set_option maxRecDepth 100000 in
set_option maxHeartbeats 8000000 in
theorem bX6_findOwn_20 {d : Nat} {h : Hp} {v0 : Nat} {v1 : Int32} {v2 : Int32} {v3 : Int32} {v4 : Int32} {v5 : Int32} {h9 : Hp} {x : ((Int32 × Int32) ⊕ ((Int32 × Hp) ⊕ Hp))} (H : BX6_findOwn_20 h v0 v1 v2 v3 v4 v5 = some x) (hb0 : ∀ s : Int32 × Int32, x = .inl s → J (d) YX6_findOwn 20 [.ref v0, .int v1, .int v2, .int v3, .int s.1, .int s.2] [] h oV h9) (hb1 : ∀ s : Int32 × Hp, x = .inr (.inl s) → J (d) YX6_findOwn 9 [.ref v0, .int v1, .int v2, .int s.1, Value.null, Value.null] [] s.2 oV h9) (hx : ∀ z : Hp, x = .inr (.inr (z)) → z = h9) : J (d) YX6_findOwn 20 [.ref v0, .int v1, .int v2, .int v3, .int v4, .int v5] [] h oV h9 := by
  unfold BX6_findOwn_20 at H
  refine J_iload dX6_findOwn_20 rfl ?_
  refine J_aload_n 0 dX6_findOwn_22 rfl rfl ?_
  obtain ⟨g10, H⟩ := gd H
  refine J_getI 5 0 dX6_findOwn_23 g10 flX6_9 rfl ?_
  refine J_icmp_ge 60 dX6_findOwn_26 rfl (fun q11 => ?_) (fun q11 => ?_)
  · replace H := br1 q11 H
    obtain ⟨y0, H90, rfl⟩ := up1_el H
    replace H := H90
    exact J_dr (kX6_findOwn_60 H (fun s hs => hb1 s (congrArg Sum.inr hs)) (fun s hs => hx s (congrArg Sum.inr hs))) ⟨rfl, ⟨rfl, ⟨rfl, ⟨rfl, ⟨rfl, trivial⟩⟩⟩⟩⟩
  · replace H := br0 q11 H
    refine J_iload dX6_findOwn_29 rfl ?_
    refine J_iload_n 3 dX6_findOwn_31 rfl rfl ?_
    refine J_iload dX6_findOwn_32 rfl ?_
    refine J_ishr dX6_findOwn_34 ?_
    refine J_iconst (1 : Int32) dX6_findOwn_35 kc_1 ?_
    refine J_iand dX6_findOwn_36 ?_
    refine J_if_eq 50 dX6_findOwn_37 rfl (fun q33 => ?_) (fun q33 => ?_)
    · replace H := br1 q33 H
      refine J_iconst (0 : Int32) dX6_findOwn_50 kc_0 ?_
      exact J_dr (kX6_findOwn_51 H hb0 hb1 hx) ⟨rfl, ⟨rfl, ⟨rfl, ⟨rfl, ⟨rfl, trivial⟩⟩⟩⟩⟩
    · replace H := br0 q33 H
      refine J_aload_n 0 dX6_findOwn_40 rfl rfl ?_
      refine J_gP 5 1 dX6_findOwn_41 g10 flX6_15 rfl rfl ?_
      refine J_iload dX6_findOwn_44 rfl ?_
      obtain ⟨g34, H⟩ := gd H
      obtain ⟨g35, H⟩ := gd H
      refine J_iald dX6_findOwn_46 g34 (inB_ok g35) ?_
      refine J_goto 51 dX6_findOwn_47 rfl ?_
      exact J_dr (kX6_findOwn_51 H hb0 hb1 hx) ⟨rfl, ⟨rfl, ⟨rfl, ⟨rfl, ⟨rfl, trivial⟩⟩⟩⟩⟩
noncomputable def MX6_findOwn_20 (h : Hp) (v0 : Nat) (v1 : Int32) (v2 : Int32) (v3 : Int32) (v4 : Int32) (v5 : Int32) : Option ((Int32 × Hp) ⊕ Hp) := it (fun q : Int32 × Int32 => BX6_findOwn_20 h v0 v1 v2 v3 q.1 q.2) (v4, v5)
set_option maxRecDepth 100000 in
set_option maxHeartbeats 8000000 in
theorem kX6_findOwn_20 {d : Nat} {h : Hp} {v0 : Nat} {v1 : Int32} {v2 : Int32} {v3 : Int32} {v4 : Int32} {v5 : Int32} {h9 : Hp} {x : ((Int32 × Hp) ⊕ Hp)} (H : MX6_findOwn_20 h v0 v1 v2 v3 v4 v5 = some x) (hb0 : ∀ s : Int32 × Hp, x = .inl s → J (d) YX6_findOwn 9 [.ref v0, .int v1, .int v2, .int s.1, Value.null, Value.null] [] s.2 oV h9) (hx : ∀ z : Hp, x = .inr (z) → z = h9) : J (d) YX6_findOwn 20 [.ref v0, .int v1, .int v2, .int v3, .int v4, .int v5] [] h oV h9 := by
  unfold MX6_findOwn_20 at H
  refine it_J (G := (fun q : Int32 × Int32 => J (d) YX6_findOwn 20 [.ref v0, .int v1, .int v2, .int v3, .int q.1, .int q.2] [] h oV h9)) (Q := (fun y : ((Int32 × Hp) ⊕ Hp) => (∀ s : Int32 × Hp, y = .inl s → J (d) YX6_findOwn 9 [.ref v0, .int v1, .int v2, .int s.1, Value.null, Value.null] [] s.2 oV h9) ∧ (∀ z : Hp, y = .inr (z) → z = h9))) (fun q x Hq hm => ?_) H ⟨hb0, hx⟩
  exact bX6_findOwn_20 Hq (fun s hs => by subst hs; exact hm) (fun s hs => by subst hs; exact (hm.1) s rfl) (fun z hz => by subst hz; exact (hm.2) z rfl)
noncomputable def BX6_findOwn_9 (h : Hp) (v0 : Nat) (v1 : Int32) (v2 : Int32) (v3 : Int32) : Option ((Int32 × Hp) ⊕ Hp) :=
  if v2 ≤ v3 then
    some (.inr (h))
  else
    MX6_findOwn_20 h v0 v1 v2 v3 v1 (0 : Int32)
set_option maxRecDepth 100000 in
set_option maxHeartbeats 8000000 in
theorem bX6_findOwn_9 {d : Nat} {h : Hp} {v0 : Nat} {v1 : Int32} {v2 : Int32} {v3 : Int32} {h9 : Hp} {x : ((Int32 × Hp) ⊕ Hp)} (H : BX6_findOwn_9 h v0 v1 v2 v3 = some x) (hb0 : ∀ s : Int32 × Hp, x = .inl s → J (d) YX6_findOwn 9 [.ref v0, .int v1, .int v2, .int s.1, Value.null, Value.null] [] s.2 oV h9) (hx : ∀ z : Hp, x = .inr (z) → z = h9) : J (d) YX6_findOwn 9 [.ref v0, .int v1, .int v2, .int v3, Value.null, Value.null] [] h oV h9 := by
  unfold BX6_findOwn_9 at H
  refine J_iload_n 3 dX6_findOwn_9 rfl rfl ?_
  refine J_iload_n 2 dX6_findOwn_10 rfl rfl ?_
  refine J_icmp_ge 142 dX6_findOwn_11 rfl (fun q9 => ?_) (fun q9 => ?_)
  · replace H := br1 q9 H
    cases H
    cases hx _ rfl
    exact J_ret dX6_findOwn_142 rfl
  · replace H := br0 q9 H
    refine J_iload_n 1 dX6_findOwn_14 rfl rfl ?_
    refine J_istore dX6_findOwn_15 (by decide) (ls' := [.ref v0, .int v1, .int v2, .int v3, .int v1, Value.null]) rfl ?_
    refine J_iconst (0 : Int32) dX6_findOwn_17 kc_0 ?_
    refine J_istore dX6_findOwn_18 (by decide) (ls' := [.ref v0, .int v1, .int v2, .int v3, .int v1, .int (0 : Int32)]) rfl ?_
    exact J_dr (kX6_findOwn_20 H hb0 hx) ⟨rfl, ⟨rfl, ⟨rfl, ⟨rfl, ⟨rfl, ⟨rfl, trivial⟩⟩⟩⟩⟩⟩
noncomputable def MX6_findOwn_9 (h : Hp) (v0 : Nat) (v1 : Int32) (v2 : Int32) (v3 : Int32) : Option Hp := it (fun q : Int32 × Hp => BX6_findOwn_9 q.2 v0 v1 v2 q.1) (v3, h)
set_option maxRecDepth 100000 in
set_option maxHeartbeats 8000000 in
theorem kX6_findOwn_9 {d : Nat} {h : Hp} {v0 : Nat} {v1 : Int32} {v2 : Int32} {v3 : Int32} {h9 : Hp} (H : MX6_findOwn_9 h v0 v1 v2 v3 = some h9) : J (d) YX6_findOwn 9 [.ref v0, .int v1, .int v2, .int v3, Value.null, Value.null] [] h oV h9 := by
  unfold MX6_findOwn_9 at H
  refine it_J (G := (fun q : Int32 × Hp => J (d) YX6_findOwn 9 [.ref v0, .int v1, .int v2, .int q.1, Value.null, Value.null] [] q.2 oV h9)) (Q := (fun y : Hp => y = h9)) (fun q x Hq hm => ?_) H rfl
  exact bX6_findOwn_9 Hq (fun s hs => by subst hs; exact hm) (fun z hz => by subst hz; exact hm)
noncomputable def MX6_findOwn (h : Hp) (v0 : Nat) (v1 : Int32) (v2 : Int32) : Option Hp :=
  gg (β := Hp) (kd h v0 = 5) <|
  gg (β := Hp) (kd h (gP h v0 3) = 20) <|
  gg (β := Hp) (inB (0 : Int32) (ln h (gP h v0 3)) = true) <|
  lt (α := Hp) (β := Option Hp) (sI h (gP h v0 3) (0 : Int32).toNatClampNeg (0 : Int32)) fun (h4 : Hp) =>
  MX6_findOwn_9 h4 v0 v1 v2 (1 : Int32)
set_option maxRecDepth 100000 in
set_option maxHeartbeats 8000000 in
theorem eX6_findOwn {d : Nat} {h : Hp} {v0 : Nat} {v1 : Int32} {v2 : Int32} {h9 : Hp} (H : MX6_findOwn h v0 v1 v2 = some h9) : J (d) YX6_findOwn 0 [.ref v0, .int v1, .int v2, Value.null, Value.null, Value.null] [] h oV h9 := by
  unfold MX6_findOwn at H
  refine J_aload_n 0 dX6_findOwn_0 rfl rfl ?_
  obtain ⟨g1, H⟩ := gd H
  refine J_gP 5 3 dX6_findOwn_1 g1 flX6_22 rfl rfl ?_
  refine J_iconst (0 : Int32) dX6_findOwn_4 kc_0 ?_
  refine J_iconst (0 : Int32) dX6_findOwn_5 kc_0 ?_
  obtain ⟨g2, H⟩ := gd H
  obtain ⟨g3, H⟩ := gd H
  obtain ⟨h4, e5, H⟩ := lt_el H
  refine J_sI dX6_findOwn_6 g2 (inB_ok g3) e5 ?_
  have c6 := ekI e5
  have c7 := elI e5
  have c8 := epI e5
  refine J_iconst (1 : Int32) dX6_findOwn_7 kc_1 ?_
  refine J_istore_n 3 dX6_findOwn_8 rfl (by decide) (ls' := [.ref v0, .int v1, .int v2, .int (1 : Int32), Value.null, Value.null]) rfl ?_
  exact J_dr (kX6_findOwn_9 H ) ⟨rfl, ⟨rfl, ⟨rfl, ⟨rfl, trivial⟩⟩⟩⟩
theorem okX6_findOwn {d : Nat} {h : Hp} {v0 : Nat} {v1 : Int32} {v2 : Int32} {h9 : Hp} (H : MX6_findOwn h v0 v1 v2 = some h9) : CT (d) YX6_findOwn [.ref v0, .int v1, .int v2] h oV h9 := CT_of (by decide +kernel) (Nat.le_of_ble_eq_true rfl) (eX6_findOwn H)
noncomputable def BX6_loadParts_7 (h : Hp) (v0 : Nat) (v1 : Nat) (v2 : Int32) : Option ((Int32 × Hp) ⊕ Hp) :=
  gg (β := ((Int32 × Hp) ⊕ Hp)) (kd h v1 = 6) <|
  if ((5 : Int32) * (gI h v1 7)) ≤ v2 then
    some (.inr (h))
  else
    gg (β := ((Int32 × Hp) ⊕ Hp)) (kd h v0 = 5) <|
    if (5 : Int32) ≤ (gI h v0 0) then
      some (.inr (h))
    else
      Option.bind (α := Nat) (β := ((Int32 × Hp) ⊕ Hp)) (MX7_findPart h v1 v2) fun (t12 : Nat) =>
      if t12 = 0 then
        some (.inl ((v2 + (1 : Int32)), h))
      else
        gg (β := ((Int32 × Hp) ⊕ Hp)) (kd h t12 = 4) <|
        if (gI h t12 10) = 0 then
          b2 (α := Nat) (β := Hp) (γ := ((Int32 × Hp) ⊕ Hp)) (MX7_breakerFor h v1 t12 (gI h v1 0)) fun (t18 : Nat) (h17 : Hp) =>
          gg (β := ((Int32 × Hp) ⊕ Hp)) (kd h17 t18 = 0) <|
          b2 (α := Int32) (β := Hp) (γ := ((Int32 × Hp) ⊕ Hp)) (MX0_solve h17 t18 (0 : Int32)) fun (t22 : Int32) (h21 : Hp) =>
          if t22 = (-1 : Int32) then
            some (.inl ((v2 + (1 : Int32)), h21))
          else
            gg (β := ((Int32 × Hp) ⊕ Hp)) (kd h21 v0 = 5) <|
            gg (β := ((Int32 × Hp) ⊕ Hp)) (kd h21 (gP h21 v0 1) = 20) <|
            gg (β := ((Int32 × Hp) ⊕ Hp)) (inB (gI h21 v0 0) (ln h21 (gP h21 v0 1)) = true) <|
            lt (α := Hp) (β := Option ((Int32 × Hp) ⊕ Hp)) (sI h21 (gP h21 v0 1) (gI h21 v0 0).toNatClampNeg t22) fun (h27 : Hp) =>
            gg (β := ((Int32 × Hp) ⊕ Hp)) (kd h21 t12 = 4) <|
            gg (β := ((Int32 × Hp) ⊕ Hp)) (kd h21 (gP h21 v0 2) = 20) <|
            gg (β := ((Int32 × Hp) ⊕ Hp)) (inB (gI h27 v0 0) (ln h21 (gP h21 v0 2)) = true) <|
            lt (α := Hp) (β := Option ((Int32 × Hp) ⊕ Hp)) (sI h27 (gP h21 v0 2) (gI h27 v0 0).toNatClampNeg (gI h27 t12 8)) fun (h35 : Hp) =>
            lt (α := Hp) (β := Option ((Int32 × Hp) ⊕ Hp)) (sI h35 v0 0 ((gI h35 v0 0) + (1 : Int32))) fun (h40 : Hp) =>
            some (.inl ((v2 + (1 : Int32)), h40))
        else
          some (.inl ((v2 + (1 : Int32)), h))
set_option maxRecDepth 100000 in
set_option maxHeartbeats 8000000 in
theorem bX6_loadParts_7 {d : Nat} {h : Hp} {v0 : Nat} {v1 : Nat} {v2 : Int32} {h9 : Hp} {x : ((Int32 × Hp) ⊕ Hp)} (H : BX6_loadParts_7 h v0 v1 v2 = some x) (hb0 : ∀ s : Int32 × Hp, x = .inl s → J (d + 4) YX6_loadParts 7 [.ref v0, .ref v1, .int s.1, Value.null, Value.null] [] s.2 oV h9) (hx : ∀ z : Hp, x = .inr (z) → z = h9) : J (d + 4) YX6_loadParts 7 [.ref v0, .ref v1, .int v2, Value.null, Value.null] [] h oV h9 := by
  unfold BX6_loadParts_7 at H
  refine J_iload_n 2 dX6_loadParts_7 rfl rfl ?_
  refine J_iconst (5 : Int32) dX6_loadParts_8 kc_5 ?_
  refine J_aload_n 1 dX6_loadParts_9 rfl rfl ?_
  obtain ⟨g7, H⟩ := gd H
  refine J_getI 6 7 dX6_loadParts_10 g7 flX6_63 rfl ?_
  refine J_imul dX6_loadParts_13 ?_
  refine J_icmp_ge 106 dX6_loadParts_14 rfl (fun q8 => ?_) (fun q8 => ?_)
  · replace H := br1 q8 H
    cases H
    cases hx _ rfl
    exact J_ret dX6_loadParts_106 rfl
  · replace H := br0 q8 H
    refine J_aload_n 0 dX6_loadParts_17 rfl rfl ?_
    obtain ⟨g9, H⟩ := gd H
    refine J_getI 5 0 dX6_loadParts_18 g9 flX6_9 rfl ?_
    refine J_iconst (5 : Int32) dX6_loadParts_21 kc_5 ?_
    refine J_icmp_ge 106 dX6_loadParts_22 rfl (fun q10 => ?_) (fun q10 => ?_)
    · replace H := br1 q10 H
      cases H
      cases hx _ rfl
      exact J_ret dX6_loadParts_106 rfl
    · replace H := br0 q10 H
      refine J_aload_n 1 dX6_loadParts_25 rfl rfl ?_
      refine J_iload_n 2 dX6_loadParts_26 rfl rfl ?_
      obtain ⟨t12, e11, H⟩ := bd H
      refine J_cV (as := [.int v2]) 6 YX7_findPart 1 dX6_loadParts_27 moX7_findPart mvX7_findPart mlX6_66 g7 rfl rfl (okX7_findPart (d := d + 3) e11) rfl rfl [] rfl rfl (st2 := [.ref t12]) rfl ?_
      refine J_astore_n 3 dX6_loadParts_30 rfl (by decide) (ls' := [.ref v0, .ref v1, .int v2, .ref t12, Value.null]) rfl ?_
      refine J_aload_n 3 dX6_loadParts_31 rfl rfl ?_
      refine J_ifnull 100 dX6_loadParts_32 rfl (fun q13 => ?_) (fun q13 => ?_)
      · replace H := br1 q13 H
        refine J_iinc (v2 + (1 : Int32)) dX6_loadParts_100 rfl (congrArg (HAdd.hAdd v2) kc_1) (by decide) (ls' := [.ref v0, .ref v1, .int (v2 + (1 : Int32)), .ref t12, Value.null]) rfl ?_
        refine J_goto 7 dX6_loadParts_103 rfl ?_
        cases H
        exact J_dr (hb0 _ rfl) ⟨rfl, ⟨rfl, ⟨rfl, trivial⟩⟩⟩
      · replace H := br0 q13 H
        refine J_aload_n 3 dX6_loadParts_35 rfl rfl ?_
        obtain ⟨g14, H⟩ := gd H
        refine J_getI 4 10 dX6_loadParts_36 g14 flX6_70 rfl ?_
        refine J_if_eq 45 dX6_loadParts_39 rfl (fun q15 => ?_) (fun q15 => ?_)
        · replace H := br1 q15 H
          refine J_aload_n 1 dX6_loadParts_45 rfl rfl ?_
          refine J_aload_n 3 dX6_loadParts_46 rfl rfl ?_
          refine J_aload_n 1 dX6_loadParts_47 rfl rfl ?_
          refine J_getI 6 0 dX6_loadParts_48 g7 flX6_48 rfl ?_
          obtain ⟨t18, h17, e16, H⟩ := b2_el H
          refine J_cV (as := [.ref t12, .int (gI h v1 0)]) 6 YX7_breakerFor 2 dX6_loadParts_51 moX7_breakerFor mvX7_breakerFor mlX6_75 g7 rfl rfl (okX7_breakerFor (d := d) e16) rfl rfl [] rfl rfl (st2 := [.ref t18]) rfl ?_
          refine J_iconst (0 : Int32) dX6_loadParts_54 kc_0 ?_
          obtain ⟨g20, H⟩ := gd H
          obtain ⟨t22, h21, e19, H⟩ := b2_el H
          refine J_cV (as := [.int (0 : Int32)]) 0 YX0_solve 1 dX6_loadParts_55 moX0_solve mvX0_solve mlX6_79 g20 rfl rfl (okX0_solve (d := d) e19) rfl rfl [] rfl rfl (st2 := [.int t22]) rfl ?_
          refine J_istore dX6_loadParts_58 (by decide) (ls' := [.ref v0, .ref v1, .int v2, .ref t12, .int t22]) rfl ?_
          refine J_iload dX6_loadParts_60 rfl ?_
          refine J_iconst (-1 : Int32) dX6_loadParts_62 kc_m1 ?_
          refine J_icmp_eq 100 dX6_loadParts_63 rfl (fun q23 => ?_) (fun q23 => ?_)
          · replace H := br1 q23 H
            refine J_iinc (v2 + (1 : Int32)) dX6_loadParts_100 rfl (congrArg (HAdd.hAdd v2) kc_1) (by decide) (ls' := [.ref v0, .ref v1, .int (v2 + (1 : Int32)), .ref t12, .int t22]) rfl ?_
            refine J_goto 7 dX6_loadParts_103 rfl ?_
            cases H
            exact J_dr (hb0 _ rfl) ⟨rfl, ⟨rfl, ⟨rfl, trivial⟩⟩⟩
          · replace H := br0 q23 H
            refine J_aload_n 0 dX6_loadParts_66 rfl rfl ?_
            obtain ⟨g24, H⟩ := gd H
            refine J_gP 5 1 dX6_loadParts_67 g24 flX6_15 rfl rfl ?_
            refine J_aload_n 0 dX6_loadParts_70 rfl rfl ?_
            refine J_getI 5 0 dX6_loadParts_71 g24 flX6_9 rfl ?_
            refine J_iload dX6_loadParts_74 rfl ?_
            obtain ⟨g25, H⟩ := gd H
            obtain ⟨g26, H⟩ := gd H
            obtain ⟨h27, e28, H⟩ := lt_el H
            refine J_sI dX6_loadParts_76 g25 (inB_ok g26) e28 ?_
            have c29 := ekI e28
            have c30 := elI e28
            have c31 := epI e28
            refine J_aload_n 0 dX6_loadParts_77 rfl rfl ?_
            refine J_gP 5 2 dX6_loadParts_78 (kq c29 g24) flX6_19 rfl (congrFun (congrFun c31 v0) 2) ?_
            refine J_aload_n 0 dX6_loadParts_81 rfl rfl ?_
            refine J_getI 5 0 dX6_loadParts_82 (kq c29 g24) flX6_9 rfl ?_
            refine J_aload_n 3 dX6_loadParts_85 rfl rfl ?_
            obtain ⟨g32, H⟩ := gd H
            refine J_getI 4 8 dX6_loadParts_86 (kq c29 g32) flX6_85 rfl ?_
            obtain ⟨g33, H⟩ := gd H
            obtain ⟨g34, H⟩ := gd H
            obtain ⟨h35, e36, H⟩ := lt_el H
            refine J_sI dX6_loadParts_89 (kq c29 g33) (lq c30 g34) e36 ?_
            have c37 := (ekI e36).trans c29
            have c38 := (elI e36).trans c30
            have c39 := (epI e36).trans c31
            refine J_aload_n 0 dX6_loadParts_90 rfl rfl ?_
            refine J_dup dX6_loadParts_91 rfl ?_
            refine J_getI 5 0 dX6_loadParts_92 (kq c37 g24) flX6_9 rfl ?_
            refine J_iconst (1 : Int32) dX6_loadParts_95 kc_1 ?_
            refine J_iadd dX6_loadParts_96 ?_
            obtain ⟨h40, e41, H⟩ := lt_el H
            refine J_pI 5 0 dX6_loadParts_97 (kq c37 g24) flX6_9 rfl rfl e41 ?_
            have c42 := (ekI e41).trans c37
            have c43 := (elI e41).trans c38
            have c44 := (epI e41).trans c39
            refine J_iinc (v2 + (1 : Int32)) dX6_loadParts_100 rfl (congrArg (HAdd.hAdd v2) kc_1) (by decide) (ls' := [.ref v0, .ref v1, .int (v2 + (1 : Int32)), .ref t12, .int t22]) rfl ?_
            refine J_goto 7 dX6_loadParts_103 rfl ?_
            cases H
            exact J_dr (hb0 _ rfl) ⟨rfl, ⟨rfl, ⟨rfl, trivial⟩⟩⟩
        · replace H := br0 q15 H
          refine J_goto 100 dX6_loadParts_42 rfl ?_
          refine J_iinc (v2 + (1 : Int32)) dX6_loadParts_100 rfl (congrArg (HAdd.hAdd v2) kc_1) (by decide) (ls' := [.ref v0, .ref v1, .int (v2 + (1 : Int32)), .ref t12, Value.null]) rfl ?_
          refine J_goto 7 dX6_loadParts_103 rfl ?_
          cases H
          exact J_dr (hb0 _ rfl) ⟨rfl, ⟨rfl, ⟨rfl, trivial⟩⟩⟩
noncomputable def MX6_loadParts_7 (h : Hp) (v0 : Nat) (v1 : Nat) (v2 : Int32) : Option Hp := it (fun q : Int32 × Hp => BX6_loadParts_7 q.2 v0 v1 q.1) (v2, h)
set_option maxRecDepth 100000 in
set_option maxHeartbeats 8000000 in
theorem kX6_loadParts_7 {d : Nat} {h : Hp} {v0 : Nat} {v1 : Nat} {v2 : Int32} {h9 : Hp} (H : MX6_loadParts_7 h v0 v1 v2 = some h9) : J (d + 4) YX6_loadParts 7 [.ref v0, .ref v1, .int v2, Value.null, Value.null] [] h oV h9 := by
  unfold MX6_loadParts_7 at H
  refine it_J (G := (fun q : Int32 × Hp => J (d + 4) YX6_loadParts 7 [.ref v0, .ref v1, .int q.1, Value.null, Value.null] [] q.2 oV h9)) (Q := (fun y : Hp => y = h9)) (fun q x Hq hm => ?_) H rfl
  exact bX6_loadParts_7 Hq (fun s hs => by subst hs; exact hm) (fun z hz => by subst hz; exact hm)
noncomputable def MX6_loadParts (h : Hp) (v0 : Nat) (v1 : Nat) : Option Hp :=
  gg (β := Hp) (kd h v0 = 5) <|
  lt (α := Hp) (β := Option Hp) (sI h v0 0 (0 : Int32)) fun (h2 : Hp) =>
  MX6_loadParts_7 h2 v0 v1 (0 : Int32)
set_option maxRecDepth 100000 in
set_option maxHeartbeats 8000000 in
theorem eX6_loadParts {d : Nat} {h : Hp} {v0 : Nat} {v1 : Nat} {h9 : Hp} (H : MX6_loadParts h v0 v1 = some h9) : J (d + 4) YX6_loadParts 0 [.ref v0, .ref v1, Value.null, Value.null, Value.null] [] h oV h9 := by
  unfold MX6_loadParts at H
  refine J_aload_n 0 dX6_loadParts_0 rfl rfl ?_
  refine J_iconst (0 : Int32) dX6_loadParts_1 kc_0 ?_
  obtain ⟨g1, H⟩ := gd H
  obtain ⟨h2, e3, H⟩ := lt_el H
  refine J_pI 5 0 dX6_loadParts_2 g1 flX6_9 rfl rfl e3 ?_
  have c4 := ekI e3
  have c5 := elI e3
  have c6 := epI e3
  refine J_iconst (0 : Int32) dX6_loadParts_5 kc_0 ?_
  refine J_istore_n 2 dX6_loadParts_6 rfl (by decide) (ls' := [.ref v0, .ref v1, .int (0 : Int32), Value.null, Value.null]) rfl ?_
  exact J_dr (kX6_loadParts_7 H ) ⟨rfl, ⟨rfl, ⟨rfl, trivial⟩⟩⟩
theorem okX6_loadParts {d : Nat} {h : Hp} {v0 : Nat} {v1 : Nat} {h9 : Hp} (H : MX6_loadParts h v0 v1 = some h9) : CT (d + 4) YX6_loadParts [.ref v0, .ref v1] h oV h9 := CT_of (by decide +kernel) (Nat.le_of_ble_eq_true rfl) (eX6_loadParts H)
noncomputable def BX6_shareWithOwn_10 (h : Hp) (v0 : Nat) (v2 : Int32) (v3 : Int32) : Option ((Int32 × Hp) ⊕ ((Int32 × Hp) ⊕ Hp)) :=
  if v3 ≤ 0 then
    some (.inr (.inl ((v2 + (-1 : Int32)), h)))
  else
    gg (β := ((Int32 × Hp) ⊕ ((Int32 × Hp) ⊕ Hp))) (kd h v0 = 5) <|
    gg (β := ((Int32 × Hp) ⊕ ((Int32 × Hp) ⊕ Hp))) (kd h (gP h v0 4) = 20) <|
    gg (β := ((Int32 × Hp) ⊕ ((Int32 × Hp) ⊕ Hp))) (inB v2 (ln h (gP h v0 4)) = true) <|
    gg (β := ((Int32 × Hp) ⊕ ((Int32 × Hp) ⊕ Hp))) (inB (v2 ^^^ v3) (ln h (gP h v0 4)) = true) <|
    gg (β := ((Int32 × Hp) ⊕ ((Int32 × Hp) ⊕ Hp))) (kd h (gP h v0 3) = 20) <|
    gg (β := ((Int32 × Hp) ⊕ ((Int32 × Hp) ⊕ Hp))) (inB v3 (ln h (gP h v0 3)) = true) <|
    lt (α := Hp) (β := Option ((Int32 × Hp) ⊕ ((Int32 × Hp) ⊕ Hp))) (sI h (gP h v0 4) v2.toNatClampNeg (jmin (gI h (gP h v0 4) v2.toNatClampNeg) ((gI h (gP h v0 4) (v2 ^^^ v3).toNatClampNeg) + (gI h (gP h v0 3) v3.toNatClampNeg)))) fun (h9 : Hp) =>
    some (.inl (((v3 - (1 : Int32)) &&& v2), h9))
set_option maxRecDepth 100000 in
set_option maxHeartbeats 8000000 in
theorem bX6_shareWithOwn_10 {d : Nat} {h : Hp} {v0 : Nat} {v2 : Int32} {v3 : Int32} {h9 : Hp} {x : ((Int32 × Hp) ⊕ ((Int32 × Hp) ⊕ Hp))} (H : BX6_shareWithOwn_10 h v0 v2 v3 = some x) (hb0 : ∀ s : Int32 × Hp, x = .inl s → J (d) YX6_shareWithOwn 10 [.ref v0, Value.null, .int v2, .int s.1] [] s.2 oV h9) (hb1 : ∀ s : Int32 × Hp, x = .inr (.inl s) → J (d) YX6_shareWithOwn 4 [.ref v0, Value.null, .int s.1, Value.null] [] s.2 oV h9) (hx : ∀ z : Hp, x = .inr (.inr (z)) → z = h9) : J (d) YX6_shareWithOwn 10 [.ref v0, Value.null, .int v2, .int v3] [] h oV h9 := by
  unfold BX6_shareWithOwn_10 at H
  refine J_iload_n 3 dX6_shareWithOwn_10 rfl rfl ?_
  refine J_if_le 53 dX6_shareWithOwn_11 rfl (fun q2 => ?_) (fun q2 => ?_)
  · replace H := br1 q2 H
    refine J_iinc (v2 + (-1 : Int32)) dX6_shareWithOwn_53 rfl (congrArg (HAdd.hAdd v2) kc_m1) (by decide) (ls' := [.ref v0, Value.null, .int (v2 + (-1 : Int32)), .int v3]) rfl ?_
    refine J_goto 4 dX6_shareWithOwn_56 rfl ?_
    cases H
    exact J_dr (hb1 _ rfl) ⟨rfl, ⟨rfl, trivial⟩⟩
  · replace H := br0 q2 H
    refine J_aload_n 0 dX6_shareWithOwn_14 rfl rfl ?_
    obtain ⟨g3, H⟩ := gd H
    refine J_gP 5 4 dX6_shareWithOwn_15 g3 flX6_25 rfl rfl ?_
    refine J_iload_n 2 dX6_shareWithOwn_18 rfl rfl ?_
    refine J_aload_n 0 dX6_shareWithOwn_19 rfl rfl ?_
    refine J_gP 5 4 dX6_shareWithOwn_20 g3 flX6_25 rfl rfl ?_
    refine J_iload_n 2 dX6_shareWithOwn_23 rfl rfl ?_
    obtain ⟨g4, H⟩ := gd H
    obtain ⟨g5, H⟩ := gd H
    refine J_iald dX6_shareWithOwn_24 g4 (inB_ok g5) ?_
    refine J_aload_n 0 dX6_shareWithOwn_25 rfl rfl ?_
    refine J_gP 5 4 dX6_shareWithOwn_26 g3 flX6_25 rfl rfl ?_
    refine J_iload_n 2 dX6_shareWithOwn_29 rfl rfl ?_
    refine J_iload_n 3 dX6_shareWithOwn_30 rfl rfl ?_
    refine J_ixor dX6_shareWithOwn_31 ?_
    obtain ⟨g6, H⟩ := gd H
    refine J_iald dX6_shareWithOwn_32 g4 (inB_ok g6) ?_
    refine J_aload_n 0 dX6_shareWithOwn_33 rfl rfl ?_
    refine J_gP 5 3 dX6_shareWithOwn_34 g3 flX6_22 rfl rfl ?_
    refine J_iload_n 3 dX6_shareWithOwn_37 rfl rfl ?_
    obtain ⟨g7, H⟩ := gd H
    obtain ⟨g8, H⟩ := gd H
    refine J_iald dX6_shareWithOwn_38 g7 (inB_ok g8) ?_
    refine J_iadd dX6_shareWithOwn_39 ?_
    refine J_mn dX6_shareWithOwn_40 mlX6_94 rfl ?_
    obtain ⟨h9, e10, H⟩ := lt_el H
    refine J_sI dX6_shareWithOwn_43 g4 (inB_ok g5) e10 ?_
    have c11 := ekI e10
    have c12 := elI e10
    have c13 := epI e10
    refine J_iload_n 3 dX6_shareWithOwn_44 rfl rfl ?_
    refine J_iconst (1 : Int32) dX6_shareWithOwn_45 kc_1 ?_
    refine J_isub dX6_shareWithOwn_46 ?_
    refine J_iload_n 2 dX6_shareWithOwn_47 rfl rfl ?_
    refine J_iand dX6_shareWithOwn_48 ?_
    refine J_istore_n 3 dX6_shareWithOwn_49 rfl (by decide) (ls' := [.ref v0, Value.null, .int v2, .int ((v3 - (1 : Int32)) &&& v2)]) rfl ?_
    refine J_goto 10 dX6_shareWithOwn_50 rfl ?_
    cases H
    exact J_dr (hb0 _ rfl) ⟨rfl, ⟨rfl, ⟨rfl, trivial⟩⟩⟩
noncomputable def MX6_shareWithOwn_10 (h : Hp) (v0 : Nat) (v2 : Int32) (v3 : Int32) : Option ((Int32 × Hp) ⊕ Hp) := it (fun q : Int32 × Hp => BX6_shareWithOwn_10 q.2 v0 v2 q.1) (v3, h)
set_option maxRecDepth 100000 in
set_option maxHeartbeats 8000000 in
theorem kX6_shareWithOwn_10 {d : Nat} {h : Hp} {v0 : Nat} {v2 : Int32} {v3 : Int32} {h9 : Hp} {x : ((Int32 × Hp) ⊕ Hp)} (H : MX6_shareWithOwn_10 h v0 v2 v3 = some x) (hb0 : ∀ s : Int32 × Hp, x = .inl s → J (d) YX6_shareWithOwn 4 [.ref v0, Value.null, .int s.1, Value.null] [] s.2 oV h9) (hx : ∀ z : Hp, x = .inr (z) → z = h9) : J (d) YX6_shareWithOwn 10 [.ref v0, Value.null, .int v2, .int v3] [] h oV h9 := by
  unfold MX6_shareWithOwn_10 at H
  refine it_J (G := (fun q : Int32 × Hp => J (d) YX6_shareWithOwn 10 [.ref v0, Value.null, .int v2, .int q.1] [] q.2 oV h9)) (Q := (fun y : ((Int32 × Hp) ⊕ Hp) => (∀ s : Int32 × Hp, y = .inl s → J (d) YX6_shareWithOwn 4 [.ref v0, Value.null, .int s.1, Value.null] [] s.2 oV h9) ∧ (∀ z : Hp, y = .inr (z) → z = h9))) (fun q x Hq hm => ?_) H ⟨hb0, hx⟩
  exact bX6_shareWithOwn_10 Hq (fun s hs => by subst hs; exact hm) (fun s hs => by subst hs; exact (hm.1) s rfl) (fun z hz => by subst hz; exact (hm.2) z rfl)
noncomputable def BX6_shareWithOwn_4 (h : Hp) (v0 : Nat) (v2 : Int32) : Option ((Int32 × Hp) ⊕ Hp) :=
  if v2 ≤ 0 then
    some (.inr (h))
  else
    MX6_shareWithOwn_10 h v0 v2 v2
set_option maxRecDepth 100000 in
set_option maxHeartbeats 8000000 in
theorem bX6_shareWithOwn_4 {d : Nat} {h : Hp} {v0 : Nat} {v2 : Int32} {h9 : Hp} {x : ((Int32 × Hp) ⊕ Hp)} (H : BX6_shareWithOwn_4 h v0 v2 = some x) (hb0 : ∀ s : Int32 × Hp, x = .inl s → J (d) YX6_shareWithOwn 4 [.ref v0, Value.null, .int s.1, Value.null] [] s.2 oV h9) (hx : ∀ z : Hp, x = .inr (z) → z = h9) : J (d) YX6_shareWithOwn 4 [.ref v0, Value.null, .int v2, Value.null] [] h oV h9 := by
  unfold BX6_shareWithOwn_4 at H
  refine J_iload_n 2 dX6_shareWithOwn_4 rfl rfl ?_
  refine J_if_le 59 dX6_shareWithOwn_5 rfl (fun q1 => ?_) (fun q1 => ?_)
  · replace H := br1 q1 H
    cases H
    cases hx _ rfl
    exact J_ret dX6_shareWithOwn_59 rfl
  · replace H := br0 q1 H
    refine J_iload_n 2 dX6_shareWithOwn_8 rfl rfl ?_
    refine J_istore_n 3 dX6_shareWithOwn_9 rfl (by decide) (ls' := [.ref v0, Value.null, .int v2, .int v2]) rfl ?_
    exact J_dr (kX6_shareWithOwn_10 H hb0 hx) ⟨rfl, ⟨rfl, ⟨rfl, trivial⟩⟩⟩
noncomputable def MX6_shareWithOwn_4 (h : Hp) (v0 : Nat) (v2 : Int32) : Option Hp := it (fun q : Int32 × Hp => BX6_shareWithOwn_4 q.2 v0 q.1) (v2, h)
set_option maxRecDepth 100000 in
set_option maxHeartbeats 8000000 in
theorem kX6_shareWithOwn_4 {d : Nat} {h : Hp} {v0 : Nat} {v2 : Int32} {h9 : Hp} (H : MX6_shareWithOwn_4 h v0 v2 = some h9) : J (d) YX6_shareWithOwn 4 [.ref v0, Value.null, .int v2, Value.null] [] h oV h9 := by
  unfold MX6_shareWithOwn_4 at H
  refine it_J (G := (fun q : Int32 × Hp => J (d) YX6_shareWithOwn 4 [.ref v0, Value.null, .int q.1, Value.null] [] q.2 oV h9)) (Q := (fun y : Hp => y = h9)) (fun q x Hq hm => ?_) H rfl
  exact bX6_shareWithOwn_4 Hq (fun s hs => by subst hs; exact hm) (fun z hz => by subst hz; exact hm)
noncomputable def MX6_shareWithOwn (h : Hp) (v0 : Nat) (v1 : Int32) : Option Hp :=
  MX6_shareWithOwn_4 h v0 (v1 - (1 : Int32))
set_option maxRecDepth 100000 in
set_option maxHeartbeats 8000000 in
theorem eX6_shareWithOwn {d : Nat} {h : Hp} {v0 : Nat} {v1 : Int32} {h9 : Hp} (H : MX6_shareWithOwn h v0 v1 = some h9) : J (d) YX6_shareWithOwn 0 [.ref v0, .int v1, Value.null, Value.null] [] h oV h9 := by
  unfold MX6_shareWithOwn at H
  refine J_iload_n 1 dX6_shareWithOwn_0 rfl rfl ?_
  refine J_iconst (1 : Int32) dX6_shareWithOwn_1 kc_1 ?_
  refine J_isub dX6_shareWithOwn_2 ?_
  refine J_istore_n 2 dX6_shareWithOwn_3 rfl (by decide) (ls' := [.ref v0, .int v1, .int (v1 - (1 : Int32)), Value.null]) rfl ?_
  exact J_dr (kX6_shareWithOwn_4 H ) ⟨rfl, ⟨rfl, trivial⟩⟩
theorem okX6_shareWithOwn {d : Nat} {h : Hp} {v0 : Nat} {v1 : Int32} {h9 : Hp} (H : MX6_shareWithOwn h v0 v1 = some h9) : CT (d) YX6_shareWithOwn [.ref v0, .int v1] h oV h9 := CT_of (by decide +kernel) (Nat.le_of_ble_eq_true rfl) (eX6_shareWithOwn H)
noncomputable def MX7_queuedLines_61 (h : Hp) (v0 : Nat) (v1 : Nat) (v2 : Int32) (v3 : Int32) : Option ((Int32 × Int32 × Hp) ⊕ (Int32 × Hp)) :=
  gg (β := ((Int32 × Int32 × Hp) ⊕ (Int32 × Hp))) (kd h v1 = 3) <|
  gg (β := ((Int32 × Int32 × Hp) ⊕ (Int32 × Hp))) (kd h (gP h v1 9) = 20) <|
  gg (β := ((Int32 × Int32 × Hp) ⊕ (Int32 × Hp))) (inB v3 (ln h (gP h v1 9)) = true) <|
  gg (β := ((Int32 × Int32 × Hp) ⊕ (Int32 × Hp))) (kd h (gP h v1 8) = 20) <|
  gg (β := ((Int32 × Int32 × Hp) ⊕ (Int32 × Hp))) (inB v3 (ln h (gP h v1 8)) = true) <|
  lt (α := Int32) (β := Option ((Int32 × Int32 × Hp) ⊕ (Int32 × Hp))) (v2 + ((gI h (gP h v1 9) v3.toNatClampNeg) - (gI h (gP h v1 8) v3.toNatClampNeg))) fun (w14 : Int32) =>
  some (.inl (w14, (v3 + (1 : Int32)), h))
set_option maxRecDepth 100000 in
set_option maxHeartbeats 8000000 in
theorem kX7_queuedLines_61 {d : Nat} {h : Hp} {v0 : Nat} {v1 : Nat} {v2 : Int32} {v3 : Int32} {r : Int32} {h9 : Hp} {x : ((Int32 × Int32 × Hp) ⊕ (Int32 × Hp))} (H : MX7_queuedLines_61 h v0 v1 v2 v3 = some x) (hb0 : ∀ s : Int32 × Int32 × Hp, x = .inl s → J (d + 4) YX7_queuedLines 4 [.ref v0, .ref v1, .int s.1, .int s.2.1, Value.null] [] s.2.2 (oI r) h9) (hx : ∀ z : (Int32 × Hp), x = .inr (z) → z = (r, h9)) : J (d + 4) YX7_queuedLines 61 [.ref v0, .ref v1, .int v2, .int v3, Value.null] [] h (oI r) h9 := by
  unfold MX7_queuedLines_61 at H
  refine J_iload_n 2 dX7_queuedLines_61 rfl rfl ?_
  refine J_aload_n 1 dX7_queuedLines_62 rfl rfl ?_
  obtain ⟨g9, H⟩ := gd H
  refine J_gP 3 9 dX7_queuedLines_63 g9 flX7_222 rfl rfl ?_
  refine J_iload_n 3 dX7_queuedLines_66 rfl rfl ?_
  obtain ⟨g10, H⟩ := gd H
  obtain ⟨g11, H⟩ := gd H
  refine J_iald dX7_queuedLines_67 g10 (inB_ok g11) ?_
  refine J_aload_n 1 dX7_queuedLines_68 rfl rfl ?_
  refine J_gP 3 8 dX7_queuedLines_69 g9 flX7_228 rfl rfl ?_
  refine J_iload_n 3 dX7_queuedLines_72 rfl rfl ?_
  obtain ⟨g12, H⟩ := gd H
  obtain ⟨g13, H⟩ := gd H
  refine J_iald dX7_queuedLines_73 g12 (inB_ok g13) ?_
  refine J_isub dX7_queuedLines_74 ?_
  refine J_iadd dX7_queuedLines_75 ?_
  obtain ⟨w14, e15, H⟩ := lt_el H
  refine J_nmI e15 ?_
  refine J_istore_n 2 dX7_queuedLines_76 rfl (by decide) (ls' := [.ref v0, .ref v1, .int w14, .int v3, Value.null]) rfl ?_
  refine J_iinc (v3 + (1 : Int32)) dX7_queuedLines_77 rfl (congrArg (HAdd.hAdd v3) kc_1) (by decide) (ls' := [.ref v0, .ref v1, .int w14, .int (v3 + (1 : Int32)), Value.null]) rfl ?_
  refine J_goto 4 dX7_queuedLines_80 rfl ?_
  cases H
  exact J_dr (hb0 _ rfl) ⟨rfl, ⟨rfl, ⟨rfl, ⟨rfl, trivial⟩⟩⟩⟩
noncomputable def BX7_queuedLines_4 (h : Hp) (v0 : Nat) (v1 : Nat) (v2 : Int32) (v3 : Int32) : Option ((Int32 × Int32 × Hp) ⊕ (Int32 × Hp)) :=
  gg (β := ((Int32 × Int32 × Hp) ⊕ (Int32 × Hp))) (kd h v1 = 3) <|
  if (gI h v1 3) ≤ v3 then
    some (.inr ((v2, h)))
  else
    gg (β := ((Int32 × Int32 × Hp) ⊕ (Int32 × Hp))) (kd h (gP h v1 7) = 20) <|
    gg (β := ((Int32 × Int32 × Hp) ⊕ (Int32 × Hp))) (inB v3 (ln h (gP h v1 7)) = true) <|
    gg (β := ((Int32 × Int32 × Hp) ⊕ (Int32 × Hp))) (kd h v0 = 6) <|
    Option.bind (α := Nat) (β := ((Int32 × Int32 × Hp) ⊕ (Int32 × Hp))) (MX7_findPart h v0 (gI h (gP h v1 7) v3.toNatClampNeg)) fun (t7 : Nat) =>
    if t7 = 0 then
      MX7_queuedLines_61 h v0 v1 v2 v3
    else
      gg (β := ((Int32 × Int32 × Hp) ⊕ (Int32 × Hp))) (kd h t7 = 4) <|
      if (gI h t7 11) = 0 then
        b2 (α := Nat) (β := Hp) (γ := ((Int32 × Int32 × Hp) ⊕ (Int32 × Hp))) (MX7_breakerFor h v0 t7 (gI h v0 0)) fun (t20 : Nat) (h19 : Hp) =>
        gg (β := ((Int32 × Int32 × Hp) ⊕ (Int32 × Hp))) (kd h19 t20 = 0) <|
        b2 (α := Int32) (β := Hp) (γ := ((Int32 × Int32 × Hp) ⊕ (Int32 × Hp))) (MX0_solve h19 t20 (0 : Int32)) fun (t24 : Int32) (h23 : Hp) =>
        some (.inl ((v2 + (jmax (0 : Int32) t24)), (v3 + (1 : Int32)), h23))
      else
        MX7_queuedLines_61 h v0 v1 v2 v3
set_option maxRecDepth 100000 in
set_option maxHeartbeats 8000000 in
theorem bX7_queuedLines_4 {d : Nat} {h : Hp} {v0 : Nat} {v1 : Nat} {v2 : Int32} {v3 : Int32} {r : Int32} {h9 : Hp} {x : ((Int32 × Int32 × Hp) ⊕ (Int32 × Hp))} (H : BX7_queuedLines_4 h v0 v1 v2 v3 = some x) (hb0 : ∀ s : Int32 × Int32 × Hp, x = .inl s → J (d + 4) YX7_queuedLines 4 [.ref v0, .ref v1, .int s.1, .int s.2.1, Value.null] [] s.2.2 (oI r) h9) (hx : ∀ z : (Int32 × Hp), x = .inr (z) → z = (r, h9)) : J (d + 4) YX7_queuedLines 4 [.ref v0, .ref v1, .int v2, .int v3, Value.null] [] h (oI r) h9 := by
  unfold BX7_queuedLines_4 at H
  refine J_iload_n 3 dX7_queuedLines_4 rfl rfl ?_
  refine J_aload_n 1 dX7_queuedLines_5 rfl rfl ?_
  obtain ⟨g1, H⟩ := gd H
  refine J_getI 3 3 dX7_queuedLines_6 g1 flX7_202 rfl ?_
  refine J_icmp_ge 83 dX7_queuedLines_9 rfl (fun q2 => ?_) (fun q2 => ?_)
  · replace H := br1 q2 H
    refine J_iload_n 2 dX7_queuedLines_83 rfl rfl ?_
    cases H
    cases hx _ rfl
    exact J_iretI dX7_queuedLines_84 rfl
  · replace H := br0 q2 H
    refine J_aload_n 0 dX7_queuedLines_12 rfl rfl ?_
    refine J_aload_n 1 dX7_queuedLines_13 rfl rfl ?_
    refine J_gP 3 7 dX7_queuedLines_14 g1 flX7_209 rfl rfl ?_
    refine J_iload_n 3 dX7_queuedLines_17 rfl rfl ?_
    obtain ⟨g3, H⟩ := gd H
    obtain ⟨g4, H⟩ := gd H
    refine J_iald dX7_queuedLines_18 g3 (inB_ok g4) ?_
    obtain ⟨g6, H⟩ := gd H
    obtain ⟨t7, e5, H⟩ := bd H
    refine J_cV (as := [.int (gI h (gP h v1 7) v3.toNatClampNeg)]) 6 YX7_findPart 1 dX7_queuedLines_19 moX7_findPart mvX7_findPart mlX7_120 g6 rfl rfl (okX7_findPart (d := d + 3) e5) rfl rfl [] rfl rfl (st2 := [.ref t7]) rfl ?_
    refine J_astore dX7_queuedLines_22 (by decide) (ls' := [.ref v0, .ref v1, .int v2, .int v3, .ref t7]) rfl ?_
    refine J_aload dX7_queuedLines_24 rfl ?_
    refine J_ifnull 61 dX7_queuedLines_26 rfl (fun q8 => ?_) (fun q8 => ?_)
    · replace H := br1 q8 H
      exact J_dr (kX7_queuedLines_61 H hb0 hx) ⟨rfl, ⟨rfl, ⟨rfl, ⟨rfl, trivial⟩⟩⟩⟩
    · replace H := br0 q8 H
      refine J_aload dX7_queuedLines_29 rfl ?_
      obtain ⟨g16, H⟩ := gd H
      refine J_getI 4 11 dX7_queuedLines_31 g16 flX7_212 rfl ?_
      refine J_if_ne 61 dX7_queuedLines_34 rfl (fun q17 => ?_) (fun q17 => ?_)
      · replace H := br0 q17 H
        exact J_dr (kX7_queuedLines_61 H hb0 hx) ⟨rfl, ⟨rfl, ⟨rfl, ⟨rfl, trivial⟩⟩⟩⟩
      · replace H := br1 q17 H
        refine J_iload_n 2 dX7_queuedLines_37 rfl rfl ?_
        refine J_iconst (0 : Int32) dX7_queuedLines_38 kc_0 ?_
        refine J_aload_n 0 dX7_queuedLines_39 rfl rfl ?_
        refine J_aload dX7_queuedLines_40 rfl ?_
        refine J_aload_n 0 dX7_queuedLines_42 rfl rfl ?_
        refine J_getI 6 0 dX7_queuedLines_43 g6 flX7_9 rfl ?_
        obtain ⟨t20, h19, e18, H⟩ := b2_el H
        refine J_cV (as := [.ref t7, .int (gI h v0 0)]) 6 YX7_breakerFor 2 dX7_queuedLines_46 moX7_breakerFor mvX7_breakerFor mlX7_256 g6 rfl rfl (okX7_breakerFor (d := d) e18) rfl rfl [.int (0 : Int32), .int v2] rfl rfl (st2 := [.ref t20, .int (0 : Int32), .int v2]) rfl ?_
        refine J_iconst (0 : Int32) dX7_queuedLines_49 kc_0 ?_
        obtain ⟨g22, H⟩ := gd H
        obtain ⟨t24, h23, e21, H⟩ := b2_el H
        refine J_cV (as := [.int (0 : Int32)]) 0 YX0_solve 1 dX7_queuedLines_50 moX0_solve mvX0_solve mlX7_260 g22 rfl rfl (okX0_solve (d := d) e21) rfl rfl [.int (0 : Int32), .int v2] rfl rfl (st2 := [.int t24, .int (0 : Int32), .int v2]) rfl ?_
        refine J_mx dX7_queuedLines_53 mlX7_193 rfl ?_
        refine J_iadd dX7_queuedLines_56 ?_
        refine J_istore_n 2 dX7_queuedLines_57 rfl (by decide) (ls' := [.ref v0, .ref v1, .int (v2 + (jmax (0 : Int32) t24)), .int v3, .ref t7]) rfl ?_
        refine J_goto 77 dX7_queuedLines_58 rfl ?_
        refine J_iinc (v3 + (1 : Int32)) dX7_queuedLines_77 rfl (congrArg (HAdd.hAdd v3) kc_1) (by decide) (ls' := [.ref v0, .ref v1, .int (v2 + (jmax (0 : Int32) t24)), .int (v3 + (1 : Int32)), .ref t7]) rfl ?_
        refine J_goto 4 dX7_queuedLines_80 rfl ?_
        cases H
        exact J_dr (hb0 _ rfl) ⟨rfl, ⟨rfl, ⟨rfl, ⟨rfl, trivial⟩⟩⟩⟩
noncomputable def MX7_queuedLines_4 (h : Hp) (v0 : Nat) (v1 : Nat) (v2 : Int32) (v3 : Int32) : Option (Int32 × Hp) := it (fun q : Int32 × Int32 × Hp => BX7_queuedLines_4 q.2.2 v0 v1 q.1 q.2.1) (v2, v3, h)
set_option maxRecDepth 100000 in
set_option maxHeartbeats 8000000 in
theorem kX7_queuedLines_4 {d : Nat} {h : Hp} {v0 : Nat} {v1 : Nat} {v2 : Int32} {v3 : Int32} {r : Int32} {h9 : Hp} (H : MX7_queuedLines_4 h v0 v1 v2 v3 = some (r, h9)) : J (d + 4) YX7_queuedLines 4 [.ref v0, .ref v1, .int v2, .int v3, Value.null] [] h (oI r) h9 := by
  unfold MX7_queuedLines_4 at H
  refine it_J (G := (fun q : Int32 × Int32 × Hp => J (d + 4) YX7_queuedLines 4 [.ref v0, .ref v1, .int q.1, .int q.2.1, Value.null] [] q.2.2 (oI r) h9)) (Q := (fun y : (Int32 × Hp) => y = (r, h9))) (fun q x Hq hm => ?_) H rfl
  exact bX7_queuedLines_4 Hq (fun s hs => by subst hs; exact hm) (fun z hz => by subst hz; exact hm)
noncomputable def MX7_queuedLines (h : Hp) (v0 : Nat) (v1 : Nat) : Option (Int32 × Hp) :=
  MX7_queuedLines_4 h v0 v1 (0 : Int32) (0 : Int32)
set_option maxRecDepth 100000 in
set_option maxHeartbeats 8000000 in
theorem eX7_queuedLines {d : Nat} {h : Hp} {v0 : Nat} {v1 : Nat} {r : Int32} {h9 : Hp} (H : MX7_queuedLines h v0 v1 = some (r, h9)) : J (d + 4) YX7_queuedLines 0 [.ref v0, .ref v1, Value.null, Value.null, Value.null] [] h (oI r) h9 := by
  unfold MX7_queuedLines at H
  refine J_iconst (0 : Int32) dX7_queuedLines_0 kc_0 ?_
  refine J_istore_n 2 dX7_queuedLines_1 rfl (by decide) (ls' := [.ref v0, .ref v1, .int (0 : Int32), Value.null, Value.null]) rfl ?_
  refine J_iconst (0 : Int32) dX7_queuedLines_2 kc_0 ?_
  refine J_istore_n 3 dX7_queuedLines_3 rfl (by decide) (ls' := [.ref v0, .ref v1, .int (0 : Int32), .int (0 : Int32), Value.null]) rfl ?_
  exact J_dr (kX7_queuedLines_4 H ) ⟨rfl, ⟨rfl, ⟨rfl, ⟨rfl, trivial⟩⟩⟩⟩
theorem okX7_queuedLines {d : Nat} {h : Hp} {v0 : Nat} {v1 : Nat} {r : Int32} {h9 : Hp} (H : MX7_queuedLines h v0 v1 = some (r, h9)) : CT (d + 4) YX7_queuedLines [.ref v0, .ref v1] h (oI r) h9 := CT_of (by decide +kernel) (Nat.le_of_ble_eq_true rfl) (eX7_queuedLines H)
