noncomputable def MX12_factsOf_60 (h : Hp) (v0 : Nat) (v2 : Int32) (v3 : Int32) (v4 : Int32) (s0 : Nat) (s1 : Int32) (s2 : Int32) : Option Hp :=
  gg (β := Hp) (kd h s0 = 22) <|
  gg (β := Hp) (inB s1 (ln h s0) = true) <|
  lt (α := Hp) (β := Option Hp) (sI h s0 s1.toNatClampNeg (vp_nar .boolean s2)) fun (h19 : Hp) =>
  gg (β := Hp) (kd h v0 = 11) <|
  gg (β := Hp) (kd h (gP h v0 21) = 22) <|
  gg (β := Hp) (inB (2 : Int32) (ln h (gP h v0 21)) = true) <|
  lt (α := Hp) (β := Option Hp) (sI h19 (gP h v0 21) (2 : Int32).toNatClampNeg (vp_nar .boolean (0 : Int32))) fun (h27 : Hp) =>
  gg (β := Hp) (kd h (gP h v0 1) = 20) <|
  gg (β := Hp) (inB (v3 + (0 : Int32)) (ln h (gP h v0 1)) = true) <|
  gg (β := Hp) (kd h (gP h v0 22) = 20) <|
  gg (β := Hp) (inB (0 : Int32) (ln h (gP h v0 22)) = true) <|
  lt (α := Hp) (β := Option Hp) (sI h27 (gP h v0 22) (0 : Int32).toNatClampNeg (gI h27 (gP h v0 1) (v3 + (0 : Int32)).toNatClampNeg)) fun (h36 : Hp) =>
  gg (β := Hp) (inB (v3 + (1 : Int32)) (ln h (gP h v0 1)) = true) <|
  gg (β := Hp) (inB (1 : Int32) (ln h (gP h v0 22)) = true) <|
  lt (α := Hp) (β := Option Hp) (sI h36 (gP h v0 22) (1 : Int32).toNatClampNeg (gI h36 (gP h v0 1) (v3 + (1 : Int32)).toNatClampNeg)) fun (h43 : Hp) =>
  gg (β := Hp) (inB (2 : Int32) (ln h (gP h v0 22)) = true) <|
  lt (α := Hp) (β := Option Hp) (sI h43 (gP h v0 22) (2 : Int32).toNatClampNeg v4) fun (h49 : Hp) =>
  gg (β := Hp) (inB (3 : Int32) (ln h (gP h v0 22)) = true) <|
  lt (α := Hp) (β := Option Hp) (sI h49 (gP h v0 22) (3 : Int32).toNatClampNeg v2) fun (h55 : Hp) =>
  gg (β := Hp) (inB (4 : Int32) (ln h (gP h v0 22)) = true) <|
  lt (α := Hp) (β := Option Hp) (sI h55 (gP h v0 22) (4 : Int32).toNatClampNeg (0 : Int32)) fun (h61 : Hp) =>
  gg (β := Hp) (inB (5 : Int32) (ln h (gP h v0 22)) = true) <|
  lt (α := Hp) (β := Option Hp) (sI h61 (gP h v0 22) (5 : Int32).toNatClampNeg (99 : Int32)) fun (h67 : Hp) =>
  some h67
set_option maxRecDepth 100000 in
set_option maxHeartbeats 8000000 in
theorem kX12_factsOf_60 {d : Nat} {h : Hp} {v0 : Nat} {v2 : Int32} {v3 : Int32} {v4 : Int32} {s0 : Nat} {s1 : Int32} {s2 : Int32} {h9 : Hp} (H : MX12_factsOf_60 h v0 v2 v3 v4 s0 s1 s2 = some h9) : J (d + 1) YX12_factsOf 60 [.ref v0, Value.null, .int v2, .int v3, .int v4] [.int s2, .int s1, .ref s0] h oV h9 := by
  unfold MX12_factsOf_60 at H
  obtain ⟨g17, H⟩ := gd H
  obtain ⟨g18, H⟩ := gd H
  obtain ⟨h19, e20, H⟩ := lt_el H
  refine J_sZ dX12_factsOf_60 g17 (inB_ok g18) e20 ?_
  have c21 := ekI e20
  have c22 := elI e20
  have c23 := epI e20
  refine J_aload_n 0 dX12_factsOf_61 rfl rfl ?_
  obtain ⟨g24, H⟩ := gd H
  refine J_gP 11 21 dX12_factsOf_62 (kq c21 g24) flX12_45 rfl (congrFun (congrFun c23 v0) 21) ?_
  refine J_iconst (2 : Int32) dX12_factsOf_65 kc_2 ?_
  refine J_iconst (0 : Int32) dX12_factsOf_66 kc_0 ?_
  obtain ⟨g25, H⟩ := gd H
  obtain ⟨g26, H⟩ := gd H
  obtain ⟨h27, e28, H⟩ := lt_el H
  refine J_sZ dX12_factsOf_67 (kq c21 g25) (lq c22 g26) e28 ?_
  have c29 := (ekI e28).trans c21
  have c30 := (elI e28).trans c22
  have c31 := (epI e28).trans c23
  refine J_aload_n 0 dX12_factsOf_68 rfl rfl ?_
  refine J_gP 11 22 dX12_factsOf_69 (kq c29 g24) flX12_49 rfl (congrFun (congrFun c31 v0) 22) ?_
  refine J_iconst (0 : Int32) dX12_factsOf_72 kc_0 ?_
  refine J_aload_n 0 dX12_factsOf_73 rfl rfl ?_
  refine J_gP 11 1 dX12_factsOf_74 (kq c29 g24) flX12_8 rfl (congrFun (congrFun c31 v0) 1) ?_
  refine J_iload_n 3 dX12_factsOf_77 rfl rfl ?_
  refine J_iconst (0 : Int32) dX12_factsOf_78 kc_0 ?_
  refine J_iadd dX12_factsOf_79 ?_
  obtain ⟨g32, H⟩ := gd H
  obtain ⟨g33, H⟩ := gd H
  refine J_iald dX12_factsOf_80 (kq c29 g32) (lq c30 g33) ?_
  obtain ⟨g34, H⟩ := gd H
  obtain ⟨g35, H⟩ := gd H
  obtain ⟨h36, e37, H⟩ := lt_el H
  refine J_sI dX12_factsOf_81 (kq c29 g34) (lq c30 g35) e37 ?_
  have c38 := (ekI e37).trans c29
  have c39 := (elI e37).trans c30
  have c40 := (epI e37).trans c31
  refine J_aload_n 0 dX12_factsOf_82 rfl rfl ?_
  refine J_gP 11 22 dX12_factsOf_83 (kq c38 g24) flX12_49 rfl (congrFun (congrFun c40 v0) 22) ?_
  refine J_iconst (1 : Int32) dX12_factsOf_86 kc_1 ?_
  refine J_aload_n 0 dX12_factsOf_87 rfl rfl ?_
  refine J_gP 11 1 dX12_factsOf_88 (kq c38 g24) flX12_8 rfl (congrFun (congrFun c40 v0) 1) ?_
  refine J_iload_n 3 dX12_factsOf_91 rfl rfl ?_
  refine J_iconst (1 : Int32) dX12_factsOf_92 kc_1 ?_
  refine J_iadd dX12_factsOf_93 ?_
  obtain ⟨g41, H⟩ := gd H
  refine J_iald dX12_factsOf_94 (kq c38 g32) (lq c39 g41) ?_
  obtain ⟨g42, H⟩ := gd H
  obtain ⟨h43, e44, H⟩ := lt_el H
  refine J_sI dX12_factsOf_95 (kq c38 g34) (lq c39 g42) e44 ?_
  have c45 := (ekI e44).trans c38
  have c46 := (elI e44).trans c39
  have c47 := (epI e44).trans c40
  refine J_aload_n 0 dX12_factsOf_96 rfl rfl ?_
  refine J_gP 11 22 dX12_factsOf_97 (kq c45 g24) flX12_49 rfl (congrFun (congrFun c47 v0) 22) ?_
  refine J_iconst (2 : Int32) dX12_factsOf_100 kc_2 ?_
  refine J_iload dX12_factsOf_101 rfl ?_
  obtain ⟨g48, H⟩ := gd H
  obtain ⟨h49, e50, H⟩ := lt_el H
  refine J_sI dX12_factsOf_103 (kq c45 g34) (lq c46 g48) e50 ?_
  have c51 := (ekI e50).trans c45
  have c52 := (elI e50).trans c46
  have c53 := (epI e50).trans c47
  refine J_aload_n 0 dX12_factsOf_104 rfl rfl ?_
  refine J_gP 11 22 dX12_factsOf_105 (kq c51 g24) flX12_49 rfl (congrFun (congrFun c53 v0) 22) ?_
  refine J_iconst (3 : Int32) dX12_factsOf_108 kc_3 ?_
  refine J_iload_n 2 dX12_factsOf_109 rfl rfl ?_
  obtain ⟨g54, H⟩ := gd H
  obtain ⟨h55, e56, H⟩ := lt_el H
  refine J_sI dX12_factsOf_110 (kq c51 g34) (lq c52 g54) e56 ?_
  have c57 := (ekI e56).trans c51
  have c58 := (elI e56).trans c52
  have c59 := (epI e56).trans c53
  refine J_aload_n 0 dX12_factsOf_111 rfl rfl ?_
  refine J_gP 11 22 dX12_factsOf_112 (kq c57 g24) flX12_49 rfl (congrFun (congrFun c59 v0) 22) ?_
  refine J_iconst (4 : Int32) dX12_factsOf_115 kc_4 ?_
  refine J_iconst (0 : Int32) dX12_factsOf_116 kc_0 ?_
  obtain ⟨g60, H⟩ := gd H
  obtain ⟨h61, e62, H⟩ := lt_el H
  refine J_sI dX12_factsOf_117 (kq c57 g34) (lq c58 g60) e62 ?_
  have c63 := (ekI e62).trans c57
  have c64 := (elI e62).trans c58
  have c65 := (epI e62).trans c59
  refine J_aload_n 0 dX12_factsOf_118 rfl rfl ?_
  refine J_gP 11 22 dX12_factsOf_119 (kq c63 g24) flX12_49 rfl (congrFun (congrFun c65 v0) 22) ?_
  refine J_iconst (5 : Int32) dX12_factsOf_122 kc_5 ?_
  refine J_bipush (99 : Int32) dX12_factsOf_123 kb_99 ?_
  obtain ⟨g66, H⟩ := gd H
  obtain ⟨h67, e68, H⟩ := lt_el H
  refine J_sI dX12_factsOf_125 (kq c63 g34) (lq c64 g66) e68 ?_
  have c69 := (ekI e68).trans c63
  have c70 := (elI e68).trans c64
  have c71 := (epI e68).trans c65
  cases H
  exact J_ret dX12_factsOf_126 rfl
noncomputable def MX12_factsOf_43 (h : Hp) (v0 : Nat) (v2 : Int32) (v3 : Int32) (v4 : Int32) (s0 : Nat) (s1 : Int32) (s2 : Int32) : Option Hp :=
  gg (β := Hp) (kd h s0 = 22) <|
  gg (β := Hp) (inB s1 (ln h s0) = true) <|
  lt (α := Hp) (β := Option Hp) (sI h s0 s1.toNatClampNeg (vp_nar .boolean s2)) fun (h10 : Hp) =>
  gg (β := Hp) (kd h v0 = 11) <|
  if v2 ≤ v4 then
    MX12_factsOf_60 h10 v0 v2 v3 v4 (gP h v0 21) (1 : Int32) (0 : Int32)
  else
    MX12_factsOf_60 h10 v0 v2 v3 v4 (gP h v0 21) (1 : Int32) (1 : Int32)
set_option maxRecDepth 100000 in
set_option maxHeartbeats 8000000 in
theorem kX12_factsOf_43 {d : Nat} {h : Hp} {v0 : Nat} {v2 : Int32} {v3 : Int32} {v4 : Int32} {s0 : Nat} {s1 : Int32} {s2 : Int32} {h9 : Hp} (H : MX12_factsOf_43 h v0 v2 v3 v4 s0 s1 s2 = some h9) : J (d + 1) YX12_factsOf 43 [.ref v0, Value.null, .int v2, .int v3, .int v4] [.int s2, .int s1, .ref s0] h oV h9 := by
  unfold MX12_factsOf_43 at H
  obtain ⟨g8, H⟩ := gd H
  obtain ⟨g9, H⟩ := gd H
  obtain ⟨h10, e11, H⟩ := lt_el H
  refine J_sZ dX12_factsOf_43 g8 (inB_ok g9) e11 ?_
  have c12 := ekI e11
  have c13 := elI e11
  have c14 := epI e11
  refine J_aload_n 0 dX12_factsOf_44 rfl rfl ?_
  obtain ⟨g15, H⟩ := gd H
  refine J_gP 11 21 dX12_factsOf_45 (kq c12 g15) flX12_45 rfl (congrFun (congrFun c14 v0) 21) ?_
  refine J_iconst (1 : Int32) dX12_factsOf_48 kc_1 ?_
  refine J_iload_n 2 dX12_factsOf_49 rfl rfl ?_
  refine J_iload dX12_factsOf_50 rfl ?_
  refine J_icmp_le 59 dX12_factsOf_52 rfl (fun q16 => ?_) (fun q16 => ?_)
  · replace H := br1 q16 H
    refine J_iconst (0 : Int32) dX12_factsOf_59 kc_0 ?_
    exact J_dr (kX12_factsOf_60 H ) ⟨rfl, ⟨rfl, ⟨rfl, ⟨rfl, trivial⟩⟩⟩⟩
  · replace H := br0 q16 H
    refine J_iconst (1 : Int32) dX12_factsOf_55 kc_1 ?_
    refine J_goto 60 dX12_factsOf_56 rfl ?_
    exact J_dr (kX12_factsOf_60 H ) ⟨rfl, ⟨rfl, ⟨rfl, ⟨rfl, trivial⟩⟩⟩⟩
noncomputable def MX12_factsOf (h : Hp) (v0 : Nat) (v1 : Int32) (v2 : Int32) : Option Hp :=
  Option.bind (α := Int32) (β := Hp) (MX12_part0 h v1) fun (t2 : Int32) =>
  gg (β := Hp) (kd h v0 = 11) <|
  gg (β := Hp) (kd h (gP h v0 1) = 20) <|
  gg (β := Hp) (inB ((90 : Int32) + (v1 / (5 : Int32))) (ln h (gP h v0 1)) = true) <|
  gg (β := Hp) (inB ((70 : Int32) + (v1 / (5 : Int32))) (ln h (gP h v0 1)) = true) <|
  if (gI h (gP h v0 1) ((70 : Int32) + (v1 / (5 : Int32))).toNatClampNeg) = (1 : Int32) then
    MX12_factsOf_43 h v0 v2 t2 (gI h (gP h v0 1) ((90 : Int32) + (v1 / (5 : Int32))).toNatClampNeg) (gP h v0 21) (0 : Int32) (1 : Int32)
  else
    MX12_factsOf_43 h v0 v2 t2 (gI h (gP h v0 1) ((90 : Int32) + (v1 / (5 : Int32))).toNatClampNeg) (gP h v0 21) (0 : Int32) (0 : Int32)
set_option maxRecDepth 100000 in
set_option maxHeartbeats 8000000 in
theorem eX12_factsOf {d : Nat} {h : Hp} {v0 : Nat} {v1 : Int32} {v2 : Int32} {h9 : Hp} (H : MX12_factsOf h v0 v1 v2 = some h9) : J (d + 1) YX12_factsOf 0 [.ref v0, .int v1, .int v2, Value.null, Value.null] [] h oV h9 := by
  unfold MX12_factsOf at H
  refine J_iload_n 1 dX12_factsOf_0 rfl rfl ?_
  obtain ⟨t2, e1, H⟩ := bd H
  refine J_cS (as := [.int v1]) YX12_part0 1 dX12_factsOf_1 moX12_part0 msX12_part0 mlX12_164 (okX12_part0 (d := d) e1) rfl rfl [] rfl rfl (st2 := [.int t2]) rfl ?_
  refine J_istore_n 3 dX12_factsOf_4 rfl (by decide) (ls' := [.ref v0, .int v1, .int v2, .int t2, Value.null]) rfl ?_
  refine J_aload_n 0 dX12_factsOf_5 rfl rfl ?_
  obtain ⟨g3, H⟩ := gd H
  refine J_gP 11 1 dX12_factsOf_6 g3 flX12_8 rfl rfl ?_
  refine J_bipush (90 : Int32) dX12_factsOf_9 kb_90 ?_
  refine J_iload_n 1 dX12_factsOf_11 rfl rfl ?_
  refine J_iconst (5 : Int32) dX12_factsOf_12 kc_5 ?_
  refine J_idiv dX12_factsOf_13 (by decide) ?_
  refine J_iadd dX12_factsOf_14 ?_
  obtain ⟨g4, H⟩ := gd H
  obtain ⟨g5, H⟩ := gd H
  refine J_iald dX12_factsOf_15 g4 (inB_ok g5) ?_
  refine J_istore dX12_factsOf_16 (by decide) (ls' := [.ref v0, .int v1, .int v2, .int t2, .int (gI h (gP h v0 1) ((90 : Int32) + (v1 / (5 : Int32))).toNatClampNeg)]) rfl ?_
  refine J_aload_n 0 dX12_factsOf_18 rfl rfl ?_
  refine J_gP 11 21 dX12_factsOf_19 g3 flX12_45 rfl rfl ?_
  refine J_iconst (0 : Int32) dX12_factsOf_22 kc_0 ?_
  refine J_aload_n 0 dX12_factsOf_23 rfl rfl ?_
  refine J_gP 11 1 dX12_factsOf_24 g3 flX12_8 rfl rfl ?_
  refine J_bipush (70 : Int32) dX12_factsOf_27 kb_70 ?_
  refine J_iload_n 1 dX12_factsOf_29 rfl rfl ?_
  refine J_iconst (5 : Int32) dX12_factsOf_30 kc_5 ?_
  refine J_idiv dX12_factsOf_31 (by decide) ?_
  refine J_iadd dX12_factsOf_32 ?_
  obtain ⟨g6, H⟩ := gd H
  refine J_iald dX12_factsOf_33 g4 (inB_ok g6) ?_
  refine J_iconst (1 : Int32) dX12_factsOf_34 kc_1 ?_
  refine J_icmp_ne 42 dX12_factsOf_35 rfl (fun q7 => ?_) (fun q7 => ?_)
  · replace H := br0 q7 H
    refine J_iconst (0 : Int32) dX12_factsOf_42 kc_0 ?_
    exact J_dr (kX12_factsOf_43 H ) ⟨rfl, ⟨rfl, ⟨rfl, ⟨rfl, trivial⟩⟩⟩⟩
  · replace H := br1 q7 H
    refine J_iconst (1 : Int32) dX12_factsOf_38 kc_1 ?_
    refine J_goto 43 dX12_factsOf_39 rfl ?_
    exact J_dr (kX12_factsOf_43 H ) ⟨rfl, ⟨rfl, ⟨rfl, ⟨rfl, trivial⟩⟩⟩⟩
theorem okX12_factsOf {d : Nat} {h : Hp} {v0 : Nat} {v1 : Int32} {v2 : Int32} {h9 : Hp} (H : MX12_factsOf h v0 v1 v2 = some h9) : CT (d + 1) YX12_factsOf [.ref v0, .int v1, .int v2] h oV h9 := CT_of (by decide +kernel) (Nat.le_of_ble_eq_true rfl) (eX12_factsOf H)
noncomputable def MX12_holds_360 (h : Hp) (v0 : Nat) : Option (Int32 × Hp) :=
  gg (β := (Int32 × Hp)) (kd h v0 = 11) <|
  gg (β := (Int32 × Hp)) (kd h (gP h v0 23) = 22) <|
  gg (β := (Int32 × Hp)) (inB (0 : Int32) (ln h (gP h v0 23)) = true) <|
  gg (β := (Int32 × Hp)) (zOk (gI h (gP h v0 23) (0 : Int32).toNatClampNeg) = true) <|
  some ((gI h (gP h v0 23) (0 : Int32).toNatClampNeg), h)
set_option maxRecDepth 100000 in
set_option maxHeartbeats 8000000 in
theorem kX12_holds_360 {d : Nat} {h : Hp} {v0 : Nat} {r : Int32} {h9 : Hp} (H : MX12_holds_360 h v0 = some (r, h9)) : J (d) YX12_holds 360 [.ref v0, Value.null, Value.null, Value.null, Value.null, Value.null, Value.null, Value.null, Value.null] [] h (oI r) h9 := by
  unfold MX12_holds_360 at H
  refine J_aload_n 0 dX12_holds_360 rfl rfl ?_
  obtain ⟨g16, H⟩ := gd H
  refine J_gP 11 23 dX12_holds_361 g16 flX12_52 rfl rfl ?_
  refine J_iconst (0 : Int32) dX12_holds_364 kc_0 ?_
  obtain ⟨g17, H⟩ := gd H
  obtain ⟨g18, H⟩ := gd H
  refine J_zald dX12_holds_365 g17 (inB_ok g18) ?_
  obtain ⟨g19, H⟩ := gd H
  cases H
  exact J_rZ dX12_holds_366 rfl g19
noncomputable def MX12_holds_203 (h : Hp) (v0 : Nat) (v1 : Int32) (v3 : Int32) (v4 : Int32) (v5 : Int32) (s0 : Nat) (s1 : Int32) (s2 : Int32) : Option ((Int32 × Hp) ⊕ (Int32 × Hp)) :=
  gg (β := ((Int32 × Hp) ⊕ (Int32 × Hp))) (kd h s0 = 22) <|
  gg (β := ((Int32 × Hp) ⊕ (Int32 × Hp))) (inB s1 (ln h s0) = true) <|
  lt (α := Hp) (β := Option ((Int32 × Hp) ⊕ (Int32 × Hp))) (sI h s0 s1.toNatClampNeg (vp_nar .boolean s2)) fun (h37 : Hp) =>
  gg (β := ((Int32 × Hp) ⊕ (Int32 × Hp))) (kd h v0 = 11) <|
  lt (α := Hp) (β := Option ((Int32 × Hp) ⊕ (Int32 × Hp))) (sI h37 v0 24 ((gI h37 v0 24) + (1 : Int32))) fun (h43 : Hp) =>
  some (.inl ((v5 + (3 : Int32)), h43))
set_option maxRecDepth 100000 in
set_option maxHeartbeats 8000000 in
theorem kX12_holds_203 {d : Nat} {h : Hp} {v0 : Nat} {v1 : Int32} {v3 : Int32} {v4 : Int32} {v5 : Int32} {s0 : Nat} {s1 : Int32} {s2 : Int32} {r : Int32} {h9 : Hp} {x : ((Int32 × Hp) ⊕ (Int32 × Hp))} (H : MX12_holds_203 h v0 v1 v3 v4 v5 s0 s1 s2 = some x) (hb0 : ∀ s : Int32 × Hp, x = .inl s → J (d) YX12_holds 46 [.ref v0, .int v1, Value.null, .int v3, .int v4, .int s.1, Value.null, Value.null, Value.null] [] s.2 (oI r) h9) (hx : ∀ z : (Int32 × Hp), x = .inr (z) → z = (r, h9)) : J (d) YX12_holds 203 [.ref v0, .int v1, Value.null, .int v3, .int v4, .int v5, Value.null, Value.null, Value.null] [.int s2, .int s1, .ref s0] h (oI r) h9 := by
  unfold MX12_holds_203 at H
  obtain ⟨g35, H⟩ := gd H
  obtain ⟨g36, H⟩ := gd H
  obtain ⟨h37, e38, H⟩ := lt_el H
  refine J_sZ dX12_holds_203 g35 (inB_ok g36) e38 ?_
  have c39 := ekI e38
  have c40 := elI e38
  have c41 := epI e38
  refine J_aload_n 0 dX12_holds_204 rfl rfl ?_
  refine J_dup dX12_holds_205 rfl ?_
  obtain ⟨g42, H⟩ := gd H
  refine J_getI 11 24 dX12_holds_206 (kq c39 g42) flX12_274 rfl ?_
  refine J_iconst (1 : Int32) dX12_holds_209 kc_1 ?_
  refine J_iadd dX12_holds_210 ?_
  obtain ⟨h43, e44, H⟩ := lt_el H
  refine J_pI 11 24 dX12_holds_211 (kq c39 g42) flX12_274 rfl rfl e44 ?_
  have c45 := (ekI e44).trans c39
  have c46 := (elI e44).trans c40
  have c47 := (epI e44).trans c41
  refine J_iinc (v5 + (3 : Int32)) dX12_holds_214 rfl (congrArg (HAdd.hAdd v5) kc_3) (by decide) (ls' := [.ref v0, .int v1, Value.null, .int v3, .int v4, .int (v5 + (3 : Int32)), Value.null, Value.null, Value.null]) rfl ?_
  refine J_goto 357 dX12_holds_217 rfl ?_
  refine J_goto 46 dX12_holds_357 rfl ?_
  cases H
  exact J_dr (hb0 _ rfl) ⟨rfl, ⟨rfl, ⟨rfl, ⟨rfl, ⟨rfl, trivial⟩⟩⟩⟩⟩
noncomputable def MX12_holds_127 (h : Hp) (v0 : Nat) (v1 : Int32) (v3 : Int32) (v4 : Int32) (v5 : Int32) (v6 : Int32) : Option ((Int32 × Hp) ⊕ (Int32 × Hp)) :=
  gg (β := ((Int32 × Hp) ⊕ (Int32 × Hp))) (kd h v0 = 11) <|
  gg (β := ((Int32 × Hp) ⊕ (Int32 × Hp))) (kd h (gP h v0 1) = 20) <|
  gg (β := ((Int32 × Hp) ⊕ (Int32 × Hp))) (inB (((v1 + v3) + v5) + (1 : Int32)) (ln h (gP h v0 1)) = true) <|
  gg (β := ((Int32 × Hp) ⊕ (Int32 × Hp))) (kd h (gP h v0 22) = 20) <|
  gg (β := ((Int32 × Hp) ⊕ (Int32 × Hp))) (inB (gI h (gP h v0 1) (((v1 + v3) + v5) + (1 : Int32)).toNatClampNeg) (ln h (gP h v0 22)) = true) <|
  lt (α := Int32) (β := Option ((Int32 × Hp) ⊕ (Int32 × Hp))) (gI h (gP h v0 22) (gI h (gP h v0 1) (((v1 + v3) + v5) + (1 : Int32)).toNatClampNeg).toNatClampNeg) fun (w30 : Int32) =>
  gg (β := ((Int32 × Hp) ⊕ (Int32 × Hp))) (inB (((v1 + v3) + v5) + (2 : Int32)) (ln h (gP h v0 1)) = true) <|
  if v6 = (2 : Int32) then
    if (gI h (gP h v0 1) (((v1 + v3) + v5) + (2 : Int32)).toNatClampNeg) ≤ w30 then
      MX12_holds_203 h v0 v1 v3 v4 v5 (gP h v0 23) (gI h v0 24) (0 : Int32)
    else
      MX12_holds_203 h v0 v1 v3 v4 v5 (gP h v0 23) (gI h v0 24) (1 : Int32)
  else
    if w30 ≤ (gI h (gP h v0 1) (((v1 + v3) + v5) + (2 : Int32)).toNatClampNeg) then
      MX12_holds_203 h v0 v1 v3 v4 v5 (gP h v0 23) (gI h v0 24) (0 : Int32)
    else
      MX12_holds_203 h v0 v1 v3 v4 v5 (gP h v0 23) (gI h v0 24) (1 : Int32)
set_option maxRecDepth 100000 in
set_option maxHeartbeats 8000000 in
theorem kX12_holds_127 {d : Nat} {h : Hp} {v0 : Nat} {v1 : Int32} {v3 : Int32} {v4 : Int32} {v5 : Int32} {v6 : Int32} {r : Int32} {h9 : Hp} {x : ((Int32 × Hp) ⊕ (Int32 × Hp))} (H : MX12_holds_127 h v0 v1 v3 v4 v5 v6 = some x) (hb0 : ∀ s : Int32 × Hp, x = .inl s → J (d) YX12_holds 46 [.ref v0, .int v1, Value.null, .int v3, .int v4, .int s.1, Value.null, Value.null, Value.null] [] s.2 (oI r) h9) (hx : ∀ z : (Int32 × Hp), x = .inr (z) → z = (r, h9)) : J (d) YX12_holds 127 [.ref v0, .int v1, Value.null, .int v3, .int v4, .int v5, .int v6, Value.null, Value.null] [] h (oI r) h9 := by
  unfold MX12_holds_127 at H
  refine J_aload_n 0 dX12_holds_127 rfl rfl ?_
  obtain ⟨g25, H⟩ := gd H
  refine J_gP 11 22 dX12_holds_128 g25 flX12_49 rfl rfl ?_
  refine J_aload_n 0 dX12_holds_131 rfl rfl ?_
  refine J_gP 11 1 dX12_holds_132 g25 flX12_8 rfl rfl ?_
  refine J_iload_n 1 dX12_holds_135 rfl rfl ?_
  refine J_iload_n 3 dX12_holds_136 rfl rfl ?_
  refine J_iadd dX12_holds_137 ?_
  refine J_iload dX12_holds_138 rfl ?_
  refine J_iadd dX12_holds_140 ?_
  refine J_iconst (1 : Int32) dX12_holds_141 kc_1 ?_
  refine J_iadd dX12_holds_142 ?_
  obtain ⟨g26, H⟩ := gd H
  obtain ⟨g27, H⟩ := gd H
  refine J_iald dX12_holds_143 g26 (inB_ok g27) ?_
  obtain ⟨g28, H⟩ := gd H
  obtain ⟨g29, H⟩ := gd H
  refine J_iald dX12_holds_144 g28 (inB_ok g29) ?_
  obtain ⟨w30, e31, H⟩ := lt_el H
  refine J_nmI e31 ?_
  refine J_istore dX12_holds_145 (by decide) (ls' := [.ref v0, .int v1, Value.null, .int v3, .int v4, .int v5, .int v6, .int w30, Value.null]) rfl ?_
  refine J_aload_n 0 dX12_holds_147 rfl rfl ?_
  refine J_gP 11 1 dX12_holds_148 g25 flX12_8 rfl rfl ?_
  refine J_iload_n 1 dX12_holds_151 rfl rfl ?_
  refine J_iload_n 3 dX12_holds_152 rfl rfl ?_
  refine J_iadd dX12_holds_153 ?_
  refine J_iload dX12_holds_154 rfl ?_
  refine J_iadd dX12_holds_156 ?_
  refine J_iconst (2 : Int32) dX12_holds_157 kc_2 ?_
  refine J_iadd dX12_holds_158 ?_
  obtain ⟨g32, H⟩ := gd H
  refine J_iald dX12_holds_159 g26 (inB_ok g32) ?_
  refine J_istore dX12_holds_160 (by decide) (ls' := [.ref v0, .int v1, Value.null, .int v3, .int v4, .int v5, .int v6, .int w30, .int (gI h (gP h v0 1) (((v1 + v3) + v5) + (2 : Int32)).toNatClampNeg)]) rfl ?_
  refine J_aload_n 0 dX12_holds_162 rfl rfl ?_
  refine J_gP 11 23 dX12_holds_163 g25 flX12_52 rfl rfl ?_
  refine J_aload_n 0 dX12_holds_166 rfl rfl ?_
  refine J_getI 11 24 dX12_holds_167 g25 flX12_274 rfl ?_
  refine J_iload dX12_holds_170 rfl ?_
  refine J_iconst (2 : Int32) dX12_holds_172 kc_2 ?_
  refine J_icmp_ne 191 dX12_holds_173 rfl (fun q33 => ?_) (fun q33 => ?_)
  · replace H := br0 q33 H
    refine J_iload dX12_holds_191 rfl ?_
    refine J_iload dX12_holds_193 rfl ?_
    refine J_icmp_le 202 dX12_holds_195 rfl (fun q34 => ?_) (fun q34 => ?_)
    · replace H := br1 q34 H
      refine J_iconst (0 : Int32) dX12_holds_202 kc_0 ?_
      exact J_dr (kX12_holds_203 H hb0 hx) ⟨rfl, ⟨rfl, ⟨rfl, ⟨rfl, ⟨rfl, trivial⟩⟩⟩⟩⟩
    · replace H := br0 q34 H
      refine J_iconst (1 : Int32) dX12_holds_198 kc_1 ?_
      refine J_goto 203 dX12_holds_199 rfl ?_
      exact J_dr (kX12_holds_203 H hb0 hx) ⟨rfl, ⟨rfl, ⟨rfl, ⟨rfl, ⟨rfl, trivial⟩⟩⟩⟩⟩
  · replace H := br1 q33 H
    refine J_iload dX12_holds_176 rfl ?_
    refine J_iload dX12_holds_178 rfl ?_
    refine J_icmp_ge 187 dX12_holds_180 rfl (fun q48 => ?_) (fun q48 => ?_)
    · replace H := br1 q48 H
      refine J_iconst (0 : Int32) dX12_holds_187 kc_0 ?_
      refine J_goto 203 dX12_holds_188 rfl ?_
      exact J_dr (kX12_holds_203 H hb0 hx) ⟨rfl, ⟨rfl, ⟨rfl, ⟨rfl, ⟨rfl, trivial⟩⟩⟩⟩⟩
    · replace H := br0 q48 H
      refine J_iconst (1 : Int32) dX12_holds_183 kc_1 ?_
      refine J_goto 203 dX12_holds_184 rfl ?_
      exact J_dr (kX12_holds_203 H hb0 hx) ⟨rfl, ⟨rfl, ⟨rfl, ⟨rfl, ⟨rfl, trivial⟩⟩⟩⟩⟩
noncomputable def MX12_holds_353 (h : Hp) (v0 : Nat) (v1 : Int32) (v3 : Int32) (v4 : Int32) (v5 : Int32) (s0 : Nat) (s1 : Int32) (s2 : Int32) : Option ((Int32 × Hp) ⊕ (Int32 × Hp)) :=
  gg (β := ((Int32 × Hp) ⊕ (Int32 × Hp))) (kd h s0 = 22) <|
  gg (β := ((Int32 × Hp) ⊕ (Int32 × Hp))) (inB s1 (ln h s0) = true) <|
  lt (α := Hp) (β := Option ((Int32 × Hp) ⊕ (Int32 × Hp))) (sI h s0 s1.toNatClampNeg (vp_nar .boolean s2)) fun (h62 : Hp) =>
  some (.inl ((v5 + (1 : Int32)), h62))
set_option maxRecDepth 100000 in
set_option maxHeartbeats 8000000 in
theorem kX12_holds_353 {d : Nat} {h : Hp} {v0 : Nat} {v1 : Int32} {v3 : Int32} {v4 : Int32} {v5 : Int32} {s0 : Nat} {s1 : Int32} {s2 : Int32} {r : Int32} {h9 : Hp} {x : ((Int32 × Hp) ⊕ (Int32 × Hp))} (H : MX12_holds_353 h v0 v1 v3 v4 v5 s0 s1 s2 = some x) (hb0 : ∀ s : Int32 × Hp, x = .inl s → J (d) YX12_holds 46 [.ref v0, .int v1, Value.null, .int v3, .int v4, .int s.1, Value.null, Value.null, Value.null] [] s.2 (oI r) h9) (hx : ∀ z : (Int32 × Hp), x = .inr (z) → z = (r, h9)) : J (d) YX12_holds 353 [.ref v0, .int v1, Value.null, .int v3, .int v4, .int v5, Value.null, Value.null, Value.null] [.int s2, .int s1, .ref s0] h (oI r) h9 := by
  unfold MX12_holds_353 at H
  obtain ⟨g60, H⟩ := gd H
  obtain ⟨g61, H⟩ := gd H
  obtain ⟨h62, e63, H⟩ := lt_el H
  refine J_sZ dX12_holds_353 g60 (inB_ok g61) e63 ?_
  have c64 := ekI e63
  have c65 := elI e63
  have c66 := epI e63
  refine J_iinc (v5 + (1 : Int32)) dX12_holds_354 rfl (congrArg (HAdd.hAdd v5) kc_1) (by decide) (ls' := [.ref v0, .int v1, Value.null, .int v3, .int v4, .int (v5 + (1 : Int32)), Value.null, Value.null, Value.null]) rfl ?_
  refine J_goto 46 dX12_holds_357 rfl ?_
  cases H
  exact J_dr (hb0 _ rfl) ⟨rfl, ⟨rfl, ⟨rfl, ⟨rfl, ⟨rfl, trivial⟩⟩⟩⟩⟩
noncomputable def MX12_holds_348 (h : Hp) (v0 : Nat) (v1 : Int32) (v3 : Int32) (v4 : Int32) (v5 : Int32) (s0 : Nat) (s1 : Int32) : Option ((Int32 × Hp) ⊕ (Int32 × Hp)) :=
  MX12_holds_353 h v0 v1 v3 v4 v5 s0 s1 (1 : Int32)
set_option maxRecDepth 100000 in
set_option maxHeartbeats 8000000 in
theorem kX12_holds_348 {d : Nat} {h : Hp} {v0 : Nat} {v1 : Int32} {v3 : Int32} {v4 : Int32} {v5 : Int32} {s0 : Nat} {s1 : Int32} {r : Int32} {h9 : Hp} {x : ((Int32 × Hp) ⊕ (Int32 × Hp))} (H : MX12_holds_348 h v0 v1 v3 v4 v5 s0 s1 = some x) (hb0 : ∀ s : Int32 × Hp, x = .inl s → J (d) YX12_holds 46 [.ref v0, .int v1, Value.null, .int v3, .int v4, .int s.1, Value.null, Value.null, Value.null] [] s.2 (oI r) h9) (hx : ∀ z : (Int32 × Hp), x = .inr (z) → z = (r, h9)) : J (d) YX12_holds 348 [.ref v0, .int v1, Value.null, .int v3, .int v4, .int v5, Value.null, Value.null, Value.null] [.int s1, .ref s0] h (oI r) h9 := by
  unfold MX12_holds_348 at H
  refine J_iconst (1 : Int32) dX12_holds_348 kc_1 ?_
  refine J_goto 353 dX12_holds_349 rfl ?_
  exact J_dr (kX12_holds_353 H hb0 hx) ⟨rfl, ⟨rfl, ⟨rfl, ⟨rfl, ⟨rfl, trivial⟩⟩⟩⟩⟩
noncomputable def MX12_holds_318 (h : Hp) (v0 : Nat) (v1 : Int32) (v3 : Int32) (v4 : Int32) (v5 : Int32) (s0 : Nat) (s1 : Int32) : Option ((Int32 × Hp) ⊕ (Int32 × Hp)) :=
  MX12_holds_353 h v0 v1 v3 v4 v5 s0 s1 (0 : Int32)
set_option maxRecDepth 100000 in
set_option maxHeartbeats 8000000 in
theorem kX12_holds_318 {d : Nat} {h : Hp} {v0 : Nat} {v1 : Int32} {v3 : Int32} {v4 : Int32} {v5 : Int32} {s0 : Nat} {s1 : Int32} {r : Int32} {h9 : Hp} {x : ((Int32 × Hp) ⊕ (Int32 × Hp))} (H : MX12_holds_318 h v0 v1 v3 v4 v5 s0 s1 = some x) (hb0 : ∀ s : Int32 × Hp, x = .inl s → J (d) YX12_holds 46 [.ref v0, .int v1, Value.null, .int v3, .int v4, .int s.1, Value.null, Value.null, Value.null] [] s.2 (oI r) h9) (hx : ∀ z : (Int32 × Hp), x = .inr (z) → z = (r, h9)) : J (d) YX12_holds 318 [.ref v0, .int v1, Value.null, .int v3, .int v4, .int v5, Value.null, Value.null, Value.null] [.int s1, .ref s0] h (oI r) h9 := by
  unfold MX12_holds_318 at H
  refine J_iconst (0 : Int32) dX12_holds_318 kc_0 ?_
  refine J_goto 353 dX12_holds_319 rfl ?_
  exact J_dr (kX12_holds_353 H hb0 hx) ⟨rfl, ⟨rfl, ⟨rfl, ⟨rfl, ⟨rfl, trivial⟩⟩⟩⟩⟩
noncomputable def MX12_holds_255 (h : Hp) (v0 : Nat) (v1 : Int32) (v3 : Int32) (v4 : Int32) (v5 : Int32) (s0 : Nat) (s1 : Int32) (s2 : Int32) : Option ((Int32 × Hp) ⊕ (Int32 × Hp)) :=
  gg (β := ((Int32 × Hp) ⊕ (Int32 × Hp))) (kd h s0 = 22) <|
  gg (β := ((Int32 × Hp) ⊕ (Int32 × Hp))) (inB s1 (ln h s0) = true) <|
  lt (α := Hp) (β := Option ((Int32 × Hp) ⊕ (Int32 × Hp))) (sI h s0 s1.toNatClampNeg (vp_nar .boolean s2)) fun (h79 : Hp) =>
  some (.inl ((v5 + (1 : Int32)), h79))
set_option maxRecDepth 100000 in
set_option maxHeartbeats 8000000 in
theorem kX12_holds_255 {d : Nat} {h : Hp} {v0 : Nat} {v1 : Int32} {v3 : Int32} {v4 : Int32} {v5 : Int32} {s0 : Nat} {s1 : Int32} {s2 : Int32} {r : Int32} {h9 : Hp} {x : ((Int32 × Hp) ⊕ (Int32 × Hp))} (H : MX12_holds_255 h v0 v1 v3 v4 v5 s0 s1 s2 = some x) (hb0 : ∀ s : Int32 × Hp, x = .inl s → J (d) YX12_holds 46 [.ref v0, .int v1, Value.null, .int v3, .int v4, .int s.1, Value.null, Value.null, Value.null] [] s.2 (oI r) h9) (hx : ∀ z : (Int32 × Hp), x = .inr (z) → z = (r, h9)) : J (d) YX12_holds 255 [.ref v0, .int v1, Value.null, .int v3, .int v4, .int v5, Value.null, Value.null, Value.null] [.int s2, .int s1, .ref s0] h (oI r) h9 := by
  unfold MX12_holds_255 at H
  obtain ⟨g77, H⟩ := gd H
  obtain ⟨g78, H⟩ := gd H
  obtain ⟨h79, e80, H⟩ := lt_el H
  refine J_sZ dX12_holds_255 g77 (inB_ok g78) e80 ?_
  have c81 := ekI e80
  have c82 := elI e80
  have c83 := epI e80
  refine J_iinc (v5 + (1 : Int32)) dX12_holds_256 rfl (congrArg (HAdd.hAdd v5) kc_1) (by decide) (ls' := [.ref v0, .int v1, Value.null, .int v3, .int v4, .int (v5 + (1 : Int32)), Value.null, Value.null, Value.null]) rfl ?_
  refine J_goto 357 dX12_holds_259 rfl ?_
  refine J_goto 46 dX12_holds_357 rfl ?_
  cases H
  exact J_dr (hb0 _ rfl) ⟨rfl, ⟨rfl, ⟨rfl, ⟨rfl, ⟨rfl, trivial⟩⟩⟩⟩⟩
noncomputable def BX12_holds_46 (h : Hp) (v0 : Nat) (v1 : Int32) (v3 : Int32) (v4 : Int32) (v5 : Int32) : Option ((Int32 × Hp) ⊕ (Int32 × Hp)) :=
  if v4 ≤ v5 then
    up1 (MX12_holds_360 h v0)
  else
    gg (β := ((Int32 × Hp) ⊕ (Int32 × Hp))) (kd h v0 = 11) <|
    gg (β := ((Int32 × Hp) ⊕ (Int32 × Hp))) (kd h (gP h v0 1) = 20) <|
    gg (β := ((Int32 × Hp) ⊕ (Int32 × Hp))) (inB ((v1 + v3) + v5) (ln h (gP h v0 1)) = true) <|
    if (gI h (gP h v0 1) ((v1 + v3) + v5).toNatClampNeg) = (1 : Int32) then
      gg (β := ((Int32 × Hp) ⊕ (Int32 × Hp))) (inB (((v1 + v3) + v5) + (1 : Int32)) (ln h (gP h v0 1)) = true) <|
      gg (β := ((Int32 × Hp) ⊕ (Int32 × Hp))) (kd h (gP h v0 21) = 22) <|
      gg (β := ((Int32 × Hp) ⊕ (Int32 × Hp))) (inB (gI h (gP h v0 1) (((v1 + v3) + v5) + (1 : Int32)).toNatClampNeg) (ln h (gP h v0 21)) = true) <|
      gg (β := ((Int32 × Hp) ⊕ (Int32 × Hp))) (kd h (gP h v0 23) = 22) <|
      gg (β := ((Int32 × Hp) ⊕ (Int32 × Hp))) (inB (gI h v0 24) (ln h (gP h v0 23)) = true) <|
      lt (α := Hp) (β := Option ((Int32 × Hp) ⊕ (Int32 × Hp))) (sI h (gP h v0 23) (gI h v0 24).toNatClampNeg (vp_nar .boolean (gI h (gP h v0 21) (gI h (gP h v0 1) (((v1 + v3) + v5) + (1 : Int32)).toNatClampNeg).toNatClampNeg))) fun (h89 : Hp) =>
      lt (α := Hp) (β := Option ((Int32 × Hp) ⊕ (Int32 × Hp))) (sI h89 v0 24 ((gI h89 v0 24) + (1 : Int32))) fun (h94 : Hp) =>
      some (.inl ((v5 + (2 : Int32)), h94))
    else
      if (gI h (gP h v0 1) ((v1 + v3) + v5).toNatClampNeg) = (2 : Int32) then
        MX12_holds_127 h v0 v1 v3 v4 v5 (gI h (gP h v0 1) ((v1 + v3) + v5).toNatClampNeg)
      else
        if (gI h (gP h v0 1) ((v1 + v3) + v5).toNatClampNeg) = (3 : Int32) then
          MX12_holds_127 h v0 v1 v3 v4 v5 (gI h (gP h v0 1) ((v1 + v3) + v5).toNatClampNeg)
        else
          if (gI h (gP h v0 1) ((v1 + v3) + v5).toNatClampNeg) = (4 : Int32) then
            gg (β := ((Int32 × Hp) ⊕ (Int32 × Hp))) (kd h (gP h v0 23) = 22) <|
            gg (β := ((Int32 × Hp) ⊕ (Int32 × Hp))) (inB ((gI h v0 24) - (1 : Int32)) (ln h (gP h v0 23)) = true) <|
            if (gI h (gP h v0 23) ((gI h v0 24) - (1 : Int32)).toNatClampNeg) = 0 then
              MX12_holds_255 h v0 v1 v3 v4 v5 (gP h v0 23) ((gI h v0 24) - (1 : Int32)) (1 : Int32)
            else
              MX12_holds_255 h v0 v1 v3 v4 v5 (gP h v0 23) ((gI h v0 24) - (1 : Int32)) (0 : Int32)
          else
            lt (α := Hp) (β := Option ((Int32 × Hp) ⊕ (Int32 × Hp))) (sI h v0 24 ((gI h v0 24) - (1 : Int32))) fun (h51 : Hp) =>
            if (gI h (gP h v0 1) ((v1 + v3) + v5).toNatClampNeg) = (5 : Int32) then
              gg (β := ((Int32 × Hp) ⊕ (Int32 × Hp))) (kd h (gP h v0 23) = 22) <|
              gg (β := ((Int32 × Hp) ⊕ (Int32 × Hp))) (inB ((gI h51 v0 24) - (1 : Int32)) (ln h (gP h v0 23)) = true) <|
              if (gI h51 (gP h v0 23) ((gI h51 v0 24) - (1 : Int32)).toNatClampNeg) = 0 then
                MX12_holds_318 h51 v0 v1 v3 v4 v5 (gP h v0 23) ((gI h51 v0 24) - (1 : Int32))
              else
                gg (β := ((Int32 × Hp) ⊕ (Int32 × Hp))) (inB (gI h51 v0 24) (ln h (gP h v0 23)) = true) <|
                if (gI h51 (gP h v0 23) (gI h51 v0 24).toNatClampNeg) = 0 then
                  MX12_holds_318 h51 v0 v1 v3 v4 v5 (gP h v0 23) ((gI h51 v0 24) - (1 : Int32))
                else
                  MX12_holds_353 h51 v0 v1 v3 v4 v5 (gP h v0 23) ((gI h51 v0 24) - (1 : Int32)) (1 : Int32)
            else
              gg (β := ((Int32 × Hp) ⊕ (Int32 × Hp))) (kd h (gP h v0 23) = 22) <|
              gg (β := ((Int32 × Hp) ⊕ (Int32 × Hp))) (inB ((gI h51 v0 24) - (1 : Int32)) (ln h (gP h v0 23)) = true) <|
              if (gI h51 (gP h v0 23) ((gI h51 v0 24) - (1 : Int32)).toNatClampNeg) = 0 then
                gg (β := ((Int32 × Hp) ⊕ (Int32 × Hp))) (inB (gI h51 v0 24) (ln h (gP h v0 23)) = true) <|
                if (gI h51 (gP h v0 23) (gI h51 v0 24).toNatClampNeg) = 0 then
                  MX12_holds_353 h51 v0 v1 v3 v4 v5 (gP h v0 23) ((gI h51 v0 24) - (1 : Int32)) (0 : Int32)
                else
                  MX12_holds_348 h51 v0 v1 v3 v4 v5 (gP h v0 23) ((gI h51 v0 24) - (1 : Int32))
              else
                MX12_holds_348 h51 v0 v1 v3 v4 v5 (gP h v0 23) ((gI h51 v0 24) - (1 : Int32))
set_option maxRecDepth 100000 in
set_option maxHeartbeats 8000000 in
theorem bX12_holds_46 {d : Nat} {h : Hp} {v0 : Nat} {v1 : Int32} {v3 : Int32} {v4 : Int32} {v5 : Int32} {r : Int32} {h9 : Hp} {x : ((Int32 × Hp) ⊕ (Int32 × Hp))} (H : BX12_holds_46 h v0 v1 v3 v4 v5 = some x) (hb0 : ∀ s : Int32 × Hp, x = .inl s → J (d) YX12_holds 46 [.ref v0, .int v1, Value.null, .int v3, .int v4, .int s.1, Value.null, Value.null, Value.null] [] s.2 (oI r) h9) (hx : ∀ z : (Int32 × Hp), x = .inr (z) → z = (r, h9)) : J (d) YX12_holds 46 [.ref v0, .int v1, Value.null, .int v3, .int v4, .int v5, Value.null, Value.null, Value.null] [] h (oI r) h9 := by
  unfold BX12_holds_46 at H
  refine J_iload dX12_holds_46 rfl ?_
  refine J_iload dX12_holds_48 rfl ?_
  refine J_icmp_ge 360 dX12_holds_50 rfl (fun q15 => ?_) (fun q15 => ?_)
  · replace H := br1 q15 H
    obtain ⟨y0, H90, rfl⟩ := up1_el H
    replace H := H90
    obtain rfl := hx _ rfl
    exact J_dr (kX12_holds_360 H ) ⟨rfl, trivial⟩
  · replace H := br0 q15 H
    refine J_aload_n 0 dX12_holds_53 rfl rfl ?_
    obtain ⟨g20, H⟩ := gd H
    refine J_gP 11 1 dX12_holds_54 g20 flX12_8 rfl rfl ?_
    refine J_iload_n 1 dX12_holds_57 rfl rfl ?_
    refine J_iload_n 3 dX12_holds_58 rfl rfl ?_
    refine J_iadd dX12_holds_59 ?_
    refine J_iload dX12_holds_60 rfl ?_
    refine J_iadd dX12_holds_62 ?_
    obtain ⟨g21, H⟩ := gd H
    obtain ⟨g22, H⟩ := gd H
    refine J_iald dX12_holds_63 g21 (inB_ok g22) ?_
    refine J_istore dX12_holds_64 (by decide) (ls' := [.ref v0, .int v1, Value.null, .int v3, .int v4, .int v5, .int (gI h (gP h v0 1) ((v1 + v3) + v5).toNatClampNeg), Value.null, Value.null]) rfl ?_
    refine J_iload dX12_holds_66 rfl ?_
    refine J_iconst (1 : Int32) dX12_holds_68 kc_1 ?_
    refine J_icmp_ne 115 dX12_holds_69 rfl (fun q23 => ?_) (fun q23 => ?_)
    · replace H := br0 q23 H
      refine J_iload dX12_holds_115 rfl ?_
      refine J_iconst (2 : Int32) dX12_holds_117 kc_2 ?_
      refine J_icmp_eq 127 dX12_holds_118 rfl (fun q24 => ?_) (fun q24 => ?_)
      · replace H := br1 q24 H
        exact J_dr (kX12_holds_127 H hb0 hx) ⟨rfl, ⟨rfl, ⟨rfl, ⟨rfl, ⟨rfl, ⟨rfl, trivial⟩⟩⟩⟩⟩⟩
      · replace H := br0 q24 H
        refine J_iload dX12_holds_121 rfl ?_
        refine J_iconst (3 : Int32) dX12_holds_123 kc_3 ?_
        refine J_icmp_ne 220 dX12_holds_124 rfl (fun q49 => ?_) (fun q49 => ?_)
        · replace H := br0 q49 H
          refine J_iload dX12_holds_220 rfl ?_
          refine J_iconst (4 : Int32) dX12_holds_222 kc_4 ?_
          refine J_icmp_ne 262 dX12_holds_223 rfl (fun q50 => ?_) (fun q50 => ?_)
          · replace H := br0 q50 H
            refine J_aload_n 0 dX12_holds_262 rfl rfl ?_
            refine J_dup dX12_holds_263 rfl ?_
            refine J_getI 11 24 dX12_holds_264 g20 flX12_274 rfl ?_
            refine J_iconst (1 : Int32) dX12_holds_267 kc_1 ?_
            refine J_isub dX12_holds_268 ?_
            obtain ⟨h51, e52, H⟩ := lt_el H
            refine J_pI 11 24 dX12_holds_269 g20 flX12_274 rfl rfl e52 ?_
            have c53 := ekI e52
            have c54 := elI e52
            have c55 := epI e52
            refine J_aload_n 0 dX12_holds_272 rfl rfl ?_
            refine J_gP 11 23 dX12_holds_273 (kq c53 g20) flX12_52 rfl (congrFun (congrFun c55 v0) 23) ?_
            refine J_aload_n 0 dX12_holds_276 rfl rfl ?_
            refine J_getI 11 24 dX12_holds_277 (kq c53 g20) flX12_274 rfl ?_
            refine J_iconst (1 : Int32) dX12_holds_280 kc_1 ?_
            refine J_isub dX12_holds_281 ?_
            refine J_iload dX12_holds_282 rfl ?_
            refine J_iconst (5 : Int32) dX12_holds_284 kc_5 ?_
            refine J_icmp_ne 322 dX12_holds_285 rfl (fun q56 => ?_) (fun q56 => ?_)
            · replace H := br0 q56 H
              refine J_aload_n 0 dX12_holds_322 rfl rfl ?_
              refine J_gP 11 23 dX12_holds_323 (kq c53 g20) flX12_52 rfl (congrFun (congrFun c55 v0) 23) ?_
              refine J_aload_n 0 dX12_holds_326 rfl rfl ?_
              refine J_getI 11 24 dX12_holds_327 (kq c53 g20) flX12_274 rfl ?_
              refine J_iconst (1 : Int32) dX12_holds_330 kc_1 ?_
              refine J_isub dX12_holds_331 ?_
              obtain ⟨g57, H⟩ := gd H
              obtain ⟨g58, H⟩ := gd H
              refine J_zald dX12_holds_332 (kq c53 g57) (lq c54 g58) ?_
              refine J_if_ne 348 dX12_holds_333 rfl (fun q59 => ?_) (fun q59 => ?_)
              · replace H := br0 q59 H
                exact J_dr (kX12_holds_348 H hb0 hx) ⟨rfl, ⟨rfl, ⟨rfl, ⟨rfl, ⟨rfl, trivial⟩⟩⟩⟩⟩
              · replace H := br1 q59 H
                refine J_aload_n 0 dX12_holds_336 rfl rfl ?_
                refine J_gP 11 23 dX12_holds_337 (kq c53 g20) flX12_52 rfl (congrFun (congrFun c55 v0) 23) ?_
                refine J_aload_n 0 dX12_holds_340 rfl rfl ?_
                refine J_getI 11 24 dX12_holds_341 (kq c53 g20) flX12_274 rfl ?_
                obtain ⟨g67, H⟩ := gd H
                refine J_zald dX12_holds_344 (kq c53 g57) (lq c54 g67) ?_
                refine J_if_eq 352 dX12_holds_345 rfl (fun q68 => ?_) (fun q68 => ?_)
                · replace H := br1 q68 H
                  refine J_iconst (0 : Int32) dX12_holds_352 kc_0 ?_
                  exact J_dr (kX12_holds_353 H hb0 hx) ⟨rfl, ⟨rfl, ⟨rfl, ⟨rfl, ⟨rfl, trivial⟩⟩⟩⟩⟩
                · replace H := br0 q68 H
                  exact J_dr (kX12_holds_348 H hb0 hx) ⟨rfl, ⟨rfl, ⟨rfl, ⟨rfl, ⟨rfl, trivial⟩⟩⟩⟩⟩
            · replace H := br1 q56 H
              refine J_aload_n 0 dX12_holds_288 rfl rfl ?_
              refine J_gP 11 23 dX12_holds_289 (kq c53 g20) flX12_52 rfl (congrFun (congrFun c55 v0) 23) ?_
              refine J_aload_n 0 dX12_holds_292 rfl rfl ?_
              refine J_getI 11 24 dX12_holds_293 (kq c53 g20) flX12_274 rfl ?_
              refine J_iconst (1 : Int32) dX12_holds_296 kc_1 ?_
              refine J_isub dX12_holds_297 ?_
              obtain ⟨g69, H⟩ := gd H
              obtain ⟨g70, H⟩ := gd H
              refine J_zald dX12_holds_298 (kq c53 g69) (lq c54 g70) ?_
              refine J_if_eq 318 dX12_holds_299 rfl (fun q71 => ?_) (fun q71 => ?_)
              · replace H := br1 q71 H
                exact J_dr (kX12_holds_318 H hb0 hx) ⟨rfl, ⟨rfl, ⟨rfl, ⟨rfl, ⟨rfl, trivial⟩⟩⟩⟩⟩
              · replace H := br0 q71 H
                refine J_aload_n 0 dX12_holds_302 rfl rfl ?_
                refine J_gP 11 23 dX12_holds_303 (kq c53 g20) flX12_52 rfl (congrFun (congrFun c55 v0) 23) ?_
                refine J_aload_n 0 dX12_holds_306 rfl rfl ?_
                refine J_getI 11 24 dX12_holds_307 (kq c53 g20) flX12_274 rfl ?_
                obtain ⟨g72, H⟩ := gd H
                refine J_zald dX12_holds_310 (kq c53 g69) (lq c54 g72) ?_
                refine J_if_eq 318 dX12_holds_311 rfl (fun q73 => ?_) (fun q73 => ?_)
                · replace H := br1 q73 H
                  exact J_dr (kX12_holds_318 H hb0 hx) ⟨rfl, ⟨rfl, ⟨rfl, ⟨rfl, ⟨rfl, trivial⟩⟩⟩⟩⟩
                · replace H := br0 q73 H
                  refine J_iconst (1 : Int32) dX12_holds_314 kc_1 ?_
                  refine J_goto 353 dX12_holds_315 rfl ?_
                  exact J_dr (kX12_holds_353 H hb0 hx) ⟨rfl, ⟨rfl, ⟨rfl, ⟨rfl, ⟨rfl, trivial⟩⟩⟩⟩⟩
          · replace H := br1 q50 H
            refine J_aload_n 0 dX12_holds_226 rfl rfl ?_
            refine J_gP 11 23 dX12_holds_227 g20 flX12_52 rfl rfl ?_
            refine J_aload_n 0 dX12_holds_230 rfl rfl ?_
            refine J_getI 11 24 dX12_holds_231 g20 flX12_274 rfl ?_
            refine J_iconst (1 : Int32) dX12_holds_234 kc_1 ?_
            refine J_isub dX12_holds_235 ?_
            refine J_aload_n 0 dX12_holds_236 rfl rfl ?_
            refine J_gP 11 23 dX12_holds_237 g20 flX12_52 rfl rfl ?_
            refine J_aload_n 0 dX12_holds_240 rfl rfl ?_
            refine J_getI 11 24 dX12_holds_241 g20 flX12_274 rfl ?_
            refine J_iconst (1 : Int32) dX12_holds_244 kc_1 ?_
            refine J_isub dX12_holds_245 ?_
            obtain ⟨g74, H⟩ := gd H
            obtain ⟨g75, H⟩ := gd H
            refine J_zald dX12_holds_246 g74 (inB_ok g75) ?_
            refine J_if_ne 254 dX12_holds_247 rfl (fun q76 => ?_) (fun q76 => ?_)
            · replace H := br0 q76 H
              refine J_iconst (0 : Int32) dX12_holds_254 kc_0 ?_
              exact J_dr (kX12_holds_255 H hb0 hx) ⟨rfl, ⟨rfl, ⟨rfl, ⟨rfl, ⟨rfl, trivial⟩⟩⟩⟩⟩
            · replace H := br1 q76 H
              refine J_iconst (1 : Int32) dX12_holds_250 kc_1 ?_
              refine J_goto 255 dX12_holds_251 rfl ?_
              exact J_dr (kX12_holds_255 H hb0 hx) ⟨rfl, ⟨rfl, ⟨rfl, ⟨rfl, ⟨rfl, trivial⟩⟩⟩⟩⟩
        · replace H := br1 q49 H
          exact J_dr (kX12_holds_127 H hb0 hx) ⟨rfl, ⟨rfl, ⟨rfl, ⟨rfl, ⟨rfl, ⟨rfl, trivial⟩⟩⟩⟩⟩⟩
    · replace H := br1 q23 H
      refine J_aload_n 0 dX12_holds_72 rfl rfl ?_
      refine J_gP 11 23 dX12_holds_73 g20 flX12_52 rfl rfl ?_
      refine J_aload_n 0 dX12_holds_76 rfl rfl ?_
      refine J_getI 11 24 dX12_holds_77 g20 flX12_274 rfl ?_
      refine J_aload_n 0 dX12_holds_80 rfl rfl ?_
      refine J_gP 11 21 dX12_holds_81 g20 flX12_45 rfl rfl ?_
      refine J_aload_n 0 dX12_holds_84 rfl rfl ?_
      refine J_gP 11 1 dX12_holds_85 g20 flX12_8 rfl rfl ?_
      refine J_iload_n 1 dX12_holds_88 rfl rfl ?_
      refine J_iload_n 3 dX12_holds_89 rfl rfl ?_
      refine J_iadd dX12_holds_90 ?_
      refine J_iload dX12_holds_91 rfl ?_
      refine J_iadd dX12_holds_93 ?_
      refine J_iconst (1 : Int32) dX12_holds_94 kc_1 ?_
      refine J_iadd dX12_holds_95 ?_
      obtain ⟨g84, H⟩ := gd H
      refine J_iald dX12_holds_96 g21 (inB_ok g84) ?_
      obtain ⟨g85, H⟩ := gd H
      obtain ⟨g86, H⟩ := gd H
      refine J_zald dX12_holds_97 g85 (inB_ok g86) ?_
      obtain ⟨g87, H⟩ := gd H
      obtain ⟨g88, H⟩ := gd H
      obtain ⟨h89, e90, H⟩ := lt_el H
      refine J_sZ dX12_holds_98 g87 (inB_ok g88) e90 ?_
      have c91 := ekI e90
      have c92 := elI e90
      have c93 := epI e90
      refine J_aload_n 0 dX12_holds_99 rfl rfl ?_
      refine J_dup dX12_holds_100 rfl ?_
      refine J_getI 11 24 dX12_holds_101 (kq c91 g20) flX12_274 rfl ?_
      refine J_iconst (1 : Int32) dX12_holds_104 kc_1 ?_
      refine J_iadd dX12_holds_105 ?_
      obtain ⟨h94, e95, H⟩ := lt_el H
      refine J_pI 11 24 dX12_holds_106 (kq c91 g20) flX12_274 rfl rfl e95 ?_
      have c96 := (ekI e95).trans c91
      have c97 := (elI e95).trans c92
      have c98 := (epI e95).trans c93
      refine J_iinc (v5 + (2 : Int32)) dX12_holds_109 rfl (congrArg (HAdd.hAdd v5) kc_2) (by decide) (ls' := [.ref v0, .int v1, Value.null, .int v3, .int v4, .int (v5 + (2 : Int32)), .int (gI h (gP h v0 1) ((v1 + v3) + v5).toNatClampNeg), Value.null, Value.null]) rfl ?_
      refine J_goto 357 dX12_holds_112 rfl ?_
      refine J_goto 46 dX12_holds_357 rfl ?_
      cases H
      exact J_dr (hb0 _ rfl) ⟨rfl, ⟨rfl, ⟨rfl, ⟨rfl, ⟨rfl, trivial⟩⟩⟩⟩⟩
noncomputable def MX12_holds_46 (h : Hp) (v0 : Nat) (v1 : Int32) (v3 : Int32) (v4 : Int32) (v5 : Int32) : Option (Int32 × Hp) := it (fun q : Int32 × Hp => BX12_holds_46 q.2 v0 v1 v3 v4 q.1) (v5, h)
set_option maxRecDepth 100000 in
set_option maxHeartbeats 8000000 in
theorem kX12_holds_46 {d : Nat} {h : Hp} {v0 : Nat} {v1 : Int32} {v3 : Int32} {v4 : Int32} {v5 : Int32} {r : Int32} {h9 : Hp} (H : MX12_holds_46 h v0 v1 v3 v4 v5 = some (r, h9)) : J (d) YX12_holds 46 [.ref v0, .int v1, Value.null, .int v3, .int v4, .int v5, Value.null, Value.null, Value.null] [] h (oI r) h9 := by
  unfold MX12_holds_46 at H
  refine it_J (G := (fun q : Int32 × Hp => J (d) YX12_holds 46 [.ref v0, .int v1, Value.null, .int v3, .int v4, .int q.1, Value.null, Value.null, Value.null] [] q.2 (oI r) h9)) (Q := (fun y : (Int32 × Hp) => y = (r, h9))) (fun q x Hq hm => ?_) H rfl
  exact bX12_holds_46 Hq (fun s hs => by subst hs; exact hm) (fun z hz => by subst hz; exact hm)
noncomputable def MX12_holds (h : Hp) (v0 : Nat) (v1 : Int32) (v2 : Int32) : Option (Int32 × Hp) :=
  gg (β := (Int32 × Hp)) (kd h v0 = 11) <|
  gg (β := (Int32 × Hp)) (kd h (gP h v0 1) = 20) <|
  gg (β := (Int32 × Hp)) (inB (((v1 + (2 : Int32)) + ((5 : Int32) * v2)) + (3 : Int32)) (ln h (gP h v0 1)) = true) <|
  lt (α := Int32) (β := Option (Int32 × Hp)) (gI h (gP h v0 1) (((v1 + (2 : Int32)) + ((5 : Int32) * v2)) + (3 : Int32)).toNatClampNeg) fun (w4 : Int32) =>
  gg (β := (Int32 × Hp)) (inB (((v1 + (2 : Int32)) + ((5 : Int32) * v2)) + (4 : Int32)) (ln h (gP h v0 1)) = true) <|
  lt (α := Int32) (β := Option (Int32 × Hp)) (gI h (gP h v0 1) (((v1 + (2 : Int32)) + ((5 : Int32) * v2)) + (4 : Int32)).toNatClampNeg) fun (w7 : Int32) =>
  if w7 = 0 then
    some ((1 : Int32), h)
  else
    lt (α := Hp) (β := Option (Int32 × Hp)) (sI h v0 24 (0 : Int32)) fun (h10 : Hp) =>
    MX12_holds_46 h10 v0 v1 w4 w7 (0 : Int32)
set_option maxRecDepth 100000 in
set_option maxHeartbeats 8000000 in
theorem eX12_holds {d : Nat} {h : Hp} {v0 : Nat} {v1 : Int32} {v2 : Int32} {r : Int32} {h9 : Hp} (H : MX12_holds h v0 v1 v2 = some (r, h9)) : J (d) YX12_holds 0 [.ref v0, .int v1, .int v2, Value.null, Value.null, Value.null, Value.null, Value.null, Value.null] [] h (oI r) h9 := by
  unfold MX12_holds at H
  refine J_aload_n 0 dX12_holds_0 rfl rfl ?_
  obtain ⟨g1, H⟩ := gd H
  refine J_gP 11 1 dX12_holds_1 g1 flX12_8 rfl rfl ?_
  refine J_iload_n 1 dX12_holds_4 rfl rfl ?_
  refine J_iconst (2 : Int32) dX12_holds_5 kc_2 ?_
  refine J_iadd dX12_holds_6 ?_
  refine J_iconst (5 : Int32) dX12_holds_7 kc_5 ?_
  refine J_iload_n 2 dX12_holds_8 rfl rfl ?_
  refine J_imul dX12_holds_9 ?_
  refine J_iadd dX12_holds_10 ?_
  refine J_iconst (3 : Int32) dX12_holds_11 kc_3 ?_
  refine J_iadd dX12_holds_12 ?_
  obtain ⟨g2, H⟩ := gd H
  obtain ⟨g3, H⟩ := gd H
  refine J_iald dX12_holds_13 g2 (inB_ok g3) ?_
  obtain ⟨w4, e5, H⟩ := lt_el H
  refine J_nmI e5 ?_
  refine J_istore_n 3 dX12_holds_14 rfl (by decide) (ls' := [.ref v0, .int v1, .int v2, .int w4, Value.null, Value.null, Value.null, Value.null, Value.null]) rfl ?_
  refine J_aload_n 0 dX12_holds_15 rfl rfl ?_
  refine J_gP 11 1 dX12_holds_16 g1 flX12_8 rfl rfl ?_
  refine J_iload_n 1 dX12_holds_19 rfl rfl ?_
  refine J_iconst (2 : Int32) dX12_holds_20 kc_2 ?_
  refine J_iadd dX12_holds_21 ?_
  refine J_iconst (5 : Int32) dX12_holds_22 kc_5 ?_
  refine J_iload_n 2 dX12_holds_23 rfl rfl ?_
  refine J_imul dX12_holds_24 ?_
  refine J_iadd dX12_holds_25 ?_
  refine J_iconst (4 : Int32) dX12_holds_26 kc_4 ?_
  refine J_iadd dX12_holds_27 ?_
  obtain ⟨g6, H⟩ := gd H
  refine J_iald dX12_holds_28 g2 (inB_ok g6) ?_
  obtain ⟨w7, e8, H⟩ := lt_el H
  refine J_nmI e8 ?_
  refine J_istore dX12_holds_29 (by decide) (ls' := [.ref v0, .int v1, .int v2, .int w4, .int w7, Value.null, Value.null, Value.null, Value.null]) rfl ?_
  refine J_iload dX12_holds_31 rfl ?_
  refine J_if_ne 38 dX12_holds_33 rfl (fun q9 => ?_) (fun q9 => ?_)
  · replace H := br0 q9 H
    refine J_aload_n 0 dX12_holds_38 rfl rfl ?_
    refine J_iconst (0 : Int32) dX12_holds_39 kc_0 ?_
    obtain ⟨h10, e11, H⟩ := lt_el H
    refine J_pI 11 24 dX12_holds_40 g1 flX12_274 rfl rfl e11 ?_
    have c12 := ekI e11
    have c13 := elI e11
    have c14 := epI e11
    refine J_iconst (0 : Int32) dX12_holds_43 kc_0 ?_
    refine J_istore dX12_holds_44 (by decide) (ls' := [.ref v0, .int v1, .int v2, .int w4, .int w7, .int (0 : Int32), Value.null, Value.null, Value.null]) rfl ?_
    exact J_dr (kX12_holds_46 H ) ⟨rfl, ⟨rfl, ⟨rfl, ⟨rfl, ⟨rfl, trivial⟩⟩⟩⟩⟩
  · replace H := br1 q9 H
    refine J_iconst (1 : Int32) dX12_holds_36 kc_1 ?_
    cases H
    exact J_rZ dX12_holds_37 rfl rfl
theorem okX12_holds {d : Nat} {h : Hp} {v0 : Nat} {v1 : Int32} {v2 : Int32} {r : Int32} {h9 : Hp} (H : MX12_holds h v0 v1 v2 = some (r, h9)) : CT (d) YX12_holds [.ref v0, .int v1, .int v2] h (oI r) h9 := CT_of (by decide +kernel) (Nat.le_of_ble_eq_true rfl) (eX12_holds H)
noncomputable def BX12_lastRule_5 (h : Hp) (v0 : Nat) (v1 : Int32) (v2 : Int32) (v3 : Int32) (v4 : Int32) : Option ((Int32 × Int32 × Hp) ⊕ (Int32 × Hp)) :=
  if v1 = (-1 : Int32) then
    some (.inr ((v3, h)))
  else
    gg (β := ((Int32 × Int32 × Hp) ⊕ (Int32 × Hp))) (kd h v0 = 11) <|
    gg (β := ((Int32 × Int32 × Hp) ⊕ (Int32 × Hp))) (kd h (gP h v0 1) = 20) <|
    gg (β := ((Int32 × Int32 × Hp) ⊕ (Int32 × Hp))) (inB (v1 + (1 : Int32)) (ln h (gP h v0 1)) = true) <|
    if (gI h (gP h v0 1) (v1 + (1 : Int32)).toNatClampNeg) ≤ v4 then
      some (.inr ((v3, h)))
    else
      gg (β := ((Int32 × Int32 × Hp) ⊕ (Int32 × Hp))) (inB ((v1 + (2 : Int32)) + ((5 : Int32) * v4)) (ln h (gP h v0 1)) = true) <|
      if (gI h (gP h v0 1) ((v1 + (2 : Int32)) + ((5 : Int32) * v4)).toNatClampNeg) = v2 then
        b2 (α := Int32) (β := Hp) (γ := ((Int32 × Int32 × Hp) ⊕ (Int32 × Hp))) (MX12_holds h v0 v1 v4) fun (t10 : Int32) (h9 : Hp) =>
        if t10 = 0 then
          some (.inl (v3, (v4 + (1 : Int32)), h9))
        else
          some (.inl (v4, (v4 + (1 : Int32)), h9))
      else
        some (.inl (v3, (v4 + (1 : Int32)), h))
set_option maxRecDepth 100000 in
set_option maxHeartbeats 8000000 in
theorem bX12_lastRule_5 {d : Nat} {h : Hp} {v0 : Nat} {v1 : Int32} {v2 : Int32} {v3 : Int32} {v4 : Int32} {r : Int32} {h9 : Hp} {x : ((Int32 × Int32 × Hp) ⊕ (Int32 × Hp))} (H : BX12_lastRule_5 h v0 v1 v2 v3 v4 = some x) (hb0 : ∀ s : Int32 × Int32 × Hp, x = .inl s → J (d + 1) YX12_lastRule 5 [.ref v0, .int v1, .int v2, .int s.1, .int s.2.1] [] s.2.2 (oI r) h9) (hx : ∀ z : (Int32 × Hp), x = .inr (z) → z = (r, h9)) : J (d + 1) YX12_lastRule 5 [.ref v0, .int v1, .int v2, .int v3, .int v4] [] h (oI r) h9 := by
  unfold BX12_lastRule_5 at H
  refine J_iload_n 1 dX12_lastRule_5 rfl rfl ?_
  refine J_iconst (-1 : Int32) dX12_lastRule_6 kc_m1 ?_
  refine J_icmp_eq 59 dX12_lastRule_7 rfl (fun q1 => ?_) (fun q1 => ?_)
  · replace H := br1 q1 H
    refine J_iload_n 3 dX12_lastRule_59 rfl rfl ?_
    cases H
    cases hx _ rfl
    exact J_iretI dX12_lastRule_60 rfl
  · replace H := br0 q1 H
    refine J_iload dX12_lastRule_10 rfl ?_
    refine J_aload_n 0 dX12_lastRule_12 rfl rfl ?_
    obtain ⟨g2, H⟩ := gd H
    refine J_gP 11 1 dX12_lastRule_13 g2 flX12_8 rfl rfl ?_
    refine J_iload_n 1 dX12_lastRule_16 rfl rfl ?_
    refine J_iconst (1 : Int32) dX12_lastRule_17 kc_1 ?_
    refine J_iadd dX12_lastRule_18 ?_
    obtain ⟨g3, H⟩ := gd H
    obtain ⟨g4, H⟩ := gd H
    refine J_iald dX12_lastRule_19 g3 (inB_ok g4) ?_
    refine J_icmp_ge 59 dX12_lastRule_20 rfl (fun q5 => ?_) (fun q5 => ?_)
    · replace H := br1 q5 H
      refine J_iload_n 3 dX12_lastRule_59 rfl rfl ?_
      cases H
      cases hx _ rfl
      exact J_iretI dX12_lastRule_60 rfl
    · replace H := br0 q5 H
      refine J_aload_n 0 dX12_lastRule_23 rfl rfl ?_
      refine J_gP 11 1 dX12_lastRule_24 g2 flX12_8 rfl rfl ?_
      refine J_iload_n 1 dX12_lastRule_27 rfl rfl ?_
      refine J_iconst (2 : Int32) dX12_lastRule_28 kc_2 ?_
      refine J_iadd dX12_lastRule_29 ?_
      refine J_iconst (5 : Int32) dX12_lastRule_30 kc_5 ?_
      refine J_iload dX12_lastRule_31 rfl ?_
      refine J_imul dX12_lastRule_33 ?_
      refine J_iadd dX12_lastRule_34 ?_
      obtain ⟨g6, H⟩ := gd H
      refine J_iald dX12_lastRule_35 g3 (inB_ok g6) ?_
      refine J_iload_n 2 dX12_lastRule_36 rfl rfl ?_
      refine J_icmp_ne 53 dX12_lastRule_37 rfl (fun q7 => ?_) (fun q7 => ?_)
      · replace H := br0 q7 H
        refine J_iinc (v4 + (1 : Int32)) dX12_lastRule_53 rfl (congrArg (HAdd.hAdd v4) kc_1) (by decide) (ls' := [.ref v0, .int v1, .int v2, .int v3, .int (v4 + (1 : Int32))]) rfl ?_
        refine J_goto 5 dX12_lastRule_56 rfl ?_
        cases H
        exact J_dr (hb0 _ rfl) ⟨rfl, ⟨rfl, ⟨rfl, ⟨rfl, ⟨rfl, trivial⟩⟩⟩⟩⟩
      · replace H := br1 q7 H
        refine J_aload_n 0 dX12_lastRule_40 rfl rfl ?_
        refine J_iload_n 1 dX12_lastRule_41 rfl rfl ?_
        refine J_iload dX12_lastRule_42 rfl ?_
        obtain ⟨t10, h9, e8, H⟩ := b2_el H
        refine J_cV (as := [.int v1, .int v4]) 11 YX12_holds 2 dX12_lastRule_44 moX12_holds mvX12_holds mlX12_277 g2 rfl rfl (okX12_holds (d := d) e8) rfl rfl [] rfl rfl (st2 := [.int t10]) rfl ?_
        refine J_if_eq 53 dX12_lastRule_47 rfl (fun q11 => ?_) (fun q11 => ?_)
        · replace H := br1 q11 H
          refine J_iinc (v4 + (1 : Int32)) dX12_lastRule_53 rfl (congrArg (HAdd.hAdd v4) kc_1) (by decide) (ls' := [.ref v0, .int v1, .int v2, .int v3, .int (v4 + (1 : Int32))]) rfl ?_
          refine J_goto 5 dX12_lastRule_56 rfl ?_
          cases H
          exact J_dr (hb0 _ rfl) ⟨rfl, ⟨rfl, ⟨rfl, ⟨rfl, ⟨rfl, trivial⟩⟩⟩⟩⟩
        · replace H := br0 q11 H
          refine J_iload dX12_lastRule_50 rfl ?_
          refine J_istore_n 3 dX12_lastRule_52 rfl (by decide) (ls' := [.ref v0, .int v1, .int v2, .int v4, .int v4]) rfl ?_
          refine J_iinc (v4 + (1 : Int32)) dX12_lastRule_53 rfl (congrArg (HAdd.hAdd v4) kc_1) (by decide) (ls' := [.ref v0, .int v1, .int v2, .int v4, .int (v4 + (1 : Int32))]) rfl ?_
          refine J_goto 5 dX12_lastRule_56 rfl ?_
          cases H
          exact J_dr (hb0 _ rfl) ⟨rfl, ⟨rfl, ⟨rfl, ⟨rfl, ⟨rfl, trivial⟩⟩⟩⟩⟩
noncomputable def MX12_lastRule_5 (h : Hp) (v0 : Nat) (v1 : Int32) (v2 : Int32) (v3 : Int32) (v4 : Int32) : Option (Int32 × Hp) := it (fun q : Int32 × Int32 × Hp => BX12_lastRule_5 q.2.2 v0 v1 v2 q.1 q.2.1) (v3, v4, h)
set_option maxRecDepth 100000 in
set_option maxHeartbeats 8000000 in
theorem kX12_lastRule_5 {d : Nat} {h : Hp} {v0 : Nat} {v1 : Int32} {v2 : Int32} {v3 : Int32} {v4 : Int32} {r : Int32} {h9 : Hp} (H : MX12_lastRule_5 h v0 v1 v2 v3 v4 = some (r, h9)) : J (d + 1) YX12_lastRule 5 [.ref v0, .int v1, .int v2, .int v3, .int v4] [] h (oI r) h9 := by
  unfold MX12_lastRule_5 at H
  refine it_J (G := (fun q : Int32 × Int32 × Hp => J (d + 1) YX12_lastRule 5 [.ref v0, .int v1, .int v2, .int q.1, .int q.2.1] [] q.2.2 (oI r) h9)) (Q := (fun y : (Int32 × Hp) => y = (r, h9))) (fun q x Hq hm => ?_) H rfl
  exact bX12_lastRule_5 Hq (fun s hs => by subst hs; exact hm) (fun z hz => by subst hz; exact hm)
noncomputable def MX12_lastRule (h : Hp) (v0 : Nat) (v1 : Int32) (v2 : Int32) : Option (Int32 × Hp) :=
  MX12_lastRule_5 h v0 v1 v2 (-1 : Int32) (0 : Int32)
set_option maxRecDepth 100000 in
set_option maxHeartbeats 8000000 in
theorem eX12_lastRule {d : Nat} {h : Hp} {v0 : Nat} {v1 : Int32} {v2 : Int32} {r : Int32} {h9 : Hp} (H : MX12_lastRule h v0 v1 v2 = some (r, h9)) : J (d + 1) YX12_lastRule 0 [.ref v0, .int v1, .int v2, Value.null, Value.null] [] h (oI r) h9 := by
  unfold MX12_lastRule at H
  refine J_iconst (-1 : Int32) dX12_lastRule_0 kc_m1 ?_
  refine J_istore_n 3 dX12_lastRule_1 rfl (by decide) (ls' := [.ref v0, .int v1, .int v2, .int (-1 : Int32), Value.null]) rfl ?_
  refine J_iconst (0 : Int32) dX12_lastRule_2 kc_0 ?_
  refine J_istore dX12_lastRule_3 (by decide) (ls' := [.ref v0, .int v1, .int v2, .int (-1 : Int32), .int (0 : Int32)]) rfl ?_
  exact J_dr (kX12_lastRule_5 H ) ⟨rfl, ⟨rfl, ⟨rfl, ⟨rfl, ⟨rfl, trivial⟩⟩⟩⟩⟩
theorem okX12_lastRule {d : Nat} {h : Hp} {v0 : Nat} {v1 : Int32} {v2 : Int32} {r : Int32} {h9 : Hp} (H : MX12_lastRule h v0 v1 v2 = some (r, h9)) : CT (d + 1) YX12_lastRule [.ref v0, .int v1, .int v2] h (oI r) h9 := CT_of (by decide +kernel) (Nat.le_of_ble_eq_true rfl) (eX12_lastRule H)
noncomputable def MX12_said (h : Hp) (v0 : Nat) (v1 : Int32) (v2 : Int32) (v3 : Int32) (v4 : Int32) : Option Int32 :=
  if v2 = (-1 : Int32) then
    some v4
  else
    gg (β := Int32) (kd h v0 = 11) <|
    gg (β := Int32) (kd h (gP h v0 1) = 20) <|
    gg (β := Int32) (inB (((v1 + (2 : Int32)) + ((5 : Int32) * v2)) + v3) (ln h (gP h v0 1)) = true) <|
    some (gI h (gP h v0 1) (((v1 + (2 : Int32)) + ((5 : Int32) * v2)) + v3).toNatClampNeg)
set_option maxRecDepth 100000 in
set_option maxHeartbeats 8000000 in
theorem eX12_said {d : Nat} {h : Hp} {v0 : Nat} {v1 : Int32} {v2 : Int32} {v3 : Int32} {v4 : Int32} {r : Int32} (H : MX12_said h v0 v1 v2 v3 v4 = some r) : J (d) YX12_said 0 [.ref v0, .int v1, .int v2, .int v3, .int v4] [] h (oI r) h := by
  unfold MX12_said at H
  refine J_iload_n 2 dX12_said_0 rfl rfl ?_
  refine J_iconst (-1 : Int32) dX12_said_1 kc_m1 ?_
  refine J_icmp_ne 10 dX12_said_2 rfl (fun q1 => ?_) (fun q1 => ?_)
  · replace H := br0 q1 H
    refine J_aload_n 0 dX12_said_10 rfl rfl ?_
    obtain ⟨g2, H⟩ := gd H
    refine J_gP 11 1 dX12_said_11 g2 flX12_8 rfl rfl ?_
    refine J_iload_n 1 dX12_said_14 rfl rfl ?_
    refine J_iconst (2 : Int32) dX12_said_15 kc_2 ?_
    refine J_iadd dX12_said_16 ?_
    refine J_iconst (5 : Int32) dX12_said_17 kc_5 ?_
    refine J_iload_n 2 dX12_said_18 rfl rfl ?_
    refine J_imul dX12_said_19 ?_
    refine J_iadd dX12_said_20 ?_
    refine J_iload_n 3 dX12_said_21 rfl rfl ?_
    refine J_iadd dX12_said_22 ?_
    obtain ⟨g3, H⟩ := gd H
    obtain ⟨g4, H⟩ := gd H
    refine J_iald dX12_said_23 g3 (inB_ok g4) ?_
    cases H
    exact J_iretI dX12_said_24 rfl
  · replace H := br1 q1 H
    refine J_iload dX12_said_5 rfl ?_
    refine J_goto 24 dX12_said_7 rfl ?_
    cases H
    exact J_iretI dX12_said_24 rfl
theorem okX12_said {d : Nat} {h : Hp} {v0 : Nat} {v1 : Int32} {v2 : Int32} {v3 : Int32} {v4 : Int32} {r : Int32} (H : MX12_said h v0 v1 v2 v3 v4 = some r) : CT (d) YX12_said [.ref v0, .int v1, .int v2, .int v3, .int v4] h (oI r) h := CT_of (by decide +kernel) (Nat.le_of_ble_eq_true rfl) (eX12_said H)
noncomputable def MX12_styleOf_57 (h : Hp) (v0 : Nat) (v1 : Int32) (v3 : Int32) (v4 : Int32) : Option ((Int32 × Int32) ⊕ Int32) :=
  some (.inl (v4, (v3 + (1 : Int32))))
set_option maxRecDepth 100000 in
set_option maxHeartbeats 8000000 in
theorem kX12_styleOf_57 {d : Nat} {h : Hp} {v0 : Nat} {v1 : Int32} {v3 : Int32} {v4 : Int32} {r : Int32} {x : ((Int32 × Int32) ⊕ Int32)} (H : MX12_styleOf_57 h v0 v1 v3 v4 = some x) (hb0 : ∀ s : Int32 × Int32, x = .inl s → J (d) YX12_styleOf 4 [.ref v0, .int v1, .int s.1, .int s.2, Value.null] [] h (oI r) h) (hx : ∀ z : Int32, x = .inr (z) → z = r) : J (d) YX12_styleOf 57 [.ref v0, .int v1, Value.null, .int v3, .int v4] [] h (oI r) h := by
  unfold MX12_styleOf_57 at H
  refine J_iload dX12_styleOf_57 rfl ?_
  refine J_istore_n 2 dX12_styleOf_59 rfl (by decide) (ls' := [.ref v0, .int v1, .int v4, .int v3, .int v4]) rfl ?_
  refine J_iinc (v3 + (1 : Int32)) dX12_styleOf_60 rfl (congrArg (HAdd.hAdd v3) kc_1) (by decide) (ls' := [.ref v0, .int v1, .int v4, .int (v3 + (1 : Int32)), .int v4]) rfl ?_
  refine J_goto 4 dX12_styleOf_63 rfl ?_
  cases H
  exact J_dr (hb0 _ rfl) ⟨rfl, ⟨rfl, ⟨rfl, ⟨rfl, trivial⟩⟩⟩⟩
noncomputable def BX12_styleOf_4 (h : Hp) (v0 : Nat) (v1 : Int32) (v2 : Int32) (v3 : Int32) : Option ((Int32 × Int32) ⊕ Int32) :=
  gg (β := ((Int32 × Int32) ⊕ Int32)) (kd h v0 = 11) <|
  gg (β := ((Int32 × Int32) ⊕ Int32)) (kd h (gP h v0 1) = 20) <|
  gg (β := ((Int32 × Int32) ⊕ Int32)) (inB (2 : Int32) (ln h (gP h v0 1)) = true) <|
  if (gI h (gP h v0 1) (2 : Int32).toNatClampNeg) ≤ v3 then
    some (.inr (v2))
  else
    gg (β := ((Int32 × Int32) ⊕ Int32)) (inB ((320962 : Int32) + ((562 : Int32) * v3)) (ln h (gP h v0 1)) = true) <|
    if v1 < (gI h (gP h v0 1) ((320962 : Int32) + ((562 : Int32) * v3)).toNatClampNeg) then
      some (.inl (v2, (v3 + (1 : Int32))))
    else
      if v2 = (-1 : Int32) then
        MX12_styleOf_57 h v0 v1 v3 ((320962 : Int32) + ((562 : Int32) * v3))
      else
        gg (β := ((Int32 × Int32) ⊕ Int32)) (inB v2 (ln h (gP h v0 1)) = true) <|
        if (gI h (gP h v0 1) ((320962 : Int32) + ((562 : Int32) * v3)).toNatClampNeg) < (gI h (gP h v0 1) v2.toNatClampNeg) then
          some (.inl (v2, (v3 + (1 : Int32))))
        else
          MX12_styleOf_57 h v0 v1 v3 ((320962 : Int32) + ((562 : Int32) * v3))
set_option maxRecDepth 100000 in
set_option maxHeartbeats 8000000 in
theorem bX12_styleOf_4 {d : Nat} {h : Hp} {v0 : Nat} {v1 : Int32} {v2 : Int32} {v3 : Int32} {r : Int32} {x : ((Int32 × Int32) ⊕ Int32)} (H : BX12_styleOf_4 h v0 v1 v2 v3 = some x) (hb0 : ∀ s : Int32 × Int32, x = .inl s → J (d) YX12_styleOf 4 [.ref v0, .int v1, .int s.1, .int s.2, Value.null] [] h (oI r) h) (hx : ∀ z : Int32, x = .inr (z) → z = r) : J (d) YX12_styleOf 4 [.ref v0, .int v1, .int v2, .int v3, Value.null] [] h (oI r) h := by
  unfold BX12_styleOf_4 at H
  refine J_iload_n 3 dX12_styleOf_4 rfl rfl ?_
  refine J_aload_n 0 dX12_styleOf_5 rfl rfl ?_
  obtain ⟨g1, H⟩ := gd H
  refine J_gP 11 1 dX12_styleOf_6 g1 flX12_8 rfl rfl ?_
  refine J_iconst (2 : Int32) dX12_styleOf_9 kc_2 ?_
  obtain ⟨g2, H⟩ := gd H
  obtain ⟨g3, H⟩ := gd H
  refine J_iald dX12_styleOf_10 g2 (inB_ok g3) ?_
  refine J_icmp_ge 66 dX12_styleOf_11 rfl (fun q4 => ?_) (fun q4 => ?_)
  · replace H := br1 q4 H
    refine J_iload_n 2 dX12_styleOf_66 rfl rfl ?_
    cases H
    cases hx _ rfl
    exact J_iretI dX12_styleOf_67 rfl
  · replace H := br0 q4 H
    refine J_ldcw (320962 : Int32) coX12_273 dX12_styleOf_14 ?_
    refine J_sipush (562 : Int32) dX12_styleOf_17 ks_562 ?_
    refine J_iload_n 3 dX12_styleOf_20 rfl rfl ?_
    refine J_imul dX12_styleOf_21 ?_
    refine J_iadd dX12_styleOf_22 ?_
    refine J_istore dX12_styleOf_23 (by decide) (ls' := [.ref v0, .int v1, .int v2, .int v3, .int ((320962 : Int32) + ((562 : Int32) * v3))]) rfl ?_
    refine J_aload_n 0 dX12_styleOf_25 rfl rfl ?_
    refine J_gP 11 1 dX12_styleOf_26 g1 flX12_8 rfl rfl ?_
    refine J_iload dX12_styleOf_29 rfl ?_
    obtain ⟨g5, H⟩ := gd H
    refine J_iald dX12_styleOf_31 g2 (inB_ok g5) ?_
    refine J_iload_n 1 dX12_styleOf_32 rfl rfl ?_
    refine J_icmp_gt 60 dX12_styleOf_33 rfl (fun q6 => ?_) (fun q6 => ?_)
    · replace H := br1 q6 H
      refine J_iinc (v3 + (1 : Int32)) dX12_styleOf_60 rfl (congrArg (HAdd.hAdd v3) kc_1) (by decide) (ls' := [.ref v0, .int v1, .int v2, .int (v3 + (1 : Int32)), .int ((320962 : Int32) + ((562 : Int32) * v3))]) rfl ?_
      refine J_goto 4 dX12_styleOf_63 rfl ?_
      cases H
      exact J_dr (hb0 _ rfl) ⟨rfl, ⟨rfl, ⟨rfl, ⟨rfl, trivial⟩⟩⟩⟩
    · replace H := br0 q6 H
      refine J_iload_n 2 dX12_styleOf_36 rfl rfl ?_
      refine J_iconst (-1 : Int32) dX12_styleOf_37 kc_m1 ?_
      refine J_icmp_eq 57 dX12_styleOf_38 rfl (fun q7 => ?_) (fun q7 => ?_)
      · replace H := br1 q7 H
        exact J_dr (kX12_styleOf_57 H hb0 hx) ⟨rfl, ⟨rfl, ⟨rfl, ⟨rfl, trivial⟩⟩⟩⟩
      · replace H := br0 q7 H
        refine J_aload_n 0 dX12_styleOf_41 rfl rfl ?_
        refine J_gP 11 1 dX12_styleOf_42 g1 flX12_8 rfl rfl ?_
        refine J_iload dX12_styleOf_45 rfl ?_
        refine J_iald dX12_styleOf_47 g2 (inB_ok g5) ?_
        refine J_aload_n 0 dX12_styleOf_48 rfl rfl ?_
        refine J_gP 11 1 dX12_styleOf_49 g1 flX12_8 rfl rfl ?_
        refine J_iload_n 2 dX12_styleOf_52 rfl rfl ?_
        obtain ⟨g8, H⟩ := gd H
        refine J_iald dX12_styleOf_53 g2 (inB_ok g8) ?_
        refine J_icmp_lt 60 dX12_styleOf_54 rfl (fun q9 => ?_) (fun q9 => ?_)
        · replace H := br1 q9 H
          refine J_iinc (v3 + (1 : Int32)) dX12_styleOf_60 rfl (congrArg (HAdd.hAdd v3) kc_1) (by decide) (ls' := [.ref v0, .int v1, .int v2, .int (v3 + (1 : Int32)), .int ((320962 : Int32) + ((562 : Int32) * v3))]) rfl ?_
          refine J_goto 4 dX12_styleOf_63 rfl ?_
          cases H
          exact J_dr (hb0 _ rfl) ⟨rfl, ⟨rfl, ⟨rfl, ⟨rfl, trivial⟩⟩⟩⟩
        · replace H := br0 q9 H
          exact J_dr (kX12_styleOf_57 H hb0 hx) ⟨rfl, ⟨rfl, ⟨rfl, ⟨rfl, trivial⟩⟩⟩⟩
noncomputable def MX12_styleOf_4 (h : Hp) (v0 : Nat) (v1 : Int32) (v2 : Int32) (v3 : Int32) : Option Int32 := it (fun q : Int32 × Int32 => BX12_styleOf_4 h v0 v1 q.1 q.2) (v2, v3)
set_option maxRecDepth 100000 in
set_option maxHeartbeats 8000000 in
theorem kX12_styleOf_4 {d : Nat} {h : Hp} {v0 : Nat} {v1 : Int32} {v2 : Int32} {v3 : Int32} {r : Int32} (H : MX12_styleOf_4 h v0 v1 v2 v3 = some r) : J (d) YX12_styleOf 4 [.ref v0, .int v1, .int v2, .int v3, Value.null] [] h (oI r) h := by
  unfold MX12_styleOf_4 at H
  refine it_J (G := (fun q : Int32 × Int32 => J (d) YX12_styleOf 4 [.ref v0, .int v1, .int q.1, .int q.2, Value.null] [] h (oI r) h)) (Q := (fun y : Int32 => y = r)) (fun q x Hq hm => ?_) H rfl
  exact bX12_styleOf_4 Hq (fun s hs => by subst hs; exact hm) (fun z hz => by subst hz; exact hm)
noncomputable def MX12_styleOf (h : Hp) (v0 : Nat) (v1 : Int32) : Option Int32 :=
  MX12_styleOf_4 h v0 v1 (-1 : Int32) (0 : Int32)
set_option maxRecDepth 100000 in
set_option maxHeartbeats 8000000 in
theorem eX12_styleOf {d : Nat} {h : Hp} {v0 : Nat} {v1 : Int32} {r : Int32} (H : MX12_styleOf h v0 v1 = some r) : J (d) YX12_styleOf 0 [.ref v0, .int v1, Value.null, Value.null, Value.null] [] h (oI r) h := by
  unfold MX12_styleOf at H
  refine J_iconst (-1 : Int32) dX12_styleOf_0 kc_m1 ?_
  refine J_istore_n 2 dX12_styleOf_1 rfl (by decide) (ls' := [.ref v0, .int v1, .int (-1 : Int32), Value.null, Value.null]) rfl ?_
  refine J_iconst (0 : Int32) dX12_styleOf_2 kc_0 ?_
  refine J_istore_n 3 dX12_styleOf_3 rfl (by decide) (ls' := [.ref v0, .int v1, .int (-1 : Int32), .int (0 : Int32), Value.null]) rfl ?_
  exact J_dr (kX12_styleOf_4 H ) ⟨rfl, ⟨rfl, ⟨rfl, ⟨rfl, trivial⟩⟩⟩⟩
theorem okX12_styleOf {d : Nat} {h : Hp} {v0 : Nat} {v1 : Int32} {r : Int32} (H : MX12_styleOf h v0 v1 = some r) : CT (d) YX12_styleOf [.ref v0, .int v1] h (oI r) h := CT_of (by decide +kernel) (Nat.le_of_ble_eq_true rfl) (eX12_styleOf H)
noncomputable def MX12_tells (h : Hp) (v0 : Nat) (v1 : Int32) (v2 : Int32) : Option Hp :=
  gg (β := Hp) (kd h v0 = 11) <|
  Option.bind (α := Hp) (β := Hp) (MX12_factsOf h v0 v1 v2) fun (h3 : Hp) =>
  gg (β := Hp) (kd h3 v0 = 11) <|
  Option.bind (α := Int32) (β := Hp) (MX12_styleOf h3 v0 v2) fun (t6 : Int32) =>
  b2 (α := Int32) (β := Hp) (γ := Hp) (MX12_lastRule h3 v0 t6 (0 : Int32)) fun (t9 : Int32) (h8 : Hp) =>
  gg (β := Hp) (kd h8 v0 = 11) <|
  lt (α := Hp) (β := Option Hp) (sI h8 v0 26 t9) fun (h11 : Hp) =>
  Option.bind (α := Int32) (β := Hp) (MX12_said h11 v0 t6 (gI h11 v0 26) (1 : Int32) (60 : Int32)) fun (t17 : Int32) =>
  lt (α := Hp) (β := Option Hp) (sI h11 v0 25 t17) fun (h18 : Hp) =>
  b2 (α := Int32) (β := Hp) (γ := Hp) (MX12_lastRule h18 v0 t6 (1 : Int32)) fun (t25 : Int32) (h24 : Hp) =>
  gg (β := Hp) (kd h24 v0 = 11) <|
  Option.bind (α := Int32) (β := Hp) (MX12_said h24 v0 t6 t25 (1 : Int32) (2 : Int32)) fun (t28 : Int32) =>
  lt (α := Hp) (β := Option Hp) (sI h24 v0 27 t28) fun (h29 : Hp) =>
  Option.bind (α := Int32) (β := Hp) (MX12_said h29 v0 t6 t25 (2 : Int32) (6 : Int32)) fun (t35 : Int32) =>
  lt (α := Hp) (β := Option Hp) (sI h29 v0 28 t35) fun (h36 : Hp) =>
  b2 (α := Int32) (β := Hp) (γ := Hp) (MX12_lastRule h36 v0 t6 (2 : Int32)) fun (t43 : Int32) (h42 : Hp) =>
  gg (β := Hp) (kd h42 v0 = 11) <|
  Option.bind (α := Int32) (β := Hp) (MX12_said h42 v0 t6 t43 (1 : Int32) (25 : Int32)) fun (t46 : Int32) =>
  lt (α := Hp) (β := Option Hp) (sI h42 v0 29 t46) fun (h47 : Hp) =>
  b2 (α := Int32) (β := Hp) (γ := Hp) (MX12_lastRule h47 v0 t6 (3 : Int32)) fun (t54 : Int32) (h53 : Hp) =>
  gg (β := Hp) (kd h53 v0 = 11) <|
  Option.bind (α := Int32) (β := Hp) (MX12_said h53 v0 t6 t54 (1 : Int32) (0 : Int32)) fun (t57 : Int32) =>
  lt (α := Hp) (β := Option Hp) (sI h53 v0 30 t57) fun (h58 : Hp) =>
  some h58
set_option maxRecDepth 100000 in
set_option maxHeartbeats 8000000 in
theorem eX12_tells {d : Nat} {h : Hp} {v0 : Nat} {v1 : Int32} {v2 : Int32} {h9 : Hp} (H : MX12_tells h v0 v1 v2 = some h9) : J (d + 2) YX12_tells 0 [.ref v0, .int v1, .int v2, Value.null, Value.null] [] h oV h9 := by
  unfold MX12_tells at H
  refine J_aload_n 0 dX12_tells_0 rfl rfl ?_
  refine J_iload_n 1 dX12_tells_1 rfl rfl ?_
  refine J_iload_n 2 dX12_tells_2 rfl rfl ?_
  obtain ⟨g2, H⟩ := gd H
  obtain ⟨h3, e1, H⟩ := bd H
  refine J_cV (as := [.int v1, .int v2]) 11 YX12_factsOf 2 dX12_tells_3 moX12_factsOf mvX12_factsOf mlX12_280 g2 rfl rfl (okX12_factsOf (d := d) e1) rfl rfl [] rfl rfl (st2 := []) rfl ?_
  refine J_aload_n 0 dX12_tells_6 rfl rfl ?_
  refine J_iload_n 2 dX12_tells_7 rfl rfl ?_
  obtain ⟨g5, H⟩ := gd H
  obtain ⟨t6, e4, H⟩ := bd H
  refine J_cV (as := [.int v2]) 11 YX12_styleOf 1 dX12_tells_8 moX12_styleOf mvX12_styleOf mlX12_284 g5 rfl rfl (okX12_styleOf (d := d + 1) e4) rfl rfl [] rfl rfl (st2 := [.int t6]) rfl ?_
  refine J_istore_n 3 dX12_tells_11 rfl (by decide) (ls' := [.ref v0, .int v1, .int v2, .int t6, Value.null]) rfl ?_
  refine J_aload_n 0 dX12_tells_12 rfl rfl ?_
  refine J_aload_n 0 dX12_tells_13 rfl rfl ?_
  refine J_iload_n 3 dX12_tells_14 rfl rfl ?_
  refine J_iconst (0 : Int32) dX12_tells_15 kc_0 ?_
  obtain ⟨t9, h8, e7, H⟩ := b2_el H
  refine J_cV (as := [.int t6, .int (0 : Int32)]) 11 YX12_lastRule 2 dX12_tells_16 moX12_lastRule mvX12_lastRule mlX12_287 g5 rfl rfl (okX12_lastRule (d := d) e7) rfl rfl [.ref v0] rfl rfl (st2 := [.int t9, .ref v0]) rfl ?_
  obtain ⟨g10, H⟩ := gd H
  obtain ⟨h11, e12, H⟩ := lt_el H
  refine J_pI 11 26 dX12_tells_19 g10 flX12_291 rfl rfl e12 ?_
  have c13 := ekI e12
  have c14 := elI e12
  have c15 := epI e12
  refine J_aload_n 0 dX12_tells_22 rfl rfl ?_
  refine J_aload_n 0 dX12_tells_23 rfl rfl ?_
  refine J_iload_n 3 dX12_tells_24 rfl rfl ?_
  refine J_aload_n 0 dX12_tells_25 rfl rfl ?_
  refine J_getI 11 26 dX12_tells_26 (kq c13 g10) flX12_291 rfl ?_
  refine J_iconst (1 : Int32) dX12_tells_29 kc_1 ?_
  refine J_bipush (60 : Int32) dX12_tells_30 kb_60 ?_
  obtain ⟨t17, e16, H⟩ := bd H
  refine J_cV (as := [.int t6, .int (gI h11 v0 26), .int (1 : Int32), .int (60 : Int32)]) 11 YX12_said 4 dX12_tells_32 moX12_said mvX12_said mlX12_294 (kq c13 g10) rfl rfl (okX12_said (d := d + 1) e16) rfl rfl [.ref v0] rfl rfl (st2 := [.int t17, .ref v0]) rfl ?_
  obtain ⟨h18, e19, H⟩ := lt_el H
  refine J_pI 11 25 dX12_tells_35 (kq c13 g10) flX12_298 rfl rfl e19 ?_
  have c20 := (ekI e19).trans c13
  have c21 := (elI e19).trans c14
  have c22 := (epI e19).trans c15
  refine J_aload_n 0 dX12_tells_38 rfl rfl ?_
  refine J_iload_n 3 dX12_tells_39 rfl rfl ?_
  refine J_iconst (1 : Int32) dX12_tells_40 kc_1 ?_
  obtain ⟨t25, h24, e23, H⟩ := b2_el H
  refine J_cV (as := [.int t6, .int (1 : Int32)]) 11 YX12_lastRule 2 dX12_tells_41 moX12_lastRule mvX12_lastRule mlX12_287 (kq c20 g10) rfl rfl (okX12_lastRule (d := d) e23) rfl rfl [] rfl rfl (st2 := [.int t25]) rfl ?_
  refine J_istore dX12_tells_44 (by decide) (ls' := [.ref v0, .int v1, .int v2, .int t6, .int t25]) rfl ?_
  refine J_aload_n 0 dX12_tells_46 rfl rfl ?_
  refine J_aload_n 0 dX12_tells_47 rfl rfl ?_
  refine J_iload_n 3 dX12_tells_48 rfl rfl ?_
  refine J_iload dX12_tells_49 rfl ?_
  refine J_iconst (1 : Int32) dX12_tells_51 kc_1 ?_
  refine J_iconst (2 : Int32) dX12_tells_52 kc_2 ?_
  obtain ⟨g27, H⟩ := gd H
  obtain ⟨t28, e26, H⟩ := bd H
  refine J_cV (as := [.int t6, .int t25, .int (1 : Int32), .int (2 : Int32)]) 11 YX12_said 4 dX12_tells_53 moX12_said mvX12_said mlX12_294 g27 rfl rfl (okX12_said (d := d + 1) e26) rfl rfl [.ref v0] rfl rfl (st2 := [.int t28, .ref v0]) rfl ?_
  obtain ⟨h29, e30, H⟩ := lt_el H
  refine J_pI 11 27 dX12_tells_56 g27 flX12_300 rfl rfl e30 ?_
  have c31 := ekI e30
  have c32 := elI e30
  have c33 := epI e30
  refine J_aload_n 0 dX12_tells_59 rfl rfl ?_
  refine J_aload_n 0 dX12_tells_60 rfl rfl ?_
  refine J_iload_n 3 dX12_tells_61 rfl rfl ?_
  refine J_iload dX12_tells_62 rfl ?_
  refine J_iconst (2 : Int32) dX12_tells_64 kc_2 ?_
  refine J_bipush (6 : Int32) dX12_tells_65 kb_6 ?_
  obtain ⟨t35, e34, H⟩ := bd H
  refine J_cV (as := [.int t6, .int t25, .int (2 : Int32), .int (6 : Int32)]) 11 YX12_said 4 dX12_tells_67 moX12_said mvX12_said mlX12_294 (kq c31 g27) rfl rfl (okX12_said (d := d + 1) e34) rfl rfl [.ref v0] rfl rfl (st2 := [.int t35, .ref v0]) rfl ?_
  obtain ⟨h36, e37, H⟩ := lt_el H
  refine J_pI 11 28 dX12_tells_70 (kq c31 g27) flX12_303 rfl rfl e37 ?_
  have c38 := (ekI e37).trans c31
  have c39 := (elI e37).trans c32
  have c40 := (epI e37).trans c33
  refine J_aload_n 0 dX12_tells_73 rfl rfl ?_
  refine J_aload_n 0 dX12_tells_74 rfl rfl ?_
  refine J_iload_n 3 dX12_tells_75 rfl rfl ?_
  refine J_aload_n 0 dX12_tells_76 rfl rfl ?_
  refine J_iload_n 3 dX12_tells_77 rfl rfl ?_
  refine J_iconst (2 : Int32) dX12_tells_78 kc_2 ?_
  obtain ⟨t43, h42, e41, H⟩ := b2_el H
  refine J_cV (as := [.int t6, .int (2 : Int32)]) 11 YX12_lastRule 2 dX12_tells_79 moX12_lastRule mvX12_lastRule mlX12_287 (kq c38 g27) rfl rfl (okX12_lastRule (d := d) e41) rfl rfl [.int t6, .ref v0, .ref v0] rfl rfl (st2 := [.int t43, .int t6, .ref v0, .ref v0]) rfl ?_
  refine J_iconst (1 : Int32) dX12_tells_82 kc_1 ?_
  refine J_bipush (25 : Int32) dX12_tells_83 kb_25 ?_
  obtain ⟨g45, H⟩ := gd H
  obtain ⟨t46, e44, H⟩ := bd H
  refine J_cV (as := [.int t6, .int t43, .int (1 : Int32), .int (25 : Int32)]) 11 YX12_said 4 dX12_tells_85 moX12_said mvX12_said mlX12_294 g45 rfl rfl (okX12_said (d := d + 1) e44) rfl rfl [.ref v0] rfl rfl (st2 := [.int t46, .ref v0]) rfl ?_
  obtain ⟨h47, e48, H⟩ := lt_el H
  refine J_pI 11 29 dX12_tells_88 g45 flX12_306 rfl rfl e48 ?_
  have c49 := ekI e48
  have c50 := elI e48
  have c51 := epI e48
  refine J_aload_n 0 dX12_tells_91 rfl rfl ?_
  refine J_aload_n 0 dX12_tells_92 rfl rfl ?_
  refine J_iload_n 3 dX12_tells_93 rfl rfl ?_
  refine J_aload_n 0 dX12_tells_94 rfl rfl ?_
  refine J_iload_n 3 dX12_tells_95 rfl rfl ?_
  refine J_iconst (3 : Int32) dX12_tells_96 kc_3 ?_
  obtain ⟨t54, h53, e52, H⟩ := b2_el H
  refine J_cV (as := [.int t6, .int (3 : Int32)]) 11 YX12_lastRule 2 dX12_tells_97 moX12_lastRule mvX12_lastRule mlX12_287 (kq c49 g45) rfl rfl (okX12_lastRule (d := d) e52) rfl rfl [.int t6, .ref v0, .ref v0] rfl rfl (st2 := [.int t54, .int t6, .ref v0, .ref v0]) rfl ?_
  refine J_iconst (1 : Int32) dX12_tells_100 kc_1 ?_
  refine J_iconst (0 : Int32) dX12_tells_101 kc_0 ?_
  obtain ⟨g56, H⟩ := gd H
  obtain ⟨t57, e55, H⟩ := bd H
  refine J_cV (as := [.int t6, .int t54, .int (1 : Int32), .int (0 : Int32)]) 11 YX12_said 4 dX12_tells_102 moX12_said mvX12_said mlX12_294 g56 rfl rfl (okX12_said (d := d + 1) e55) rfl rfl [.ref v0] rfl rfl (st2 := [.int t57, .ref v0]) rfl ?_
  obtain ⟨h58, e59, H⟩ := lt_el H
  refine J_pI 11 30 dX12_tells_105 g56 flX12_309 rfl rfl e59 ?_
  have c60 := ekI e59
  have c61 := elI e59
  have c62 := epI e59
  cases H
  exact J_ret dX12_tells_108 rfl
theorem okX12_tells {d : Nat} {h : Hp} {v0 : Nat} {v1 : Int32} {v2 : Int32} {h9 : Hp} (H : MX12_tells h v0 v1 v2 = some h9) : CT (d + 2) YX12_tells [.ref v0, .int v1, .int v2] h oV h9 := CT_of (by decide +kernel) (Nat.le_of_ble_eq_true rfl) (eX12_tells H)
noncomputable def MX12_work_170 (h : Hp) (v0 : Nat) (v1 : Int32) (v3 : Int32) (v4 : Int32) (v5 : Int32) (v6 : Int32) (v7 : Int32) : Option ((Int32 × Hp) ⊕ ((Int32 × Hp) ⊕ Hp)) :=
  gg (β := ((Int32 × Hp) ⊕ ((Int32 × Hp) ⊕ Hp))) (kd h v0 = 11) <|
  gg (β := ((Int32 × Hp) ⊕ ((Int32 × Hp) ⊕ Hp))) (kd h (gP h v0 31) = 20) <|
  gg (β := ((Int32 × Hp) ⊕ ((Int32 × Hp) ⊕ Hp))) (inB v4 (ln h (gP h v0 31)) = true) <|
  lt (α := Hp) (β := Option ((Int32 × Hp) ⊕ ((Int32 × Hp) ⊕ Hp))) (sI h (gP h v0 31) v4.toNatClampNeg v6) fun (h49 : Hp) =>
  gg (β := ((Int32 × Hp) ⊕ ((Int32 × Hp) ⊕ Hp))) (kd h (gP h v0 32) = 20) <|
  gg (β := ((Int32 × Hp) ⊕ ((Int32 × Hp) ⊕ Hp))) (inB v4 (ln h (gP h v0 32)) = true) <|
  lt (α := Hp) (β := Option ((Int32 × Hp) ⊕ ((Int32 × Hp) ⊕ Hp))) (sI h49 (gP h v0 32) v4.toNatClampNeg v7) fun (h56 : Hp) =>
  gg (β := ((Int32 × Hp) ⊕ ((Int32 × Hp) ⊕ Hp))) (kd h (gP h v0 33) = 20) <|
  gg (β := ((Int32 × Hp) ⊕ ((Int32 × Hp) ⊕ Hp))) (inB v4 (ln h (gP h v0 33)) = true) <|
  lt (α := Hp) (β := Option ((Int32 × Hp) ⊕ ((Int32 × Hp) ⊕ Hp))) (sI h56 (gP h v0 33) v4.toNatClampNeg v5) fun (h63 : Hp) =>
  some (.inl ((v5 + (-1 : Int32)), h63))
set_option maxRecDepth 100000 in
set_option maxHeartbeats 8000000 in
theorem kX12_work_170 {d : Nat} {h : Hp} {v0 : Nat} {v1 : Int32} {v3 : Int32} {v4 : Int32} {v5 : Int32} {v6 : Int32} {v7 : Int32} {h9 : Hp} {x : ((Int32 × Hp) ⊕ ((Int32 × Hp) ⊕ Hp))} (H : MX12_work_170 h v0 v1 v3 v4 v5 v6 v7 = some x) (hb0 : ∀ s : Int32 × Hp, x = .inl s → J (d + 4) YX12_work 53 [.ref v0, .int v1, Value.null, .int v3, .int v4, .int s.1, Value.null, Value.null] [] s.2 oV h9) (hb1 : ∀ s : Int32 × Hp, x = .inr (.inl s) → J (d + 4) YX12_work 37 [.ref v0, .int v1, Value.null, .int v3, .int s.1, Value.null, Value.null, Value.null] [] s.2 oV h9) (hx : ∀ z : Hp, x = .inr (.inr (z)) → z = h9) : J (d + 4) YX12_work 170 [.ref v0, .int v1, Value.null, .int v3, .int v4, .int v5, .int v6, .int v7] [] h oV h9 := by
  unfold MX12_work_170 at H
  refine J_aload_n 0 dX12_work_170 rfl rfl ?_
  obtain ⟨g46, H⟩ := gd H
  refine J_gP 11 31 dX12_work_171 g46 flX12_55 rfl rfl ?_
  refine J_iload dX12_work_174 rfl ?_
  refine J_iload dX12_work_176 rfl ?_
  obtain ⟨g47, H⟩ := gd H
  obtain ⟨g48, H⟩ := gd H
  obtain ⟨h49, e50, H⟩ := lt_el H
  refine J_sI dX12_work_178 g47 (inB_ok g48) e50 ?_
  have c51 := ekI e50
  have c52 := elI e50
  have c53 := epI e50
  refine J_aload_n 0 dX12_work_179 rfl rfl ?_
  refine J_gP 11 32 dX12_work_180 (kq c51 g46) flX12_58 rfl (congrFun (congrFun c53 v0) 32) ?_
  refine J_iload dX12_work_183 rfl ?_
  refine J_iload dX12_work_185 rfl ?_
  obtain ⟨g54, H⟩ := gd H
  obtain ⟨g55, H⟩ := gd H
  obtain ⟨h56, e57, H⟩ := lt_el H
  refine J_sI dX12_work_187 (kq c51 g54) (lq c52 g55) e57 ?_
  have c58 := (ekI e57).trans c51
  have c59 := (elI e57).trans c52
  have c60 := (epI e57).trans c53
  refine J_aload_n 0 dX12_work_188 rfl rfl ?_
  refine J_gP 11 33 dX12_work_189 (kq c58 g46) flX12_61 rfl (congrFun (congrFun c60 v0) 33) ?_
  refine J_iload dX12_work_192 rfl ?_
  refine J_iload dX12_work_194 rfl ?_
  obtain ⟨g61, H⟩ := gd H
  obtain ⟨g62, H⟩ := gd H
  obtain ⟨h63, e64, H⟩ := lt_el H
  refine J_sI dX12_work_196 (kq c58 g61) (lq c59 g62) e64 ?_
  have c65 := (ekI e64).trans c58
  have c66 := (elI e64).trans c59
  have c67 := (epI e64).trans c60
  refine J_iinc (v5 + (-1 : Int32)) dX12_work_197 rfl (congrArg (HAdd.hAdd v5) kc_m1) (by decide) (ls' := [.ref v0, .int v1, Value.null, .int v3, .int v4, .int (v5 + (-1 : Int32)), .int v6, .int v7]) rfl ?_
  refine J_goto 53 dX12_work_200 rfl ?_
  cases H
  exact J_dr (hb0 _ rfl) ⟨rfl, ⟨rfl, ⟨rfl, ⟨rfl, ⟨rfl, trivial⟩⟩⟩⟩⟩
noncomputable def BX12_work_53 (h : Hp) (v0 : Nat) (v1 : Int32) (v3 : Int32) (v4 : Int32) (v5 : Int32) : Option ((Int32 × Hp) ⊕ ((Int32 × Hp) ⊕ Hp)) :=
  if v5 ≤ v4 then
    some (.inr (.inl ((v4 + (-1 : Int32)), h)))
  else
    gg (β := ((Int32 × Hp) ⊕ ((Int32 × Hp) ⊕ Hp))) (kd h v0 = 11) <|
    gg (β := ((Int32 × Hp) ⊕ ((Int32 × Hp) ⊕ Hp))) (kd h (gP h v0 31) = 20) <|
    gg (β := ((Int32 × Hp) ⊕ ((Int32 × Hp) ⊕ Hp))) (inB v5 (ln h (gP h v0 31)) = true) <|
    if (gI h (gP h v0 31) v5.toNatClampNeg) = (-1 : Int32) then
      some (.inl ((v5 + (-1 : Int32)), h))
    else
      Option.bind (α := Int32) (β := ((Int32 × Hp) ⊕ ((Int32 × Hp) ⊕ Hp))) (MX12_isStanding h v0 v1 v4 (v5 - (1 : Int32))) fun (t38 : Int32) =>
      if t38 = 0 then
        some (.inl ((v5 + (-1 : Int32)), h))
      else
        Option.bind (α := Int32) (β := ((Int32 × Hp) ⊕ ((Int32 × Hp) ⊕ Hp))) (MX12_badness h v0 v1 v4 (v5 - (1 : Int32))) fun (t41 : Int32) =>
        gg (β := ((Int32 × Hp) ⊕ ((Int32 × Hp) ⊕ Hp))) (kd h (gP h v0 32) = 20) <|
        gg (β := ((Int32 × Hp) ⊕ ((Int32 × Hp) ⊕ Hp))) (inB v5 (ln h (gP h v0 32)) = true) <|
        gg (β := ((Int32 × Hp) ⊕ ((Int32 × Hp) ⊕ Hp))) (inB v4 (ln h (gP h v0 31)) = true) <|
        if (gI h (gP h v0 31) v4.toNatClampNeg) = (-1 : Int32) then
          MX12_work_170 h v0 v1 v3 v4 v5 ((gI h (gP h v0 31) v5.toNatClampNeg) + t41) ((gI h (gP h v0 32) v5.toNatClampNeg) + (1 : Int32))
        else
          if (gI h (gP h v0 31) v4.toNatClampNeg) < ((gI h (gP h v0 31) v5.toNatClampNeg) + t41) then
            some (.inl ((v5 + (-1 : Int32)), h))
          else
            if ((gI h (gP h v0 31) v5.toNatClampNeg) + t41) = (gI h (gP h v0 31) v4.toNatClampNeg) then
              gg (β := ((Int32 × Hp) ⊕ ((Int32 × Hp) ⊕ Hp))) (inB v4 (ln h (gP h v0 32)) = true) <|
              if ((gI h (gP h v0 32) v5.toNatClampNeg) + (1 : Int32)) < (gI h (gP h v0 32) v4.toNatClampNeg) then
                MX12_work_170 h v0 v1 v3 v4 v5 ((gI h (gP h v0 31) v5.toNatClampNeg) + t41) ((gI h (gP h v0 32) v5.toNatClampNeg) + (1 : Int32))
              else
                some (.inl ((v5 + (-1 : Int32)), h))
            else
              MX12_work_170 h v0 v1 v3 v4 v5 ((gI h (gP h v0 31) v5.toNatClampNeg) + t41) ((gI h (gP h v0 32) v5.toNatClampNeg) + (1 : Int32))
set_option maxRecDepth 100000 in
set_option maxHeartbeats 8000000 in
theorem bX12_work_53 {d : Nat} {h : Hp} {v0 : Nat} {v1 : Int32} {v3 : Int32} {v4 : Int32} {v5 : Int32} {h9 : Hp} {x : ((Int32 × Hp) ⊕ ((Int32 × Hp) ⊕ Hp))} (H : BX12_work_53 h v0 v1 v3 v4 v5 = some x) (hb0 : ∀ s : Int32 × Hp, x = .inl s → J (d + 4) YX12_work 53 [.ref v0, .int v1, Value.null, .int v3, .int v4, .int s.1, Value.null, Value.null] [] s.2 oV h9) (hb1 : ∀ s : Int32 × Hp, x = .inr (.inl s) → J (d + 4) YX12_work 37 [.ref v0, .int v1, Value.null, .int v3, .int s.1, Value.null, Value.null, Value.null] [] s.2 oV h9) (hx : ∀ z : Hp, x = .inr (.inr (z)) → z = h9) : J (d + 4) YX12_work 53 [.ref v0, .int v1, Value.null, .int v3, .int v4, .int v5, Value.null, Value.null] [] h oV h9 := by
  unfold BX12_work_53 at H
  refine J_iload dX12_work_53 rfl ?_
  refine J_iload dX12_work_55 rfl ?_
  refine J_icmp_le 203 dX12_work_57 rfl (fun q32 => ?_) (fun q32 => ?_)
  · replace H := br1 q32 H
    refine J_iinc (v4 + (-1 : Int32)) dX12_work_203 rfl (congrArg (HAdd.hAdd v4) kc_m1) (by decide) (ls' := [.ref v0, .int v1, Value.null, .int v3, .int (v4 + (-1 : Int32)), .int v5, Value.null, Value.null]) rfl ?_
    refine J_goto 37 dX12_work_206 rfl ?_
    cases H
    exact J_dr (hb1 _ rfl) ⟨rfl, ⟨rfl, ⟨rfl, ⟨rfl, trivial⟩⟩⟩⟩
  · replace H := br0 q32 H
    refine J_aload_n 0 dX12_work_60 rfl rfl ?_
    obtain ⟨g33, H⟩ := gd H
    refine J_gP 11 31 dX12_work_61 g33 flX12_55 rfl rfl ?_
    refine J_iload dX12_work_64 rfl ?_
    obtain ⟨g34, H⟩ := gd H
    obtain ⟨g35, H⟩ := gd H
    refine J_iald dX12_work_66 g34 (inB_ok g35) ?_
    refine J_iconst (-1 : Int32) dX12_work_67 kc_m1 ?_
    refine J_icmp_eq 197 dX12_work_68 rfl (fun q36 => ?_) (fun q36 => ?_)
    · replace H := br1 q36 H
      refine J_iinc (v5 + (-1 : Int32)) dX12_work_197 rfl (congrArg (HAdd.hAdd v5) kc_m1) (by decide) (ls' := [.ref v0, .int v1, Value.null, .int v3, .int v4, .int (v5 + (-1 : Int32)), Value.null, Value.null]) rfl ?_
      refine J_goto 53 dX12_work_200 rfl ?_
      cases H
      exact J_dr (hb0 _ rfl) ⟨rfl, ⟨rfl, ⟨rfl, ⟨rfl, ⟨rfl, trivial⟩⟩⟩⟩⟩
    · replace H := br0 q36 H
      refine J_aload_n 0 dX12_work_71 rfl rfl ?_
      refine J_iload_n 1 dX12_work_72 rfl rfl ?_
      refine J_iload dX12_work_73 rfl ?_
      refine J_iload dX12_work_75 rfl ?_
      refine J_iconst (1 : Int32) dX12_work_77 kc_1 ?_
      refine J_isub dX12_work_78 ?_
      obtain ⟨t38, e37, H⟩ := bd H
      refine J_cV (as := [.int v1, .int v4, .int (v5 - (1 : Int32))]) 11 YX12_isStanding 3 dX12_work_79 moX12_isStanding mvX12_isStanding mlX12_333 g33 rfl rfl (okX12_isStanding (d := d) e37) rfl rfl [] rfl rfl (st2 := [.int t38]) rfl ?_
      refine J_if_ne 88 dX12_work_82 rfl (fun q39 => ?_) (fun q39 => ?_)
      · replace H := br0 q39 H
        refine J_aload_n 0 dX12_work_88 rfl rfl ?_
        refine J_gP 11 31 dX12_work_89 g33 flX12_55 rfl rfl ?_
        refine J_iload dX12_work_92 rfl ?_
        refine J_iald dX12_work_94 g34 (inB_ok g35) ?_
        refine J_aload_n 0 dX12_work_95 rfl rfl ?_
        refine J_iload_n 1 dX12_work_96 rfl rfl ?_
        refine J_iload dX12_work_97 rfl ?_
        refine J_iload dX12_work_99 rfl ?_
        refine J_iconst (1 : Int32) dX12_work_101 kc_1 ?_
        refine J_isub dX12_work_102 ?_
        obtain ⟨t41, e40, H⟩ := bd H
        refine J_cV (as := [.int v1, .int v4, .int (v5 - (1 : Int32))]) 11 YX12_badness 3 dX12_work_103 moX12_badness mvX12_badness mlX12_336 g33 rfl rfl (okX12_badness (d := d) e40) rfl rfl [.int (gI h (gP h v0 31) v5.toNatClampNeg)] rfl rfl (st2 := [.int t41, .int (gI h (gP h v0 31) v5.toNatClampNeg)]) rfl ?_
        refine J_iadd dX12_work_106 ?_
        refine J_istore dX12_work_107 (by decide) (ls' := [.ref v0, .int v1, Value.null, .int v3, .int v4, .int v5, .int ((gI h (gP h v0 31) v5.toNatClampNeg) + t41), Value.null]) rfl ?_
        refine J_aload_n 0 dX12_work_109 rfl rfl ?_
        refine J_gP 11 32 dX12_work_110 g33 flX12_58 rfl rfl ?_
        refine J_iload dX12_work_113 rfl ?_
        obtain ⟨g42, H⟩ := gd H
        obtain ⟨g43, H⟩ := gd H
        refine J_iald dX12_work_115 g42 (inB_ok g43) ?_
        refine J_iconst (1 : Int32) dX12_work_116 kc_1 ?_
        refine J_iadd dX12_work_117 ?_
        refine J_istore dX12_work_118 (by decide) (ls' := [.ref v0, .int v1, Value.null, .int v3, .int v4, .int v5, .int ((gI h (gP h v0 31) v5.toNatClampNeg) + t41), .int ((gI h (gP h v0 32) v5.toNatClampNeg) + (1 : Int32))]) rfl ?_
        refine J_aload_n 0 dX12_work_120 rfl rfl ?_
        refine J_gP 11 31 dX12_work_121 g33 flX12_55 rfl rfl ?_
        refine J_iload dX12_work_124 rfl ?_
        obtain ⟨g44, H⟩ := gd H
        refine J_iald dX12_work_126 g34 (inB_ok g44) ?_
        refine J_iconst (-1 : Int32) dX12_work_127 kc_m1 ?_
        refine J_icmp_eq 170 dX12_work_128 rfl (fun q45 => ?_) (fun q45 => ?_)
        · replace H := br1 q45 H
          exact J_dr (kX12_work_170 H hb0 hb1 hx) ⟨rfl, ⟨rfl, ⟨rfl, ⟨rfl, ⟨rfl, ⟨rfl, ⟨rfl, trivial⟩⟩⟩⟩⟩⟩⟩
        · replace H := br0 q45 H
          refine J_iload dX12_work_131 rfl ?_
          refine J_aload_n 0 dX12_work_133 rfl rfl ?_
          refine J_gP 11 31 dX12_work_134 g33 flX12_55 rfl rfl ?_
          refine J_iload dX12_work_137 rfl ?_
          refine J_iald dX12_work_139 g34 (inB_ok g44) ?_
          refine J_icmp_gt 197 dX12_work_140 rfl (fun q68 => ?_) (fun q68 => ?_)
          · replace H := br1 q68 H
            refine J_iinc (v5 + (-1 : Int32)) dX12_work_197 rfl (congrArg (HAdd.hAdd v5) kc_m1) (by decide) (ls' := [.ref v0, .int v1, Value.null, .int v3, .int v4, .int (v5 + (-1 : Int32)), .int ((gI h (gP h v0 31) v5.toNatClampNeg) + t41), .int ((gI h (gP h v0 32) v5.toNatClampNeg) + (1 : Int32))]) rfl ?_
            refine J_goto 53 dX12_work_200 rfl ?_
            cases H
            exact J_dr (hb0 _ rfl) ⟨rfl, ⟨rfl, ⟨rfl, ⟨rfl, ⟨rfl, trivial⟩⟩⟩⟩⟩
          · replace H := br0 q68 H
            refine J_iload dX12_work_143 rfl ?_
            refine J_aload_n 0 dX12_work_145 rfl rfl ?_
            refine J_gP 11 31 dX12_work_146 g33 flX12_55 rfl rfl ?_
            refine J_iload dX12_work_149 rfl ?_
            refine J_iald dX12_work_151 g34 (inB_ok g44) ?_
            refine J_icmp_ne 170 dX12_work_152 rfl (fun q69 => ?_) (fun q69 => ?_)
            · replace H := br0 q69 H
              exact J_dr (kX12_work_170 H hb0 hb1 hx) ⟨rfl, ⟨rfl, ⟨rfl, ⟨rfl, ⟨rfl, ⟨rfl, ⟨rfl, trivial⟩⟩⟩⟩⟩⟩⟩
            · replace H := br1 q69 H
              refine J_iload dX12_work_155 rfl ?_
              refine J_aload_n 0 dX12_work_157 rfl rfl ?_
              refine J_gP 11 32 dX12_work_158 g33 flX12_58 rfl rfl ?_
              refine J_iload dX12_work_161 rfl ?_
              obtain ⟨g70, H⟩ := gd H
              refine J_iald dX12_work_163 g42 (inB_ok g70) ?_
              refine J_icmp_lt 170 dX12_work_164 rfl (fun q71 => ?_) (fun q71 => ?_)
              · replace H := br1 q71 H
                exact J_dr (kX12_work_170 H hb0 hb1 hx) ⟨rfl, ⟨rfl, ⟨rfl, ⟨rfl, ⟨rfl, ⟨rfl, ⟨rfl, trivial⟩⟩⟩⟩⟩⟩⟩
              · replace H := br0 q71 H
                refine J_goto 197 dX12_work_167 rfl ?_
                refine J_iinc (v5 + (-1 : Int32)) dX12_work_197 rfl (congrArg (HAdd.hAdd v5) kc_m1) (by decide) (ls' := [.ref v0, .int v1, Value.null, .int v3, .int v4, .int (v5 + (-1 : Int32)), .int ((gI h (gP h v0 31) v5.toNatClampNeg) + t41), .int ((gI h (gP h v0 32) v5.toNatClampNeg) + (1 : Int32))]) rfl ?_
                refine J_goto 53 dX12_work_200 rfl ?_
                cases H
                exact J_dr (hb0 _ rfl) ⟨rfl, ⟨rfl, ⟨rfl, ⟨rfl, ⟨rfl, trivial⟩⟩⟩⟩⟩
      · replace H := br1 q39 H
        refine J_goto 197 dX12_work_85 rfl ?_
        refine J_iinc (v5 + (-1 : Int32)) dX12_work_197 rfl (congrArg (HAdd.hAdd v5) kc_m1) (by decide) (ls' := [.ref v0, .int v1, Value.null, .int v3, .int v4, .int (v5 + (-1 : Int32)), Value.null, Value.null]) rfl ?_
        refine J_goto 53 dX12_work_200 rfl ?_
        cases H
        exact J_dr (hb0 _ rfl) ⟨rfl, ⟨rfl, ⟨rfl, ⟨rfl, ⟨rfl, trivial⟩⟩⟩⟩⟩
noncomputable def MX12_work_53 (h : Hp) (v0 : Nat) (v1 : Int32) (v3 : Int32) (v4 : Int32) (v5 : Int32) : Option ((Int32 × Hp) ⊕ Hp) := it (fun q : Int32 × Hp => BX12_work_53 q.2 v0 v1 v3 v4 q.1) (v5, h)
set_option maxRecDepth 100000 in
set_option maxHeartbeats 8000000 in
theorem kX12_work_53 {d : Nat} {h : Hp} {v0 : Nat} {v1 : Int32} {v3 : Int32} {v4 : Int32} {v5 : Int32} {h9 : Hp} {x : ((Int32 × Hp) ⊕ Hp)} (H : MX12_work_53 h v0 v1 v3 v4 v5 = some x) (hb0 : ∀ s : Int32 × Hp, x = .inl s → J (d + 4) YX12_work 37 [.ref v0, .int v1, Value.null, .int v3, .int s.1, Value.null, Value.null, Value.null] [] s.2 oV h9) (hx : ∀ z : Hp, x = .inr (z) → z = h9) : J (d + 4) YX12_work 53 [.ref v0, .int v1, Value.null, .int v3, .int v4, .int v5, Value.null, Value.null] [] h oV h9 := by
  unfold MX12_work_53 at H
  refine it_J (G := (fun q : Int32 × Hp => J (d + 4) YX12_work 53 [.ref v0, .int v1, Value.null, .int v3, .int v4, .int q.1, Value.null, Value.null] [] q.2 oV h9)) (Q := (fun y : ((Int32 × Hp) ⊕ Hp) => (∀ s : Int32 × Hp, y = .inl s → J (d + 4) YX12_work 37 [.ref v0, .int v1, Value.null, .int v3, .int s.1, Value.null, Value.null, Value.null] [] s.2 oV h9) ∧ (∀ z : Hp, y = .inr (z) → z = h9))) (fun q x Hq hm => ?_) H ⟨hb0, hx⟩
  exact bX12_work_53 Hq (fun s hs => by subst hs; exact hm) (fun s hs => by subst hs; exact (hm.1) s rfl) (fun z hz => by subst hz; exact (hm.2) z rfl)
noncomputable def BX12_work_37 (h : Hp) (v0 : Nat) (v1 : Int32) (v3 : Int32) (v4 : Int32) : Option ((Int32 × Hp) ⊕ Hp) :=
  if v4 < 0 then
    some (.inr (h))
  else
    gg (β := ((Int32 × Hp) ⊕ Hp)) (kd h v0 = 11) <|
    gg (β := ((Int32 × Hp) ⊕ Hp)) (kd h (gP h v0 31) = 20) <|
    gg (β := ((Int32 × Hp) ⊕ Hp)) (inB v4 (ln h (gP h v0 31)) = true) <|
    lt (α := Hp) (β := Option ((Int32 × Hp) ⊕ Hp)) (sI h (gP h v0 31) v4.toNatClampNeg (-1 : Int32)) fun (h27 : Hp) =>
    MX12_work_53 h27 v0 v1 v3 v4 v3
set_option maxRecDepth 100000 in
set_option maxHeartbeats 8000000 in
theorem bX12_work_37 {d : Nat} {h : Hp} {v0 : Nat} {v1 : Int32} {v3 : Int32} {v4 : Int32} {h9 : Hp} {x : ((Int32 × Hp) ⊕ Hp)} (H : BX12_work_37 h v0 v1 v3 v4 = some x) (hb0 : ∀ s : Int32 × Hp, x = .inl s → J (d + 4) YX12_work 37 [.ref v0, .int v1, Value.null, .int v3, .int s.1, Value.null, Value.null, Value.null] [] s.2 oV h9) (hx : ∀ z : Hp, x = .inr (z) → z = h9) : J (d + 4) YX12_work 37 [.ref v0, .int v1, Value.null, .int v3, .int v4, Value.null, Value.null, Value.null] [] h oV h9 := by
  unfold BX12_work_37 at H
  refine J_iload dX12_work_37 rfl ?_
  refine J_if_lt 209 dX12_work_39 rfl (fun q23 => ?_) (fun q23 => ?_)
  · replace H := br1 q23 H
    cases H
    cases hx _ rfl
    exact J_ret dX12_work_209 rfl
  · replace H := br0 q23 H
    refine J_aload_n 0 dX12_work_42 rfl rfl ?_
    obtain ⟨g24, H⟩ := gd H
    refine J_gP 11 31 dX12_work_43 g24 flX12_55 rfl rfl ?_
    refine J_iload dX12_work_46 rfl ?_
    refine J_iconst (-1 : Int32) dX12_work_48 kc_m1 ?_
    obtain ⟨g25, H⟩ := gd H
    obtain ⟨g26, H⟩ := gd H
    obtain ⟨h27, e28, H⟩ := lt_el H
    refine J_sI dX12_work_49 g25 (inB_ok g26) e28 ?_
    have c29 := ekI e28
    have c30 := elI e28
    have c31 := epI e28
    refine J_iload_n 3 dX12_work_50 rfl rfl ?_
    refine J_istore dX12_work_51 (by decide) (ls' := [.ref v0, .int v1, Value.null, .int v3, .int v4, .int v3, Value.null, Value.null]) rfl ?_
    exact J_dr (kX12_work_53 H hb0 hx) ⟨rfl, ⟨rfl, ⟨rfl, ⟨rfl, ⟨rfl, trivial⟩⟩⟩⟩⟩
noncomputable def MX12_work_37 (h : Hp) (v0 : Nat) (v1 : Int32) (v3 : Int32) (v4 : Int32) : Option Hp := it (fun q : Int32 × Hp => BX12_work_37 q.2 v0 v1 v3 q.1) (v4, h)
set_option maxRecDepth 100000 in
set_option maxHeartbeats 8000000 in
theorem kX12_work_37 {d : Nat} {h : Hp} {v0 : Nat} {v1 : Int32} {v3 : Int32} {v4 : Int32} {h9 : Hp} (H : MX12_work_37 h v0 v1 v3 v4 = some h9) : J (d + 4) YX12_work 37 [.ref v0, .int v1, Value.null, .int v3, .int v4, Value.null, Value.null, Value.null] [] h oV h9 := by
  unfold MX12_work_37 at H
  refine it_J (G := (fun q : Int32 × Hp => J (d + 4) YX12_work 37 [.ref v0, .int v1, Value.null, .int v3, .int q.1, Value.null, Value.null, Value.null] [] q.2 oV h9)) (Q := (fun y : Hp => y = h9)) (fun q x Hq hm => ?_) H rfl
  exact bX12_work_37 Hq (fun s hs => by subst hs; exact hm) (fun z hz => by subst hz; exact hm)
noncomputable def MX12_work (h : Hp) (v0 : Nat) (v1 : Int32) (v2 : Int32) : Option Hp :=
  gg (β := Hp) (kd h v0 = 11) <|
  Option.bind (α := Hp) (β := Hp) (MX12_tells h v0 v1 v2) fun (h3 : Hp) =>
  gg (β := Hp) (kd h3 v0 = 11) <|
  Option.bind (α := Int32) (β := Hp) (MX12_part0 h3 v1) fun (t6 : Int32) =>
  gg (β := Hp) (kd h3 (gP h3 v0 1) = 20) <|
  gg (β := Hp) (inB (t6 + (1 : Int32)) (ln h3 (gP h3 v0 1)) = true) <|
  gg (β := Hp) (kd h3 (gP h3 v0 31) = 20) <|
  gg (β := Hp) (inB (gI h3 (gP h3 v0 1) (t6 + (1 : Int32)).toNatClampNeg) (ln h3 (gP h3 v0 31)) = true) <|
  lt (α := Hp) (β := Option Hp) (sI h3 (gP h3 v0 31) (gI h3 (gP h3 v0 1) (t6 + (1 : Int32)).toNatClampNeg).toNatClampNeg (0 : Int32)) fun (h11 : Hp) =>
  gg (β := Hp) (kd h3 (gP h3 v0 32) = 20) <|
  gg (β := Hp) (inB (gI h3 (gP h3 v0 1) (t6 + (1 : Int32)).toNatClampNeg) (ln h3 (gP h3 v0 32)) = true) <|
  lt (α := Hp) (β := Option Hp) (sI h11 (gP h3 v0 32) (gI h3 (gP h3 v0 1) (t6 + (1 : Int32)).toNatClampNeg).toNatClampNeg (0 : Int32)) fun (h18 : Hp) =>
  MX12_work_37 h18 v0 v1 (gI h3 (gP h3 v0 1) (t6 + (1 : Int32)).toNatClampNeg) ((gI h3 (gP h3 v0 1) (t6 + (1 : Int32)).toNatClampNeg) - (1 : Int32))
set_option maxRecDepth 100000 in
set_option maxHeartbeats 8000000 in
theorem eX12_work {d : Nat} {h : Hp} {v0 : Nat} {v1 : Int32} {v2 : Int32} {h9 : Hp} (H : MX12_work h v0 v1 v2 = some h9) : J (d + 4) YX12_work 0 [.ref v0, .int v1, .int v2, Value.null, Value.null, Value.null, Value.null, Value.null] [] h oV h9 := by
  unfold MX12_work at H
  refine J_aload_n 0 dX12_work_0 rfl rfl ?_
  refine J_iload_n 1 dX12_work_1 rfl rfl ?_
  refine J_iload_n 2 dX12_work_2 rfl rfl ?_
  obtain ⟨g2, H⟩ := gd H
  obtain ⟨h3, e1, H⟩ := bd H
  refine J_cV (as := [.int v1, .int v2]) 11 YX12_tells 2 dX12_work_3 moX12_tells mvX12_tells mlX12_314 g2 rfl rfl (okX12_tells (d := d + 1) e1) rfl rfl [] rfl rfl (st2 := []) rfl ?_
  refine J_aload_n 0 dX12_work_6 rfl rfl ?_
  obtain ⟨g4, H⟩ := gd H
  refine J_gP 11 1 dX12_work_7 g4 flX12_8 rfl rfl ?_
  refine J_iload_n 1 dX12_work_10 rfl rfl ?_
  obtain ⟨t6, e5, H⟩ := bd H
  refine J_cS (as := [.int v1]) YX12_part0 1 dX12_work_11 moX12_part0 msX12_part0 mlX12_164 (okX12_part0 (d := d + 3) e5) rfl rfl [.ref (gP h3 v0 1)] rfl rfl (st2 := [.int t6, .ref (gP h3 v0 1)]) rfl ?_
  refine J_iconst (1 : Int32) dX12_work_14 kc_1 ?_
  refine J_iadd dX12_work_15 ?_
  obtain ⟨g7, H⟩ := gd H
  obtain ⟨g8, H⟩ := gd H
  refine J_iald dX12_work_16 g7 (inB_ok g8) ?_
  refine J_istore_n 3 dX12_work_17 rfl (by decide) (ls' := [.ref v0, .int v1, .int v2, .int (gI h3 (gP h3 v0 1) (t6 + (1 : Int32)).toNatClampNeg), Value.null, Value.null, Value.null, Value.null]) rfl ?_
  refine J_aload_n 0 dX12_work_18 rfl rfl ?_
  refine J_gP 11 31 dX12_work_19 g4 flX12_55 rfl rfl ?_
  refine J_iload_n 3 dX12_work_22 rfl rfl ?_
  refine J_iconst (0 : Int32) dX12_work_23 kc_0 ?_
  obtain ⟨g9, H⟩ := gd H
  obtain ⟨g10, H⟩ := gd H
  obtain ⟨h11, e12, H⟩ := lt_el H
  refine J_sI dX12_work_24 g9 (inB_ok g10) e12 ?_
  have c13 := ekI e12
  have c14 := elI e12
  have c15 := epI e12
  refine J_aload_n 0 dX12_work_25 rfl rfl ?_
  refine J_gP 11 32 dX12_work_26 (kq c13 g4) flX12_58 rfl (congrFun (congrFun c15 v0) 32) ?_
  refine J_iload_n 3 dX12_work_29 rfl rfl ?_
  refine J_iconst (0 : Int32) dX12_work_30 kc_0 ?_
  obtain ⟨g16, H⟩ := gd H
  obtain ⟨g17, H⟩ := gd H
  obtain ⟨h18, e19, H⟩ := lt_el H
  refine J_sI dX12_work_31 (kq c13 g16) (lq c14 g17) e19 ?_
  have c20 := (ekI e19).trans c13
  have c21 := (elI e19).trans c14
  have c22 := (epI e19).trans c15
  refine J_iload_n 3 dX12_work_32 rfl rfl ?_
  refine J_iconst (1 : Int32) dX12_work_33 kc_1 ?_
  refine J_isub dX12_work_34 ?_
  refine J_istore dX12_work_35 (by decide) (ls' := [.ref v0, .int v1, .int v2, .int (gI h3 (gP h3 v0 1) (t6 + (1 : Int32)).toNatClampNeg), .int ((gI h3 (gP h3 v0 1) (t6 + (1 : Int32)).toNatClampNeg) - (1 : Int32)), Value.null, Value.null, Value.null]) rfl ?_
  exact J_dr (kX12_work_37 H ) ⟨rfl, ⟨rfl, ⟨rfl, ⟨rfl, trivial⟩⟩⟩⟩
theorem okX12_work {d : Nat} {h : Hp} {v0 : Nat} {v1 : Int32} {v2 : Int32} {h9 : Hp} (H : MX12_work h v0 v1 v2 = some h9) : CT (d + 4) YX12_work [.ref v0, .int v1, .int v2] h oV h9 := CT_of (by decide +kernel) (Nat.le_of_ble_eq_true rfl) (eX12_work H)
noncomputable def MX12_begins (h : Hp) (v0 : Nat) (v1 : Int32) (v2 : Int32) : Option Int32 :=
  if v2 = 0 then
    some (0 : Int32)
  else
    gg (β := Int32) (kd h v0 = 11) <|
    gg (β := Int32) (kd h (gP h v0 1) = 20) <|
    gg (β := Int32) (inB (((v1 + (5 : Int32)) + v2) - (1 : Int32)) (ln h (gP h v0 1)) = true) <|
    some ((gI h (gP h v0 1) (((v1 + (5 : Int32)) + v2) - (1 : Int32)).toNatClampNeg) + (1 : Int32))
set_option maxRecDepth 100000 in
set_option maxHeartbeats 8000000 in
theorem eX12_begins {d : Nat} {h : Hp} {v0 : Nat} {v1 : Int32} {v2 : Int32} {r : Int32} (H : MX12_begins h v0 v1 v2 = some r) : J (d) YX12_begins 0 [.ref v0, .int v1, .int v2] [] h (oI r) h := by
  unfold MX12_begins at H
  refine J_iload_n 2 dX12_begins_0 rfl rfl ?_
  refine J_if_ne 8 dX12_begins_1 rfl (fun q1 => ?_) (fun q1 => ?_)
  · replace H := br0 q1 H
    refine J_aload_n 0 dX12_begins_8 rfl rfl ?_
    obtain ⟨g2, H⟩ := gd H
    refine J_gP 11 1 dX12_begins_9 g2 flX12_8 rfl rfl ?_
    refine J_iload_n 1 dX12_begins_12 rfl rfl ?_
    refine J_iconst (5 : Int32) dX12_begins_13 kc_5 ?_
    refine J_iadd dX12_begins_14 ?_
    refine J_iload_n 2 dX12_begins_15 rfl rfl ?_
    refine J_iadd dX12_begins_16 ?_
    refine J_iconst (1 : Int32) dX12_begins_17 kc_1 ?_
    refine J_isub dX12_begins_18 ?_
    obtain ⟨g3, H⟩ := gd H
    obtain ⟨g4, H⟩ := gd H
    refine J_iald dX12_begins_19 g3 (inB_ok g4) ?_
    refine J_iconst (1 : Int32) dX12_begins_20 kc_1 ?_
    refine J_iadd dX12_begins_21 ?_
    cases H
    exact J_iretI dX12_begins_22 rfl
  · replace H := br1 q1 H
    refine J_iconst (0 : Int32) dX12_begins_4 kc_0 ?_
    refine J_goto 22 dX12_begins_5 rfl ?_
    cases H
    exact J_iretI dX12_begins_22 rfl
theorem okX12_begins {d : Nat} {h : Hp} {v0 : Nat} {v1 : Int32} {v2 : Int32} {r : Int32} (H : MX12_begins h v0 v1 v2 = some r) : CT (d) YX12_begins [.ref v0, .int v1, .int v2] h (oI r) h := CT_of (by decide +kernel) (Nat.le_of_ble_eq_true rfl) (eX12_begins H)
noncomputable def MX12_write_210 (h : Hp) (v0 : Nat) (v3 : Int32) (v4 : Int32) : Option Hp :=
  gg (β := Hp) (kd h v0 = 11) <|
  Option.bind (α := Int32) (β := Hp) (MX12_endsWord h v0 v3 v4) fun (t18 : Int32) =>
  if t18 = 0 then
    gg (β := Hp) (kd h (gP h v0 36) = 20) <|
    gg (β := Hp) (inB (26 : Int32) (ln h (gP h v0 36)) = true) <|
    lt (α := Hp) (β := Option Hp) (sI h (gP h v0 36) (26 : Int32).toNatClampNeg ((gI h (gP h v0 36) (26 : Int32).toNatClampNeg) + (1 : Int32))) fun (h22 : Hp) =>
    gg (β := Hp) (kd h (gP h v0 34) = 20) <|
    gg (β := Hp) (inB (gI h22 v0 35) (ln h (gP h v0 34)) = true) <|
    lt (α := Hp) (β := Option Hp) (sI h22 (gP h v0 34) (gI h22 v0 35).toNatClampNeg (45 : Int32)) fun (h29 : Hp) =>
    lt (α := Hp) (β := Option Hp) (sI h29 v0 35 ((gI h29 v0 35) + (1 : Int32))) fun (h34 : Hp) =>
    some h34
  else
    some h
set_option maxRecDepth 100000 in
set_option maxHeartbeats 8000000 in
theorem kX12_write_210 {d : Nat} {h : Hp} {v0 : Nat} {v3 : Int32} {v4 : Int32} {h9 : Hp} (H : MX12_write_210 h v0 v3 v4 = some h9) : J (d + 1) YX12_write 210 [.ref v0, Value.null, Value.null, .int v3, .int v4, Value.null, Value.null, Value.null] [] h oV h9 := by
  unfold MX12_write_210 at H
  refine J_aload_n 0 dX12_write_210 rfl rfl ?_
  refine J_iload_n 3 dX12_write_211 rfl rfl ?_
  refine J_iload dX12_write_212 rfl ?_
  obtain ⟨g17, H⟩ := gd H
  obtain ⟨t18, e16, H⟩ := bd H
  refine J_cV (as := [.int v3, .int v4]) 11 YX12_endsWord 2 dX12_write_214 moX12_endsWord mvX12_endsWord mlX12_317 g17 rfl rfl (okX12_endsWord (d := d) e16) rfl rfl [] rfl rfl (st2 := [.int t18]) rfl ?_
  refine J_if_eq 221 dX12_write_217 rfl (fun q19 => ?_) (fun q19 => ?_)
  · replace H := br1 q19 H
    refine J_aload_n 0 dX12_write_221 rfl rfl ?_
    refine J_gP 11 36 dX12_write_222 g17 flX12_67 rfl rfl ?_
    refine J_bipush (26 : Int32) dX12_write_225 kb_26 ?_
    refine J_dup2 dX12_write_227 rfl rfl ?_
    obtain ⟨g20, H⟩ := gd H
    obtain ⟨g21, H⟩ := gd H
    refine J_iald dX12_write_228 g20 (inB_ok g21) ?_
    refine J_iconst (1 : Int32) dX12_write_229 kc_1 ?_
    refine J_iadd dX12_write_230 ?_
    obtain ⟨h22, e23, H⟩ := lt_el H
    refine J_sI dX12_write_231 g20 (inB_ok g21) e23 ?_
    have c24 := ekI e23
    have c25 := elI e23
    have c26 := epI e23
    refine J_aload_n 0 dX12_write_232 rfl rfl ?_
    refine J_gP 11 34 dX12_write_233 (kq c24 g17) flX12_64 rfl (congrFun (congrFun c26 v0) 34) ?_
    refine J_aload_n 0 dX12_write_236 rfl rfl ?_
    refine J_getI 11 35 dX12_write_237 (kq c24 g17) flX12_351 rfl ?_
    refine J_bipush (45 : Int32) dX12_write_240 kb_45 ?_
    obtain ⟨g27, H⟩ := gd H
    obtain ⟨g28, H⟩ := gd H
    obtain ⟨h29, e30, H⟩ := lt_el H
    refine J_sI dX12_write_242 (kq c24 g27) (lq c25 g28) e30 ?_
    have c31 := (ekI e30).trans c24
    have c32 := (elI e30).trans c25
    have c33 := (epI e30).trans c26
    refine J_aload_n 0 dX12_write_243 rfl rfl ?_
    refine J_dup dX12_write_244 rfl ?_
    refine J_getI 11 35 dX12_write_245 (kq c31 g17) flX12_351 rfl ?_
    refine J_iconst (1 : Int32) dX12_write_248 kc_1 ?_
    refine J_iadd dX12_write_249 ?_
    obtain ⟨h34, e35, H⟩ := lt_el H
    refine J_pI 11 35 dX12_write_250 (kq c31 g17) flX12_351 rfl rfl e35 ?_
    have c36 := (ekI e35).trans c31
    have c37 := (elI e35).trans c32
    have c38 := (epI e35).trans c33
    cases H
    exact J_ret dX12_write_253 rfl
  · replace H := br0 q19 H
    cases H
    exact J_ret dX12_write_220 rfl
noncomputable def BX12_write_125 (h : Hp) (v0 : Nat) (v2 : Int32) (v3 : Int32) (v4 : Int32) (v5 : Int32) (v6 : Int32) : Option ((Int32 × Hp) ⊕ ((Int32 × Hp) ⊕ Hp)) :=
  gg (β := ((Int32 × Hp) ⊕ ((Int32 × Hp) ⊕ Hp))) (kd h v0 = 11) <|
  gg (β := ((Int32 × Hp) ⊕ ((Int32 × Hp) ⊕ Hp))) (kd h (gP h v0 1) = 20) <|
  gg (β := ((Int32 × Hp) ⊕ ((Int32 × Hp) ⊕ Hp))) (inB ((v3 + (125 : Int32)) + v5) (ln h (gP h v0 1)) = true) <|
  if (gI h (gP h v0 1) ((v3 + (125 : Int32)) + v5).toNatClampNeg) ≤ v6 then
    some (.inr (.inl ((v5 + (1 : Int32)), h)))
  else
    gg (β := ((Int32 × Hp) ⊕ ((Int32 × Hp) ⊕ Hp))) (inB (((v3 + (165 : Int32)) + ((12 : Int32) * v5)) + v6) (ln h (gP h v0 1)) = true) <|
    lt (α := Int32) (β := Option ((Int32 × Hp) ⊕ ((Int32 × Hp) ⊕ Hp))) (gI h (gP h v0 1) (((v3 + (165 : Int32)) + ((12 : Int32) * v5)) + v6).toNatClampNeg) fun (w48 : Int32) =>
    gg (β := ((Int32 × Hp) ⊕ ((Int32 × Hp) ⊕ Hp))) (kd h (gP h v0 36) = 20) <|
    gg (β := ((Int32 × Hp) ⊕ ((Int32 × Hp) ⊕ Hp))) (inB w48 (ln h (gP h v0 36)) = true) <|
    lt (α := Hp) (β := Option ((Int32 × Hp) ⊕ ((Int32 × Hp) ⊕ Hp))) (sI h (gP h v0 36) w48.toNatClampNeg ((gI h (gP h v0 36) w48.toNatClampNeg) + (1 : Int32))) fun (h52 : Hp) =>
    gg (β := ((Int32 × Hp) ⊕ ((Int32 × Hp) ⊕ Hp))) (kd h (gP h v0 34) = 20) <|
    gg (β := ((Int32 × Hp) ⊕ ((Int32 × Hp) ⊕ Hp))) (inB (gI h52 v0 35) (ln h (gP h v0 34)) = true) <|
    lt (α := Hp) (β := Option ((Int32 × Hp) ⊕ ((Int32 × Hp) ⊕ Hp))) (sI h52 (gP h v0 34) (gI h52 v0 35).toNatClampNeg ((97 : Int32) + w48)) fun (h59 : Hp) =>
    lt (α := Hp) (β := Option ((Int32 × Hp) ⊕ ((Int32 × Hp) ⊕ Hp))) (sI h59 v0 35 ((gI h59 v0 35) + (1 : Int32))) fun (h64 : Hp) =>
    some (.inl ((v6 + (1 : Int32)), h64))
set_option maxRecDepth 100000 in
set_option maxHeartbeats 8000000 in
theorem bX12_write_125 {d : Nat} {h : Hp} {v0 : Nat} {v2 : Int32} {v3 : Int32} {v4 : Int32} {v5 : Int32} {v6 : Int32} {h9 : Hp} {x : ((Int32 × Hp) ⊕ ((Int32 × Hp) ⊕ Hp))} (H : BX12_write_125 h v0 v2 v3 v4 v5 v6 = some x) (hb0 : ∀ s : Int32 × Hp, x = .inl s → J (d + 1) YX12_write 125 [.ref v0, Value.null, .int v2, .int v3, .int v4, .int v5, .int s.1, Value.null] [] s.2 oV h9) (hb1 : ∀ s : Int32 × Hp, x = .inr (.inl s) → J (d + 1) YX12_write 54 [.ref v0, Value.null, .int v2, .int v3, .int v4, .int s.1, Value.null, Value.null] [] s.2 oV h9) (hx : ∀ z : Hp, x = .inr (.inr (z)) → z = h9) : J (d + 1) YX12_write 125 [.ref v0, Value.null, .int v2, .int v3, .int v4, .int v5, .int v6, Value.null] [] h oV h9 := by
  unfold BX12_write_125 at H
  refine J_iload dX12_write_125 rfl ?_
  refine J_aload_n 0 dX12_write_127 rfl rfl ?_
  obtain ⟨g43, H⟩ := gd H
  refine J_gP 11 1 dX12_write_128 g43 flX12_8 rfl rfl ?_
  refine J_iload_n 3 dX12_write_131 rfl rfl ?_
  refine J_bipush (125 : Int32) dX12_write_132 kb_125 ?_
  refine J_iadd dX12_write_134 ?_
  refine J_iload dX12_write_135 rfl ?_
  refine J_iadd dX12_write_137 ?_
  obtain ⟨g44, H⟩ := gd H
  obtain ⟨g45, H⟩ := gd H
  refine J_iald dX12_write_138 g44 (inB_ok g45) ?_
  refine J_icmp_ge 204 dX12_write_139 rfl (fun q46 => ?_) (fun q46 => ?_)
  · replace H := br1 q46 H
    refine J_iinc (v5 + (1 : Int32)) dX12_write_204 rfl (congrArg (HAdd.hAdd v5) kc_1) (by decide) (ls' := [.ref v0, Value.null, .int v2, .int v3, .int v4, .int (v5 + (1 : Int32)), .int v6, Value.null]) rfl ?_
    refine J_goto 54 dX12_write_207 rfl ?_
    cases H
    exact J_dr (hb1 _ rfl) ⟨rfl, ⟨rfl, ⟨rfl, ⟨rfl, ⟨rfl, trivial⟩⟩⟩⟩⟩
  · replace H := br0 q46 H
    refine J_aload_n 0 dX12_write_142 rfl rfl ?_
    refine J_gP 11 1 dX12_write_143 g43 flX12_8 rfl rfl ?_
    refine J_iload_n 3 dX12_write_146 rfl rfl ?_
    refine J_sipush (165 : Int32) dX12_write_147 ks_165 ?_
    refine J_iadd dX12_write_150 ?_
    refine J_bipush (12 : Int32) dX12_write_151 kb_12 ?_
    refine J_iload dX12_write_153 rfl ?_
    refine J_imul dX12_write_155 ?_
    refine J_iadd dX12_write_156 ?_
    refine J_iload dX12_write_157 rfl ?_
    refine J_iadd dX12_write_159 ?_
    obtain ⟨g47, H⟩ := gd H
    refine J_iald dX12_write_160 g44 (inB_ok g47) ?_
    obtain ⟨w48, e49, H⟩ := lt_el H
    refine J_nmI e49 ?_
    refine J_istore dX12_write_161 (by decide) (ls' := [.ref v0, Value.null, .int v2, .int v3, .int v4, .int v5, .int v6, .int w48]) rfl ?_
    refine J_aload_n 0 dX12_write_163 rfl rfl ?_
    refine J_gP 11 36 dX12_write_164 g43 flX12_67 rfl rfl ?_
    refine J_iload dX12_write_167 rfl ?_
    refine J_dup2 dX12_write_169 rfl rfl ?_
    obtain ⟨g50, H⟩ := gd H
    obtain ⟨g51, H⟩ := gd H
    refine J_iald dX12_write_170 g50 (inB_ok g51) ?_
    refine J_iconst (1 : Int32) dX12_write_171 kc_1 ?_
    refine J_iadd dX12_write_172 ?_
    obtain ⟨h52, e53, H⟩ := lt_el H
    refine J_sI dX12_write_173 g50 (inB_ok g51) e53 ?_
    have c54 := ekI e53
    have c55 := elI e53
    have c56 := epI e53
    refine J_aload_n 0 dX12_write_174 rfl rfl ?_
    refine J_gP 11 34 dX12_write_175 (kq c54 g43) flX12_64 rfl (congrFun (congrFun c56 v0) 34) ?_
    refine J_aload_n 0 dX12_write_178 rfl rfl ?_
    refine J_getI 11 35 dX12_write_179 (kq c54 g43) flX12_351 rfl ?_
    refine J_bipush (97 : Int32) dX12_write_182 kb_97 ?_
    refine J_iload dX12_write_184 rfl ?_
    refine J_iadd dX12_write_186 ?_
    obtain ⟨g57, H⟩ := gd H
    obtain ⟨g58, H⟩ := gd H
    obtain ⟨h59, e60, H⟩ := lt_el H
    refine J_sI dX12_write_187 (kq c54 g57) (lq c55 g58) e60 ?_
    have c61 := (ekI e60).trans c54
    have c62 := (elI e60).trans c55
    have c63 := (epI e60).trans c56
    refine J_aload_n 0 dX12_write_188 rfl rfl ?_
    refine J_dup dX12_write_189 rfl ?_
    refine J_getI 11 35 dX12_write_190 (kq c61 g43) flX12_351 rfl ?_
    refine J_iconst (1 : Int32) dX12_write_193 kc_1 ?_
    refine J_iadd dX12_write_194 ?_
    obtain ⟨h64, e65, H⟩ := lt_el H
    refine J_pI 11 35 dX12_write_195 (kq c61 g43) flX12_351 rfl rfl e65 ?_
    have c66 := (ekI e65).trans c61
    have c67 := (elI e65).trans c62
    have c68 := (epI e65).trans c63
    refine J_iinc (v6 + (1 : Int32)) dX12_write_198 rfl (congrArg (HAdd.hAdd v6) kc_1) (by decide) (ls' := [.ref v0, Value.null, .int v2, .int v3, .int v4, .int v5, .int (v6 + (1 : Int32)), .int w48]) rfl ?_
    refine J_goto 125 dX12_write_201 rfl ?_
    cases H
    exact J_dr (hb0 _ rfl) ⟨rfl, ⟨rfl, ⟨rfl, ⟨rfl, ⟨rfl, ⟨rfl, trivial⟩⟩⟩⟩⟩⟩
noncomputable def MX12_write_125 (h : Hp) (v0 : Nat) (v2 : Int32) (v3 : Int32) (v4 : Int32) (v5 : Int32) (v6 : Int32) : Option ((Int32 × Hp) ⊕ Hp) := it (fun q : Int32 × Hp => BX12_write_125 q.2 v0 v2 v3 v4 v5 q.1) (v6, h)
set_option maxRecDepth 100000 in
set_option maxHeartbeats 8000000 in
theorem kX12_write_125 {d : Nat} {h : Hp} {v0 : Nat} {v2 : Int32} {v3 : Int32} {v4 : Int32} {v5 : Int32} {v6 : Int32} {h9 : Hp} {x : ((Int32 × Hp) ⊕ Hp)} (H : MX12_write_125 h v0 v2 v3 v4 v5 v6 = some x) (hb0 : ∀ s : Int32 × Hp, x = .inl s → J (d + 1) YX12_write 54 [.ref v0, Value.null, .int v2, .int v3, .int v4, .int s.1, Value.null, Value.null] [] s.2 oV h9) (hx : ∀ z : Hp, x = .inr (z) → z = h9) : J (d + 1) YX12_write 125 [.ref v0, Value.null, .int v2, .int v3, .int v4, .int v5, .int v6, Value.null] [] h oV h9 := by
  unfold MX12_write_125 at H
  refine it_J (G := (fun q : Int32 × Hp => J (d + 1) YX12_write 125 [.ref v0, Value.null, .int v2, .int v3, .int v4, .int v5, .int q.1, Value.null] [] q.2 oV h9)) (Q := (fun y : ((Int32 × Hp) ⊕ Hp) => (∀ s : Int32 × Hp, y = .inl s → J (d + 1) YX12_write 54 [.ref v0, Value.null, .int v2, .int v3, .int v4, .int s.1, Value.null, Value.null] [] s.2 oV h9) ∧ (∀ z : Hp, y = .inr (z) → z = h9))) (fun q x Hq hm => ?_) H ⟨hb0, hx⟩
  exact bX12_write_125 Hq (fun s hs => by subst hs; exact hm) (fun s hs => by subst hs; exact (hm.1) s rfl) (fun z hz => by subst hz; exact (hm.2) z rfl)
noncomputable def MX12_write_122 (h : Hp) (v0 : Nat) (v2 : Int32) (v3 : Int32) (v4 : Int32) (v5 : Int32) : Option ((Int32 × Hp) ⊕ Hp) :=
  MX12_write_125 h v0 v2 v3 v4 v5 (0 : Int32)
set_option maxRecDepth 100000 in
set_option maxHeartbeats 8000000 in
theorem kX12_write_122 {d : Nat} {h : Hp} {v0 : Nat} {v2 : Int32} {v3 : Int32} {v4 : Int32} {v5 : Int32} {h9 : Hp} {x : ((Int32 × Hp) ⊕ Hp)} (H : MX12_write_122 h v0 v2 v3 v4 v5 = some x) (hb0 : ∀ s : Int32 × Hp, x = .inl s → J (d + 1) YX12_write 54 [.ref v0, Value.null, .int v2, .int v3, .int v4, .int s.1, Value.null, Value.null] [] s.2 oV h9) (hx : ∀ z : Hp, x = .inr (z) → z = h9) : J (d + 1) YX12_write 122 [.ref v0, Value.null, .int v2, .int v3, .int v4, .int v5, Value.null, Value.null] [] h oV h9 := by
  unfold MX12_write_122 at H
  refine J_iconst (0 : Int32) dX12_write_122 kc_0 ?_
  refine J_istore dX12_write_123 (by decide) (ls' := [.ref v0, Value.null, .int v2, .int v3, .int v4, .int v5, .int (0 : Int32), Value.null]) rfl ?_
  exact J_dr (kX12_write_125 H hb0 hx) ⟨rfl, ⟨rfl, ⟨rfl, ⟨rfl, ⟨rfl, ⟨rfl, trivial⟩⟩⟩⟩⟩⟩
noncomputable def BX12_write_54 (h : Hp) (v0 : Nat) (v2 : Int32) (v3 : Int32) (v4 : Int32) (v5 : Int32) : Option ((Int32 × Hp) ⊕ Hp) :=
  if v4 < v5 then
    up1 (MX12_write_210 h v0 v3 v4)
  else
    gg (β := ((Int32 × Hp) ⊕ Hp)) (kd h v0 = 11) <|
    Option.bind (α := Int32) (β := ((Int32 × Hp) ⊕ Hp)) (MX12_begins h v0 v3 v2) fun (t41 : Int32) =>
    if v5 ≤ t41 then
      MX12_write_122 h v0 v2 v3 v4 v5
    else
      gg (β := ((Int32 × Hp) ⊕ Hp)) (kd h (gP h v0 1) = 20) <|
      gg (β := ((Int32 × Hp) ⊕ Hp)) (inB ((v3 + (85 : Int32)) + v5) (ln h (gP h v0 1)) = true) <|
      gg (β := ((Int32 × Hp) ⊕ Hp)) (inB (((v3 + (85 : Int32)) + v5) - (1 : Int32)) (ln h (gP h v0 1)) = true) <|
      if (gI h (gP h v0 1) ((v3 + (85 : Int32)) + v5).toNatClampNeg) = (gI h (gP h v0 1) (((v3 + (85 : Int32)) + v5) - (1 : Int32)).toNatClampNeg) then
        MX12_write_122 h v0 v2 v3 v4 v5
      else
        gg (β := ((Int32 × Hp) ⊕ Hp)) (kd h (gP h v0 34) = 20) <|
        gg (β := ((Int32 × Hp) ⊕ Hp)) (inB (gI h v0 35) (ln h (gP h v0 34)) = true) <|
        lt (α := Hp) (β := Option ((Int32 × Hp) ⊕ Hp)) (sI h (gP h v0 34) (gI h v0 35).toNatClampNeg (32 : Int32)) fun (h75 : Hp) =>
        lt (α := Hp) (β := Option ((Int32 × Hp) ⊕ Hp)) (sI h75 v0 35 ((gI h75 v0 35) + (1 : Int32))) fun (h80 : Hp) =>
        MX12_write_122 h80 v0 v2 v3 v4 v5
set_option maxRecDepth 100000 in
set_option maxHeartbeats 8000000 in
theorem bX12_write_54 {d : Nat} {h : Hp} {v0 : Nat} {v2 : Int32} {v3 : Int32} {v4 : Int32} {v5 : Int32} {h9 : Hp} {x : ((Int32 × Hp) ⊕ Hp)} (H : BX12_write_54 h v0 v2 v3 v4 v5 = some x) (hb0 : ∀ s : Int32 × Hp, x = .inl s → J (d + 1) YX12_write 54 [.ref v0, Value.null, .int v2, .int v3, .int v4, .int s.1, Value.null, Value.null] [] s.2 oV h9) (hx : ∀ z : Hp, x = .inr (z) → z = h9) : J (d + 1) YX12_write 54 [.ref v0, Value.null, .int v2, .int v3, .int v4, .int v5, Value.null, Value.null] [] h oV h9 := by
  unfold BX12_write_54 at H
  refine J_iload dX12_write_54 rfl ?_
  refine J_iload dX12_write_56 rfl ?_
  refine J_icmp_gt 210 dX12_write_58 rfl (fun q15 => ?_) (fun q15 => ?_)
  · replace H := br1 q15 H
    obtain ⟨y0, H90, rfl⟩ := up1_el H
    replace H := H90
    obtain rfl := hx _ rfl
    exact J_dr (kX12_write_210 H ) ⟨rfl, ⟨rfl, ⟨rfl, trivial⟩⟩⟩
  · replace H := br0 q15 H
    refine J_iload dX12_write_61 rfl ?_
    refine J_aload_n 0 dX12_write_63 rfl rfl ?_
    refine J_iload_n 3 dX12_write_64 rfl rfl ?_
    refine J_iload_n 2 dX12_write_65 rfl rfl ?_
    obtain ⟨g40, H⟩ := gd H
    obtain ⟨t41, e39, H⟩ := bd H
    refine J_cV (as := [.int v3, .int v2]) 11 YX12_begins 2 dX12_write_66 moX12_begins mvX12_begins mlX12_354 g40 rfl rfl (okX12_begins (d := d) e39) rfl rfl [.int v5] rfl rfl (st2 := [.int t41, .int v5]) rfl ?_
    refine J_icmp_le 122 dX12_write_69 rfl (fun q42 => ?_) (fun q42 => ?_)
    · replace H := br1 q42 H
      exact J_dr (kX12_write_122 H hb0 hx) ⟨rfl, ⟨rfl, ⟨rfl, ⟨rfl, ⟨rfl, trivial⟩⟩⟩⟩⟩
    · replace H := br0 q42 H
      refine J_aload_n 0 dX12_write_72 rfl rfl ?_
      refine J_gP 11 1 dX12_write_73 g40 flX12_8 rfl rfl ?_
      refine J_iload_n 3 dX12_write_76 rfl rfl ?_
      refine J_bipush (85 : Int32) dX12_write_77 kb_85 ?_
      refine J_iadd dX12_write_79 ?_
      refine J_iload dX12_write_80 rfl ?_
      refine J_iadd dX12_write_82 ?_
      obtain ⟨g69, H⟩ := gd H
      obtain ⟨g70, H⟩ := gd H
      refine J_iald dX12_write_83 g69 (inB_ok g70) ?_
      refine J_aload_n 0 dX12_write_84 rfl rfl ?_
      refine J_gP 11 1 dX12_write_85 g40 flX12_8 rfl rfl ?_
      refine J_iload_n 3 dX12_write_88 rfl rfl ?_
      refine J_bipush (85 : Int32) dX12_write_89 kb_85 ?_
      refine J_iadd dX12_write_91 ?_
      refine J_iload dX12_write_92 rfl ?_
      refine J_iadd dX12_write_94 ?_
      refine J_iconst (1 : Int32) dX12_write_95 kc_1 ?_
      refine J_isub dX12_write_96 ?_
      obtain ⟨g71, H⟩ := gd H
      refine J_iald dX12_write_97 g69 (inB_ok g71) ?_
      refine J_icmp_eq 122 dX12_write_98 rfl (fun q72 => ?_) (fun q72 => ?_)
      · replace H := br1 q72 H
        exact J_dr (kX12_write_122 H hb0 hx) ⟨rfl, ⟨rfl, ⟨rfl, ⟨rfl, ⟨rfl, trivial⟩⟩⟩⟩⟩
      · replace H := br0 q72 H
        refine J_aload_n 0 dX12_write_101 rfl rfl ?_
        refine J_gP 11 34 dX12_write_102 g40 flX12_64 rfl rfl ?_
        refine J_aload_n 0 dX12_write_105 rfl rfl ?_
        refine J_getI 11 35 dX12_write_106 g40 flX12_351 rfl ?_
        refine J_bipush (32 : Int32) dX12_write_109 kb_32 ?_
        obtain ⟨g73, H⟩ := gd H
        obtain ⟨g74, H⟩ := gd H
        obtain ⟨h75, e76, H⟩ := lt_el H
        refine J_sI dX12_write_111 g73 (inB_ok g74) e76 ?_
        have c77 := ekI e76
        have c78 := elI e76
        have c79 := epI e76
        refine J_aload_n 0 dX12_write_112 rfl rfl ?_
        refine J_dup dX12_write_113 rfl ?_
        refine J_getI 11 35 dX12_write_114 (kq c77 g40) flX12_351 rfl ?_
        refine J_iconst (1 : Int32) dX12_write_117 kc_1 ?_
        refine J_iadd dX12_write_118 ?_
        obtain ⟨h80, e81, H⟩ := lt_el H
        refine J_pI 11 35 dX12_write_119 (kq c77 g40) flX12_351 rfl rfl e81 ?_
        have c82 := (ekI e81).trans c77
        have c83 := (elI e81).trans c78
        have c84 := (epI e81).trans c79
        exact J_dr (kX12_write_122 H hb0 hx) ⟨rfl, ⟨rfl, ⟨rfl, ⟨rfl, ⟨rfl, trivial⟩⟩⟩⟩⟩
noncomputable def MX12_write_54 (h : Hp) (v0 : Nat) (v2 : Int32) (v3 : Int32) (v4 : Int32) (v5 : Int32) : Option Hp := it (fun q : Int32 × Hp => BX12_write_54 q.2 v0 v2 v3 v4 q.1) (v5, h)
set_option maxRecDepth 100000 in
set_option maxHeartbeats 8000000 in
theorem kX12_write_54 {d : Nat} {h : Hp} {v0 : Nat} {v2 : Int32} {v3 : Int32} {v4 : Int32} {v5 : Int32} {h9 : Hp} (H : MX12_write_54 h v0 v2 v3 v4 v5 = some h9) : J (d + 1) YX12_write 54 [.ref v0, Value.null, .int v2, .int v3, .int v4, .int v5, Value.null, Value.null] [] h oV h9 := by
  unfold MX12_write_54 at H
  refine it_J (G := (fun q : Int32 × Hp => J (d + 1) YX12_write 54 [.ref v0, Value.null, .int v2, .int v3, .int v4, .int q.1, Value.null, Value.null] [] q.2 oV h9)) (Q := (fun y : Hp => y = h9)) (fun q x Hq hm => ?_) H rfl
  exact bX12_write_54 Hq (fun s hs => by subst hs; exact hm) (fun z hz => by subst hz; exact hm)
noncomputable def MX12_write_46 (h : Hp) (v0 : Nat) (v2 : Int32) (v3 : Int32) (v4 : Int32) : Option Hp :=
  gg (β := Hp) (kd h v0 = 11) <|
  Option.bind (α := Int32) (β := Hp) (MX12_begins h v0 v3 v2) fun (t14 : Int32) =>
  MX12_write_54 h v0 v2 v3 v4 t14
set_option maxRecDepth 100000 in
set_option maxHeartbeats 8000000 in
theorem kX12_write_46 {d : Nat} {h : Hp} {v0 : Nat} {v2 : Int32} {v3 : Int32} {v4 : Int32} {h9 : Hp} (H : MX12_write_46 h v0 v2 v3 v4 = some h9) : J (d + 1) YX12_write 46 [.ref v0, Value.null, .int v2, .int v3, .int v4, Value.null, Value.null, Value.null] [] h oV h9 := by
  unfold MX12_write_46 at H
  refine J_aload_n 0 dX12_write_46 rfl rfl ?_
  refine J_iload_n 3 dX12_write_47 rfl rfl ?_
  refine J_iload_n 2 dX12_write_48 rfl rfl ?_
  obtain ⟨g13, H⟩ := gd H
  obtain ⟨t14, e12, H⟩ := bd H
  refine J_cV (as := [.int v3, .int v2]) 11 YX12_begins 2 dX12_write_49 moX12_begins mvX12_begins mlX12_354 g13 rfl rfl (okX12_begins (d := d) e12) rfl rfl [] rfl rfl (st2 := [.int t14]) rfl ?_
  refine J_istore dX12_write_52 (by decide) (ls' := [.ref v0, Value.null, .int v2, .int v3, .int v4, .int t14, Value.null, Value.null]) rfl ?_
  exact J_dr (kX12_write_54 H ) ⟨rfl, ⟨rfl, ⟨rfl, ⟨rfl, ⟨rfl, trivial⟩⟩⟩⟩⟩
noncomputable def BX12_write_25 (h : Hp) (v0 : Nat) (v2 : Int32) (v3 : Int32) (v4 : Int32) (v5 : Int32) : Option ((Int32 × Hp) ⊕ Hp) :=
  if (27 : Int32) ≤ v5 then
    up1 (MX12_write_46 h v0 v2 v3 v4)
  else
    gg (β := ((Int32 × Hp) ⊕ Hp)) (kd h v0 = 11) <|
    gg (β := ((Int32 × Hp) ⊕ Hp)) (kd h (gP h v0 36) = 20) <|
    gg (β := ((Int32 × Hp) ⊕ Hp)) (inB v5 (ln h (gP h v0 36)) = true) <|
    lt (α := Hp) (β := Option ((Int32 × Hp) ⊕ Hp)) (sI h (gP h v0 36) v5.toNatClampNeg (0 : Int32)) fun (h88 : Hp) =>
    some (.inl ((v5 + (1 : Int32)), h88))
set_option maxRecDepth 100000 in
set_option maxHeartbeats 8000000 in
theorem bX12_write_25 {d : Nat} {h : Hp} {v0 : Nat} {v2 : Int32} {v3 : Int32} {v4 : Int32} {v5 : Int32} {h9 : Hp} {x : ((Int32 × Hp) ⊕ Hp)} (H : BX12_write_25 h v0 v2 v3 v4 v5 = some x) (hb0 : ∀ s : Int32 × Hp, x = .inl s → J (d + 1) YX12_write 25 [.ref v0, Value.null, .int v2, .int v3, .int v4, .int s.1, Value.null, Value.null] [] s.2 oV h9) (hx : ∀ z : Hp, x = .inr (z) → z = h9) : J (d + 1) YX12_write 25 [.ref v0, Value.null, .int v2, .int v3, .int v4, .int v5, Value.null, Value.null] [] h oV h9 := by
  unfold BX12_write_25 at H
  refine J_iload dX12_write_25 rfl ?_
  refine J_bipush (27 : Int32) dX12_write_27 kb_27 ?_
  refine J_icmp_ge 46 dX12_write_29 rfl (fun q11 => ?_) (fun q11 => ?_)
  · replace H := br1 q11 H
    obtain ⟨y0, H90, rfl⟩ := up1_el H
    replace H := H90
    obtain rfl := hx _ rfl
    exact J_dr (kX12_write_46 H ) ⟨rfl, ⟨rfl, ⟨rfl, ⟨rfl, trivial⟩⟩⟩⟩
  · replace H := br0 q11 H
    refine J_aload_n 0 dX12_write_32 rfl rfl ?_
    obtain ⟨g85, H⟩ := gd H
    refine J_gP 11 36 dX12_write_33 g85 flX12_67 rfl rfl ?_
    refine J_iload dX12_write_36 rfl ?_
    refine J_iconst (0 : Int32) dX12_write_38 kc_0 ?_
    obtain ⟨g86, H⟩ := gd H
    obtain ⟨g87, H⟩ := gd H
    obtain ⟨h88, e89, H⟩ := lt_el H
    refine J_sI dX12_write_39 g86 (inB_ok g87) e89 ?_
    have c90 := ekI e89
    have c91 := elI e89
    have c92 := epI e89
    refine J_iinc (v5 + (1 : Int32)) dX12_write_40 rfl (congrArg (HAdd.hAdd v5) kc_1) (by decide) (ls' := [.ref v0, Value.null, .int v2, .int v3, .int v4, .int (v5 + (1 : Int32)), Value.null, Value.null]) rfl ?_
    refine J_goto 25 dX12_write_43 rfl ?_
    cases H
    exact J_dr (hb0 _ rfl) ⟨rfl, ⟨rfl, ⟨rfl, ⟨rfl, ⟨rfl, trivial⟩⟩⟩⟩⟩
noncomputable def MX12_write_25 (h : Hp) (v0 : Nat) (v2 : Int32) (v3 : Int32) (v4 : Int32) (v5 : Int32) : Option Hp := it (fun q : Int32 × Hp => BX12_write_25 q.2 v0 v2 v3 v4 q.1) (v5, h)
set_option maxRecDepth 100000 in
set_option maxHeartbeats 8000000 in
theorem kX12_write_25 {d : Nat} {h : Hp} {v0 : Nat} {v2 : Int32} {v3 : Int32} {v4 : Int32} {v5 : Int32} {h9 : Hp} (H : MX12_write_25 h v0 v2 v3 v4 v5 = some h9) : J (d + 1) YX12_write 25 [.ref v0, Value.null, .int v2, .int v3, .int v4, .int v5, Value.null, Value.null] [] h oV h9 := by
  unfold MX12_write_25 at H
  refine it_J (G := (fun q : Int32 × Hp => J (d + 1) YX12_write 25 [.ref v0, Value.null, .int v2, .int v3, .int v4, .int q.1, Value.null, Value.null] [] q.2 oV h9)) (Q := (fun y : Hp => y = h9)) (fun q x Hq hm => ?_) H rfl
  exact bX12_write_25 Hq (fun s hs => by subst hs; exact hm) (fun z hz => by subst hz; exact hm)
noncomputable def MX12_write (h : Hp) (v0 : Nat) (v1 : Int32) (v2 : Int32) : Option Hp :=
  Option.bind (α := Int32) (β := Hp) (MX12_part0 h v1) fun (t2 : Int32) =>
  gg (β := Hp) (kd h v0 = 11) <|
  gg (β := Hp) (kd h (gP h v0 1) = 20) <|
  gg (β := Hp) (inB ((t2 + (5 : Int32)) + v2) (ln h (gP h v0 1)) = true) <|
  lt (α := Hp) (β := Option Hp) (sI h v0 35 (0 : Int32)) fun (h6 : Hp) =>
  MX12_write_25 h6 v0 v2 t2 (gI h (gP h v0 1) ((t2 + (5 : Int32)) + v2).toNatClampNeg) (0 : Int32)
set_option maxRecDepth 100000 in
set_option maxHeartbeats 8000000 in
theorem eX12_write {d : Nat} {h : Hp} {v0 : Nat} {v1 : Int32} {v2 : Int32} {h9 : Hp} (H : MX12_write h v0 v1 v2 = some h9) : J (d + 1) YX12_write 0 [.ref v0, .int v1, .int v2, Value.null, Value.null, Value.null, Value.null, Value.null] [] h oV h9 := by
  unfold MX12_write at H
  refine J_iload_n 1 dX12_write_0 rfl rfl ?_
  obtain ⟨t2, e1, H⟩ := bd H
  refine J_cS (as := [.int v1]) YX12_part0 1 dX12_write_1 moX12_part0 msX12_part0 mlX12_164 (okX12_part0 (d := d) e1) rfl rfl [] rfl rfl (st2 := [.int t2]) rfl ?_
  refine J_istore_n 3 dX12_write_4 rfl (by decide) (ls' := [.ref v0, .int v1, .int v2, .int t2, Value.null, Value.null, Value.null, Value.null]) rfl ?_
  refine J_aload_n 0 dX12_write_5 rfl rfl ?_
  obtain ⟨g3, H⟩ := gd H
  refine J_gP 11 1 dX12_write_6 g3 flX12_8 rfl rfl ?_
  refine J_iload_n 3 dX12_write_9 rfl rfl ?_
  refine J_iconst (5 : Int32) dX12_write_10 kc_5 ?_
  refine J_iadd dX12_write_11 ?_
  refine J_iload_n 2 dX12_write_12 rfl rfl ?_
  refine J_iadd dX12_write_13 ?_
  obtain ⟨g4, H⟩ := gd H
  obtain ⟨g5, H⟩ := gd H
  refine J_iald dX12_write_14 g4 (inB_ok g5) ?_
  refine J_istore dX12_write_15 (by decide) (ls' := [.ref v0, .int v1, .int v2, .int t2, .int (gI h (gP h v0 1) ((t2 + (5 : Int32)) + v2).toNatClampNeg), Value.null, Value.null, Value.null]) rfl ?_
  refine J_aload_n 0 dX12_write_17 rfl rfl ?_
  refine J_iconst (0 : Int32) dX12_write_18 kc_0 ?_
  obtain ⟨h6, e7, H⟩ := lt_el H
  refine J_pI 11 35 dX12_write_19 g3 flX12_351 rfl rfl e7 ?_
  have c8 := ekI e7
  have c9 := elI e7
  have c10 := epI e7
  refine J_iconst (0 : Int32) dX12_write_22 kc_0 ?_
  refine J_istore dX12_write_23 (by decide) (ls' := [.ref v0, .int v1, .int v2, .int t2, .int (gI h (gP h v0 1) ((t2 + (5 : Int32)) + v2).toNatClampNeg), .int (0 : Int32), Value.null, Value.null]) rfl ?_
  exact J_dr (kX12_write_25 H ) ⟨rfl, ⟨rfl, ⟨rfl, ⟨rfl, ⟨rfl, trivial⟩⟩⟩⟩⟩
theorem okX12_write {d : Nat} {h : Hp} {v0 : Nat} {v1 : Int32} {v2 : Int32} {h9 : Hp} (H : MX12_write h v0 v1 v2 = some h9) : CT (d + 1) YX12_write [.ref v0, .int v1, .int v2] h oV h9 := CT_of (by decide +kernel) (Nat.le_of_ble_eq_true rfl) (eX12_write H)
noncomputable def MX12_runsOn_336 (h : Hp) (v0 : Nat) (v1 : Int32) (v2 : Int32) (v3 : Int32) (v4 : Int32) (v6 : Int32) (v7 : Int32) (v8 : Int32) : Option Hp :=
  if v7 = 0 then
    if v8 = 0 then
      gg (β := Hp) (kd h v0 = 11) <|
      gg (β := Hp) (kd h (gP h v0 1) = 20) <|
      gg (β := Hp) (inB (v3 + (3 : Int32)) (ln h (gP h v0 1)) = true) <|
      Option.bind (α := Hp) (β := Hp) (MX12_casts h v0 v1 v4 v6 (gI h (gP h v0 1) (v3 + (3 : Int32)).toNatClampNeg)) fun (h32 : Hp) =>
      gg (β := Hp) (kd h32 v0 = 11) <|
      gg (β := Hp) (kd h32 (gP h32 v0 1) = 20) <|
      gg (β := Hp) (inB (v3 + (1 : Int32)) (ln h32 (gP h32 v0 1)) = true) <|
      lt (α := Hp) (β := Option Hp) (sI h32 (gP h32 v0 1) (v3 + (1 : Int32)).toNatClampNeg ((gI h32 (gP h32 v0 1) (v3 + (1 : Int32)).toNatClampNeg) + (1 : Int32))) fun (h36 : Hp) =>
      gg (β := Hp) (inB (v3 + (2 : Int32)) (ln h32 (gP h32 v0 1)) = true) <|
      if (gI h36 (gP h32 v0 1) (v3 + (1 : Int32)).toNatClampNeg) = (gI h36 (gP h32 v0 1) (v3 + (2 : Int32)).toNatClampNeg) then
        Option.bind (α := Hp) (β := Hp) (MX12_away h36 v0 v1) fun (h44 : Hp) =>
        some h44
      else
        some h36
    else
      gg (β := Hp) (kd h v0 = 11) <|
      gg (β := Hp) (kd h (gP h v0 1) = 20) <|
      gg (β := Hp) (inB (v2 + (31 : Int32)) (ln h (gP h v0 1)) = true) <|
      lt (α := Hp) (β := Option Hp) (sI h (gP h v0 1) (v2 + (31 : Int32)).toNatClampNeg ((gI h (gP h v0 1) (v2 + (31 : Int32)).toNatClampNeg) + (1 : Int32))) fun (h48 : Hp) =>
      some h48
  else
    gg (β := Hp) (kd h v0 = 11) <|
    Option.bind (α := Hp) (β := Hp) (MX12_spikes h v0 v1) fun (h55 : Hp) =>
    some h55
set_option maxRecDepth 100000 in
set_option maxHeartbeats 8000000 in
theorem kX12_runsOn_336 {d : Nat} {h : Hp} {v0 : Nat} {v1 : Int32} {v2 : Int32} {v3 : Int32} {v4 : Int32} {v6 : Int32} {v7 : Int32} {v8 : Int32} {h9 : Hp} (H : MX12_runsOn_336 h v0 v1 v2 v3 v4 v6 v7 v8 = some h9) : J (d + 5) YX12_runsOn 336 [.ref v0, .int v1, .int v2, .int v3, .int v4, Value.null, .int v6, .int v7, .int v8, Value.null] [] h oV h9 := by
  unfold MX12_runsOn_336 at H
  refine J_iload dX12_runsOn_336 rfl ?_
  refine J_if_eq 347 dX12_runsOn_338 rfl (fun q26 => ?_) (fun q26 => ?_)
  · replace H := br1 q26 H
    refine J_iload dX12_runsOn_347 rfl ?_
    refine J_if_eq 366 dX12_runsOn_349 rfl (fun q27 => ?_) (fun q27 => ?_)
    · replace H := br1 q27 H
      refine J_aload_n 0 dX12_runsOn_366 rfl rfl ?_
      refine J_iload_n 1 dX12_runsOn_367 rfl rfl ?_
      refine J_iload dX12_runsOn_368 rfl ?_
      refine J_iload dX12_runsOn_370 rfl ?_
      refine J_aload_n 0 dX12_runsOn_372 rfl rfl ?_
      obtain ⟨g28, H⟩ := gd H
      refine J_gP 11 1 dX12_runsOn_373 g28 flX12_8 rfl rfl ?_
      refine J_iload_n 3 dX12_runsOn_376 rfl rfl ?_
      refine J_iconst (3 : Int32) dX12_runsOn_377 kc_3 ?_
      refine J_iadd dX12_runsOn_378 ?_
      obtain ⟨g29, H⟩ := gd H
      obtain ⟨g30, H⟩ := gd H
      refine J_iald dX12_runsOn_379 g29 (inB_ok g30) ?_
      obtain ⟨h32, e31, H⟩ := bd H
      refine J_cV (as := [.int v1, .int v4, .int v6, .int (gI h (gP h v0 1) (v3 + (3 : Int32)).toNatClampNeg)]) 11 YX12_casts 4 dX12_runsOn_380 moX12_casts mvX12_casts mlX12_379 g28 rfl rfl (okX12_casts (d := d + 2) e31) rfl rfl [] rfl rfl (st2 := []) rfl ?_
      refine J_aload_n 0 dX12_runsOn_383 rfl rfl ?_
      obtain ⟨g33, H⟩ := gd H
      refine J_gP 11 1 dX12_runsOn_384 g33 flX12_8 rfl rfl ?_
      refine J_iload_n 3 dX12_runsOn_387 rfl rfl ?_
      refine J_iconst (1 : Int32) dX12_runsOn_388 kc_1 ?_
      refine J_iadd dX12_runsOn_389 ?_
      refine J_dup2 dX12_runsOn_390 rfl rfl ?_
      obtain ⟨g34, H⟩ := gd H
      obtain ⟨g35, H⟩ := gd H
      refine J_iald dX12_runsOn_391 g34 (inB_ok g35) ?_
      refine J_iconst (1 : Int32) dX12_runsOn_392 kc_1 ?_
      refine J_iadd dX12_runsOn_393 ?_
      obtain ⟨h36, e37, H⟩ := lt_el H
      refine J_sI dX12_runsOn_394 g34 (inB_ok g35) e37 ?_
      have c38 := ekI e37
      have c39 := elI e37
      have c40 := epI e37
      refine J_aload_n 0 dX12_runsOn_395 rfl rfl ?_
      refine J_gP 11 1 dX12_runsOn_396 (kq c38 g33) flX12_8 rfl (congrFun (congrFun c40 v0) 1) ?_
      refine J_iload_n 3 dX12_runsOn_399 rfl rfl ?_
      refine J_iconst (1 : Int32) dX12_runsOn_400 kc_1 ?_
      refine J_iadd dX12_runsOn_401 ?_
      refine J_iald dX12_runsOn_402 (kq c38 g34) (lq c39 g35) ?_
      refine J_aload_n 0 dX12_runsOn_403 rfl rfl ?_
      refine J_gP 11 1 dX12_runsOn_404 (kq c38 g33) flX12_8 rfl (congrFun (congrFun c40 v0) 1) ?_
      refine J_iload_n 3 dX12_runsOn_407 rfl rfl ?_
      refine J_iconst (2 : Int32) dX12_runsOn_408 kc_2 ?_
      refine J_iadd dX12_runsOn_409 ?_
      obtain ⟨g41, H⟩ := gd H
      refine J_iald dX12_runsOn_410 (kq c38 g34) (lq c39 g41) ?_
      refine J_icmp_ne 419 dX12_runsOn_411 rfl (fun q42 => ?_) (fun q42 => ?_)
      · replace H := br0 q42 H
        cases H
        exact J_ret dX12_runsOn_419 rfl
      · replace H := br1 q42 H
        refine J_aload_n 0 dX12_runsOn_414 rfl rfl ?_
        refine J_iload_n 1 dX12_runsOn_415 rfl rfl ?_
        obtain ⟨h44, e43, H⟩ := bd H
        refine J_cV (as := [.int v1]) 11 YX12_away 1 dX12_runsOn_416 moX12_away mvX12_away mlX12_373 (kq c38 g33) rfl rfl (okX12_away (d := d + 3) e43) rfl rfl [] rfl rfl (st2 := []) rfl ?_
        cases H
        exact J_ret dX12_runsOn_419 rfl
    · replace H := br0 q27 H
      refine J_aload_n 0 dX12_runsOn_352 rfl rfl ?_
      obtain ⟨g45, H⟩ := gd H
      refine J_gP 11 1 dX12_runsOn_353 g45 flX12_8 rfl rfl ?_
      refine J_iload_n 2 dX12_runsOn_356 rfl rfl ?_
      refine J_bipush (31 : Int32) dX12_runsOn_357 kb_31 ?_
      refine J_iadd dX12_runsOn_359 ?_
      refine J_dup2 dX12_runsOn_360 rfl rfl ?_
      obtain ⟨g46, H⟩ := gd H
      obtain ⟨g47, H⟩ := gd H
      refine J_iald dX12_runsOn_361 g46 (inB_ok g47) ?_
      refine J_iconst (1 : Int32) dX12_runsOn_362 kc_1 ?_
      refine J_iadd dX12_runsOn_363 ?_
      obtain ⟨h48, e49, H⟩ := lt_el H
      refine J_sI dX12_runsOn_364 g46 (inB_ok g47) e49 ?_
      have c50 := ekI e49
      have c51 := elI e49
      have c52 := epI e49
      cases H
      exact J_ret dX12_runsOn_365 rfl
  · replace H := br0 q26 H
    refine J_aload_n 0 dX12_runsOn_341 rfl rfl ?_
    refine J_iload_n 1 dX12_runsOn_342 rfl rfl ?_
    obtain ⟨g54, H⟩ := gd H
    obtain ⟨h55, e53, H⟩ := bd H
    refine J_cV (as := [.int v1]) 11 YX12_spikes 1 dX12_runsOn_343 moX12_spikes mvX12_spikes mlX12_376 g54 rfl rfl (okX12_spikes (d := d + 2) e53) rfl rfl [] rfl rfl (st2 := []) rfl ?_
    cases H
    exact J_ret dX12_runsOn_346 rfl
noncomputable def MX12_runsOn_328 (h : Hp) (v0 : Nat) (v1 : Int32) (v2 : Int32) (v3 : Int32) (v4 : Int32) (v6 : Int32) (v7 : Int32) (v9 : Int32) (s0 : Int32) : Option ((Int32 × Int32 × Int32) ⊕ Hp) :=
  some (.inl (v7, s0, (v9 + (1 : Int32))))
set_option maxRecDepth 100000 in
set_option maxHeartbeats 8000000 in
theorem kX12_runsOn_328 {d : Nat} {h : Hp} {v0 : Nat} {v1 : Int32} {v2 : Int32} {v3 : Int32} {v4 : Int32} {v6 : Int32} {v7 : Int32} {v9 : Int32} {s0 : Int32} {h9 : Hp} {x : ((Int32 × Int32 × Int32) ⊕ Hp)} (H : MX12_runsOn_328 h v0 v1 v2 v3 v4 v6 v7 v9 s0 = some x) (hb0 : ∀ s : Int32 × Int32 × Int32, x = .inl s → J (d + 5) YX12_runsOn 247 [.ref v0, .int v1, .int v2, .int v3, .int v4, Value.null, .int v6, .int s.1, .int s.2.1, .int s.2.2] [] h oV h9) (hx : ∀ z : Hp, x = .inr (z) → z = h9) : J (d + 5) YX12_runsOn 328 [.ref v0, .int v1, .int v2, .int v3, .int v4, Value.null, .int v6, .int v7, Value.null, .int v9] [.int s0] h oV h9 := by
  unfold MX12_runsOn_328 at H
  refine J_istore dX12_runsOn_328 (by decide) (ls' := [.ref v0, .int v1, .int v2, .int v3, .int v4, Value.null, .int v6, .int v7, .int s0, .int v9]) rfl ?_
  refine J_iinc (v9 + (1 : Int32)) dX12_runsOn_330 rfl (congrArg (HAdd.hAdd v9) kc_1) (by decide) (ls' := [.ref v0, .int v1, .int v2, .int v3, .int v4, Value.null, .int v6, .int v7, .int s0, .int (v9 + (1 : Int32))]) rfl ?_
  refine J_goto 247 dX12_runsOn_333 rfl ?_
  cases H
  exact J_dr (hb0 _ rfl) ⟨rfl, ⟨rfl, ⟨rfl, ⟨rfl, ⟨rfl, ⟨rfl, ⟨rfl, ⟨rfl, ⟨rfl, trivial⟩⟩⟩⟩⟩⟩⟩⟩⟩
noncomputable def MX12_runsOn_323 (h : Hp) (v0 : Nat) (v1 : Int32) (v2 : Int32) (v3 : Int32) (v4 : Int32) (v6 : Int32) (v7 : Int32) (v9 : Int32) : Option ((Int32 × Int32 × Int32) ⊕ Hp) :=
  MX12_runsOn_328 h v0 v1 v2 v3 v4 v6 v7 v9 (1 : Int32)
set_option maxRecDepth 100000 in
set_option maxHeartbeats 8000000 in
theorem kX12_runsOn_323 {d : Nat} {h : Hp} {v0 : Nat} {v1 : Int32} {v2 : Int32} {v3 : Int32} {v4 : Int32} {v6 : Int32} {v7 : Int32} {v9 : Int32} {h9 : Hp} {x : ((Int32 × Int32 × Int32) ⊕ Hp)} (H : MX12_runsOn_323 h v0 v1 v2 v3 v4 v6 v7 v9 = some x) (hb0 : ∀ s : Int32 × Int32 × Int32, x = .inl s → J (d + 5) YX12_runsOn 247 [.ref v0, .int v1, .int v2, .int v3, .int v4, Value.null, .int v6, .int s.1, .int s.2.1, .int s.2.2] [] h oV h9) (hx : ∀ z : Hp, x = .inr (z) → z = h9) : J (d + 5) YX12_runsOn 323 [.ref v0, .int v1, .int v2, .int v3, .int v4, Value.null, .int v6, .int v7, Value.null, .int v9] [] h oV h9 := by
  unfold MX12_runsOn_323 at H
  refine J_iconst (1 : Int32) dX12_runsOn_323 kc_1 ?_
  refine J_goto 328 dX12_runsOn_324 rfl ?_
  exact J_dr (kX12_runsOn_328 H hb0 hx) ⟨rfl, ⟨rfl, ⟨rfl, ⟨rfl, ⟨rfl, ⟨rfl, ⟨rfl, ⟨rfl, trivial⟩⟩⟩⟩⟩⟩⟩⟩
noncomputable def MX12_runsOn_327 (h : Hp) (v0 : Nat) (v1 : Int32) (v2 : Int32) (v3 : Int32) (v4 : Int32) (v6 : Int32) (v7 : Int32) (v9 : Int32) : Option ((Int32 × Int32 × Int32) ⊕ Hp) :=
  MX12_runsOn_328 h v0 v1 v2 v3 v4 v6 v7 v9 (0 : Int32)
set_option maxRecDepth 100000 in
set_option maxHeartbeats 8000000 in
theorem kX12_runsOn_327 {d : Nat} {h : Hp} {v0 : Nat} {v1 : Int32} {v2 : Int32} {v3 : Int32} {v4 : Int32} {v6 : Int32} {v7 : Int32} {v9 : Int32} {h9 : Hp} {x : ((Int32 × Int32 × Int32) ⊕ Hp)} (H : MX12_runsOn_327 h v0 v1 v2 v3 v4 v6 v7 v9 = some x) (hb0 : ∀ s : Int32 × Int32 × Int32, x = .inl s → J (d + 5) YX12_runsOn 247 [.ref v0, .int v1, .int v2, .int v3, .int v4, Value.null, .int v6, .int s.1, .int s.2.1, .int s.2.2] [] h oV h9) (hx : ∀ z : Hp, x = .inr (z) → z = h9) : J (d + 5) YX12_runsOn 327 [.ref v0, .int v1, .int v2, .int v3, .int v4, Value.null, .int v6, .int v7, Value.null, .int v9] [] h oV h9 := by
  unfold MX12_runsOn_327 at H
  refine J_iconst (0 : Int32) dX12_runsOn_327 kc_0 ?_
  exact J_dr (kX12_runsOn_328 H hb0 hx) ⟨rfl, ⟨rfl, ⟨rfl, ⟨rfl, ⟨rfl, ⟨rfl, ⟨rfl, ⟨rfl, trivial⟩⟩⟩⟩⟩⟩⟩⟩
noncomputable def MX12_runsOn_283 (h : Hp) (v0 : Nat) (v1 : Int32) (v2 : Int32) (v3 : Int32) (v4 : Int32) (v6 : Int32) (v8 : Int32) (v9 : Int32) (s0 : Int32) : Option ((Int32 × Int32 × Int32) ⊕ Hp) :=
  if v8 = 0 then
    gg (β := ((Int32 × Int32 × Int32) ⊕ Hp)) (kd h v0 = 11) <|
    gg (β := ((Int32 × Int32 × Int32) ⊕ Hp)) (kd h (gP h v0 36) = 20) <|
    gg (β := ((Int32 × Int32 × Int32) ⊕ Hp)) (inB v9 (ln h (gP h v0 36)) = true) <|
    if (gI h (gP h v0 36) v9.toNatClampNeg) ≤ 0 then
      MX12_runsOn_327 h v0 v1 v2 v3 v4 v6 s0 v9
    else
      gg (β := ((Int32 × Int32 × Int32) ⊕ Hp)) (kd h (gP h v0 1) = 20) <|
      gg (β := ((Int32 × Int32 × Int32) ⊕ Hp)) (inB (0 : Int32) (ln h (gP h v0 1)) = true) <|
      Option.bind (α := Int32) (β := ((Int32 × Int32 × Int32) ⊕ Hp)) (MX12_there h v0 v1 v9 (gI h (gP h v0 1) (0 : Int32).toNatClampNeg)) fun (t65 : Int32) =>
      if (gI h (gP h v0 36) v9.toNatClampNeg) ≤ t65 then
        MX12_runsOn_327 h v0 v1 v2 v3 v4 v6 s0 v9
      else
        MX12_runsOn_323 h v0 v1 v2 v3 v4 v6 s0 v9
  else
    MX12_runsOn_323 h v0 v1 v2 v3 v4 v6 s0 v9
set_option maxRecDepth 100000 in
set_option maxHeartbeats 8000000 in
theorem kX12_runsOn_283 {d : Nat} {h : Hp} {v0 : Nat} {v1 : Int32} {v2 : Int32} {v3 : Int32} {v4 : Int32} {v6 : Int32} {v8 : Int32} {v9 : Int32} {s0 : Int32} {h9 : Hp} {x : ((Int32 × Int32 × Int32) ⊕ Hp)} (H : MX12_runsOn_283 h v0 v1 v2 v3 v4 v6 v8 v9 s0 = some x) (hb0 : ∀ s : Int32 × Int32 × Int32, x = .inl s → J (d + 5) YX12_runsOn 247 [.ref v0, .int v1, .int v2, .int v3, .int v4, Value.null, .int v6, .int s.1, .int s.2.1, .int s.2.2] [] h oV h9) (hx : ∀ z : Hp, x = .inr (z) → z = h9) : J (d + 5) YX12_runsOn 283 [.ref v0, .int v1, .int v2, .int v3, .int v4, Value.null, .int v6, Value.null, .int v8, .int v9] [.int s0] h oV h9 := by
  unfold MX12_runsOn_283 at H
  refine J_istore dX12_runsOn_283 (by decide) (ls' := [.ref v0, .int v1, .int v2, .int v3, .int v4, Value.null, .int v6, .int s0, .int v8, .int v9]) rfl ?_
  refine J_iload dX12_runsOn_285 rfl ?_
  refine J_if_ne 323 dX12_runsOn_287 rfl (fun q57 => ?_) (fun q57 => ?_)
  · replace H := br0 q57 H
    exact J_dr (kX12_runsOn_323 H hb0 hx) ⟨rfl, ⟨rfl, ⟨rfl, ⟨rfl, ⟨rfl, ⟨rfl, ⟨rfl, ⟨rfl, trivial⟩⟩⟩⟩⟩⟩⟩⟩
  · replace H := br1 q57 H
    refine J_aload_n 0 dX12_runsOn_290 rfl rfl ?_
    obtain ⟨g58, H⟩ := gd H
    refine J_gP 11 36 dX12_runsOn_291 g58 flX12_67 rfl rfl ?_
    refine J_iload dX12_runsOn_294 rfl ?_
    obtain ⟨g59, H⟩ := gd H
    obtain ⟨g60, H⟩ := gd H
    refine J_iald dX12_runsOn_296 g59 (inB_ok g60) ?_
    refine J_if_le 327 dX12_runsOn_297 rfl (fun q61 => ?_) (fun q61 => ?_)
    · replace H := br1 q61 H
      exact J_dr (kX12_runsOn_327 H hb0 hx) ⟨rfl, ⟨rfl, ⟨rfl, ⟨rfl, ⟨rfl, ⟨rfl, ⟨rfl, ⟨rfl, trivial⟩⟩⟩⟩⟩⟩⟩⟩
    · replace H := br0 q61 H
      refine J_aload_n 0 dX12_runsOn_300 rfl rfl ?_
      refine J_gP 11 36 dX12_runsOn_301 g58 flX12_67 rfl rfl ?_
      refine J_iload dX12_runsOn_304 rfl ?_
      refine J_iald dX12_runsOn_306 g59 (inB_ok g60) ?_
      refine J_aload_n 0 dX12_runsOn_307 rfl rfl ?_
      refine J_iload_n 1 dX12_runsOn_308 rfl rfl ?_
      refine J_iload dX12_runsOn_309 rfl ?_
      refine J_aload_n 0 dX12_runsOn_311 rfl rfl ?_
      refine J_gP 11 1 dX12_runsOn_312 g58 flX12_8 rfl rfl ?_
      refine J_iconst (0 : Int32) dX12_runsOn_315 kc_0 ?_
      obtain ⟨g62, H⟩ := gd H
      obtain ⟨g63, H⟩ := gd H
      refine J_iald dX12_runsOn_316 g62 (inB_ok g63) ?_
      obtain ⟨t65, e64, H⟩ := bd H
      refine J_cV (as := [.int v1, .int v9, .int (gI h (gP h v0 1) (0 : Int32).toNatClampNeg)]) 11 YX12_there 3 dX12_runsOn_317 moX12_there mvX12_there mlX12_366 g58 rfl rfl (okX12_there (d := d + 3) e64) rfl rfl [.int (gI h (gP h v0 36) v9.toNatClampNeg)] rfl rfl (st2 := [.int t65, .int (gI h (gP h v0 36) v9.toNatClampNeg)]) rfl ?_
      refine J_icmp_le 327 dX12_runsOn_320 rfl (fun q66 => ?_) (fun q66 => ?_)
      · replace H := br1 q66 H
        exact J_dr (kX12_runsOn_327 H hb0 hx) ⟨rfl, ⟨rfl, ⟨rfl, ⟨rfl, ⟨rfl, ⟨rfl, ⟨rfl, ⟨rfl, trivial⟩⟩⟩⟩⟩⟩⟩⟩
      · replace H := br0 q66 H
        exact J_dr (kX12_runsOn_323 H hb0 hx) ⟨rfl, ⟨rfl, ⟨rfl, ⟨rfl, ⟨rfl, ⟨rfl, ⟨rfl, ⟨rfl, trivial⟩⟩⟩⟩⟩⟩⟩⟩
noncomputable def MX12_runsOn_278 (h : Hp) (v0 : Nat) (v1 : Int32) (v2 : Int32) (v3 : Int32) (v4 : Int32) (v6 : Int32) (v8 : Int32) (v9 : Int32) : Option ((Int32 × Int32 × Int32) ⊕ Hp) :=
  MX12_runsOn_283 h v0 v1 v2 v3 v4 v6 v8 v9 (1 : Int32)
set_option maxRecDepth 100000 in
set_option maxHeartbeats 8000000 in
theorem kX12_runsOn_278 {d : Nat} {h : Hp} {v0 : Nat} {v1 : Int32} {v2 : Int32} {v3 : Int32} {v4 : Int32} {v6 : Int32} {v8 : Int32} {v9 : Int32} {h9 : Hp} {x : ((Int32 × Int32 × Int32) ⊕ Hp)} (H : MX12_runsOn_278 h v0 v1 v2 v3 v4 v6 v8 v9 = some x) (hb0 : ∀ s : Int32 × Int32 × Int32, x = .inl s → J (d + 5) YX12_runsOn 247 [.ref v0, .int v1, .int v2, .int v3, .int v4, Value.null, .int v6, .int s.1, .int s.2.1, .int s.2.2] [] h oV h9) (hx : ∀ z : Hp, x = .inr (z) → z = h9) : J (d + 5) YX12_runsOn 278 [.ref v0, .int v1, .int v2, .int v3, .int v4, Value.null, .int v6, Value.null, .int v8, .int v9] [] h oV h9 := by
  unfold MX12_runsOn_278 at H
  refine J_iconst (1 : Int32) dX12_runsOn_278 kc_1 ?_
  refine J_goto 283 dX12_runsOn_279 rfl ?_
  exact J_dr (kX12_runsOn_283 H hb0 hx) ⟨rfl, ⟨rfl, ⟨rfl, ⟨rfl, ⟨rfl, ⟨rfl, ⟨rfl, ⟨rfl, trivial⟩⟩⟩⟩⟩⟩⟩⟩
noncomputable def BX12_runsOn_247 (h : Hp) (v0 : Nat) (v1 : Int32) (v2 : Int32) (v3 : Int32) (v4 : Int32) (v6 : Int32) (v7 : Int32) (v8 : Int32) (v9 : Int32) : Option ((Int32 × Int32 × Int32) ⊕ Hp) :=
  if (27 : Int32) ≤ v9 then
    up1 (MX12_runsOn_336 h v0 v1 v2 v3 v4 v6 v7 v8)
  else
    if v7 = 0 then
      gg (β := ((Int32 × Int32 × Int32) ⊕ Hp)) (kd h v0 = 11) <|
      gg (β := ((Int32 × Int32 × Int32) ⊕ Hp)) (kd h (gP h v0 36) = 20) <|
      gg (β := ((Int32 × Int32 × Int32) ⊕ Hp)) (inB v9 (ln h (gP h v0 36)) = true) <|
      gg (β := ((Int32 × Int32 × Int32) ⊕ Hp)) (kd h (gP h v0 1) = 20) <|
      gg (β := ((Int32 × Int32 × Int32) ⊕ Hp)) (inB (v2 + v9) (ln h (gP h v0 1)) = true) <|
      if (gI h (gP h v0 36) v9.toNatClampNeg) ≤ (gI h (gP h v0 1) (v2 + v9).toNatClampNeg) then
        MX12_runsOn_283 h v0 v1 v2 v3 v4 v6 v8 v9 (0 : Int32)
      else
        MX12_runsOn_278 h v0 v1 v2 v3 v4 v6 v8 v9
    else
      MX12_runsOn_278 h v0 v1 v2 v3 v4 v6 v8 v9
set_option maxRecDepth 100000 in
set_option maxHeartbeats 8000000 in
theorem bX12_runsOn_247 {d : Nat} {h : Hp} {v0 : Nat} {v1 : Int32} {v2 : Int32} {v3 : Int32} {v4 : Int32} {v6 : Int32} {v7 : Int32} {v8 : Int32} {v9 : Int32} {h9 : Hp} {x : ((Int32 × Int32 × Int32) ⊕ Hp)} (H : BX12_runsOn_247 h v0 v1 v2 v3 v4 v6 v7 v8 v9 = some x) (hb0 : ∀ s : Int32 × Int32 × Int32, x = .inl s → J (d + 5) YX12_runsOn 247 [.ref v0, .int v1, .int v2, .int v3, .int v4, Value.null, .int v6, .int s.1, .int s.2.1, .int s.2.2] [] h oV h9) (hx : ∀ z : Hp, x = .inr (z) → z = h9) : J (d + 5) YX12_runsOn 247 [.ref v0, .int v1, .int v2, .int v3, .int v4, Value.null, .int v6, .int v7, .int v8, .int v9] [] h oV h9 := by
  unfold BX12_runsOn_247 at H
  refine J_iload dX12_runsOn_247 rfl ?_
  refine J_bipush (27 : Int32) dX12_runsOn_249 kb_27 ?_
  refine J_icmp_ge 336 dX12_runsOn_251 rfl (fun q25 => ?_) (fun q25 => ?_)
  · replace H := br1 q25 H
    obtain ⟨y0, H90, rfl⟩ := up1_el H
    replace H := H90
    obtain rfl := hx _ rfl
    exact J_dr (kX12_runsOn_336 H ) ⟨rfl, ⟨rfl, ⟨rfl, ⟨rfl, ⟨rfl, ⟨rfl, ⟨rfl, ⟨rfl, trivial⟩⟩⟩⟩⟩⟩⟩⟩
  · replace H := br0 q25 H
    refine J_iload dX12_runsOn_254 rfl ?_
    refine J_if_ne 278 dX12_runsOn_256 rfl (fun q56 => ?_) (fun q56 => ?_)
    · replace H := br0 q56 H
      exact J_dr (kX12_runsOn_278 H hb0 hx) ⟨rfl, ⟨rfl, ⟨rfl, ⟨rfl, ⟨rfl, ⟨rfl, ⟨rfl, ⟨rfl, trivial⟩⟩⟩⟩⟩⟩⟩⟩
    · replace H := br1 q56 H
      refine J_aload_n 0 dX12_runsOn_259 rfl rfl ?_
      obtain ⟨g67, H⟩ := gd H
      refine J_gP 11 36 dX12_runsOn_260 g67 flX12_67 rfl rfl ?_
      refine J_iload dX12_runsOn_263 rfl ?_
      obtain ⟨g68, H⟩ := gd H
      obtain ⟨g69, H⟩ := gd H
      refine J_iald dX12_runsOn_265 g68 (inB_ok g69) ?_
      refine J_aload_n 0 dX12_runsOn_266 rfl rfl ?_
      refine J_gP 11 1 dX12_runsOn_267 g67 flX12_8 rfl rfl ?_
      refine J_iload_n 2 dX12_runsOn_270 rfl rfl ?_
      refine J_iload dX12_runsOn_271 rfl ?_
      refine J_iadd dX12_runsOn_273 ?_
      obtain ⟨g70, H⟩ := gd H
      obtain ⟨g71, H⟩ := gd H
      refine J_iald dX12_runsOn_274 g70 (inB_ok g71) ?_
      refine J_icmp_le 282 dX12_runsOn_275 rfl (fun q72 => ?_) (fun q72 => ?_)
      · replace H := br1 q72 H
        refine J_iconst (0 : Int32) dX12_runsOn_282 kc_0 ?_
        exact J_dr (kX12_runsOn_283 H hb0 hx) ⟨rfl, ⟨rfl, ⟨rfl, ⟨rfl, ⟨rfl, ⟨rfl, ⟨rfl, ⟨rfl, trivial⟩⟩⟩⟩⟩⟩⟩⟩
      · replace H := br0 q72 H
        exact J_dr (kX12_runsOn_278 H hb0 hx) ⟨rfl, ⟨rfl, ⟨rfl, ⟨rfl, ⟨rfl, ⟨rfl, ⟨rfl, ⟨rfl, trivial⟩⟩⟩⟩⟩⟩⟩⟩
noncomputable def MX12_runsOn_247 (h : Hp) (v0 : Nat) (v1 : Int32) (v2 : Int32) (v3 : Int32) (v4 : Int32) (v6 : Int32) (v7 : Int32) (v8 : Int32) (v9 : Int32) : Option Hp := it (fun q : Int32 × Int32 × Int32 => BX12_runsOn_247 h v0 v1 v2 v3 v4 v6 q.1 q.2.1 q.2.2) (v7, v8, v9)
set_option maxRecDepth 100000 in
set_option maxHeartbeats 8000000 in
theorem kX12_runsOn_247 {d : Nat} {h : Hp} {v0 : Nat} {v1 : Int32} {v2 : Int32} {v3 : Int32} {v4 : Int32} {v6 : Int32} {v7 : Int32} {v8 : Int32} {v9 : Int32} {h9 : Hp} (H : MX12_runsOn_247 h v0 v1 v2 v3 v4 v6 v7 v8 v9 = some h9) : J (d + 5) YX12_runsOn 247 [.ref v0, .int v1, .int v2, .int v3, .int v4, Value.null, .int v6, .int v7, .int v8, .int v9] [] h oV h9 := by
  unfold MX12_runsOn_247 at H
  refine it_J (G := (fun q : Int32 × Int32 × Int32 => J (d + 5) YX12_runsOn 247 [.ref v0, .int v1, .int v2, .int v3, .int v4, Value.null, .int v6, .int q.1, .int q.2.1, .int q.2.2] [] h oV h9)) (Q := (fun y : Hp => y = h9)) (fun q x Hq hm => ?_) H rfl
  exact bX12_runsOn_247 Hq (fun s hs => by subst hs; exact hm) (fun z hz => by subst hz; exact hm)
noncomputable def MX12_runsOn_242 (h : Hp) (v0 : Nat) (v1 : Int32) (v2 : Int32) (v3 : Int32) (v4 : Int32) (v6 : Int32) (v7 : Int32) (s0 : Int32) : Option Hp :=
  MX12_runsOn_247 h v0 v1 v2 v3 v4 v6 v7 s0 (0 : Int32)
set_option maxRecDepth 100000 in
set_option maxHeartbeats 8000000 in
theorem kX12_runsOn_242 {d : Nat} {h : Hp} {v0 : Nat} {v1 : Int32} {v2 : Int32} {v3 : Int32} {v4 : Int32} {v6 : Int32} {v7 : Int32} {s0 : Int32} {h9 : Hp} (H : MX12_runsOn_242 h v0 v1 v2 v3 v4 v6 v7 s0 = some h9) : J (d + 5) YX12_runsOn 242 [.ref v0, .int v1, .int v2, .int v3, .int v4, Value.null, .int v6, .int v7, Value.null, Value.null] [.int s0] h oV h9 := by
  unfold MX12_runsOn_242 at H
  refine J_istore dX12_runsOn_242 (by decide) (ls' := [.ref v0, .int v1, .int v2, .int v3, .int v4, Value.null, .int v6, .int v7, .int s0, Value.null]) rfl ?_
  refine J_iconst (0 : Int32) dX12_runsOn_244 kc_0 ?_
  refine J_istore dX12_runsOn_245 (by decide) (ls' := [.ref v0, .int v1, .int v2, .int v3, .int v4, Value.null, .int v6, .int v7, .int s0, .int (0 : Int32)]) rfl ?_
  exact J_dr (kX12_runsOn_247 H ) ⟨rfl, ⟨rfl, ⟨rfl, ⟨rfl, ⟨rfl, ⟨rfl, ⟨rfl, ⟨rfl, ⟨rfl, trivial⟩⟩⟩⟩⟩⟩⟩⟩⟩
noncomputable def MX12_runsOn_184 (h : Hp) (v0 : Nat) (v1 : Int32) (v2 : Int32) (v3 : Int32) (v4 : Int32) (v5 : Int32) : Option Hp :=
  gg (β := Hp) (kd h v0 = 11) <|
  gg (β := Hp) (kd h (gP h v0 1) = 20) <|
  gg (β := Hp) (inB (v3 + (1 : Int32)) (ln h (gP h v0 1)) = true) <|
  gg (β := Hp) (inB (v5 + (4 : Int32)) (ln h (gP h v0 1)) = true) <|
  if (gI h (gP h v0 1) (v3 + (1 : Int32)).toNatClampNeg) < (gI h (gP h v0 1) (v5 + (4 : Int32)).toNatClampNeg) then
    Option.bind (α := Hp) (β := Hp) (MX12_write h v0 v4 (gI h (gP h v0 1) (v3 + (1 : Int32)).toNatClampNeg)) fun (h20 : Hp) =>
    gg (β := Hp) (kd h20 v0 = 11) <|
    gg (β := Hp) (kd h20 (gP h20 v0 1) = 20) <|
    gg (β := Hp) (inB (4 : Int32) (ln h20 (gP h20 v0 1)) = true) <|
    if (gI h20 (gP h20 v0 1) (4 : Int32).toNatClampNeg) = (300 : Int32) then
      MX12_runsOn_242 h20 v0 v1 v2 v3 v4 (gI h (gP h v0 1) (v3 + (1 : Int32)).toNatClampNeg) (0 : Int32) (1 : Int32)
    else
      MX12_runsOn_242 h20 v0 v1 v2 v3 v4 (gI h (gP h v0 1) (v3 + (1 : Int32)).toNatClampNeg) (0 : Int32) (0 : Int32)
  else
    Option.bind (α := Hp) (β := Hp) (MX12_spikes h v0 v1) fun (h74 : Hp) =>
    some h74
set_option maxRecDepth 100000 in
set_option maxHeartbeats 8000000 in
theorem kX12_runsOn_184 {d : Nat} {h : Hp} {v0 : Nat} {v1 : Int32} {v2 : Int32} {v3 : Int32} {v4 : Int32} {v5 : Int32} {h9 : Hp} (H : MX12_runsOn_184 h v0 v1 v2 v3 v4 v5 = some h9) : J (d + 5) YX12_runsOn 184 [.ref v0, .int v1, .int v2, .int v3, .int v4, .int v5, Value.null, Value.null, Value.null, Value.null] [] h oV h9 := by
  unfold MX12_runsOn_184 at H
  refine J_aload_n 0 dX12_runsOn_184 rfl rfl ?_
  obtain ⟨g14, H⟩ := gd H
  refine J_gP 11 1 dX12_runsOn_185 g14 flX12_8 rfl rfl ?_
  refine J_iload_n 3 dX12_runsOn_188 rfl rfl ?_
  refine J_iconst (1 : Int32) dX12_runsOn_189 kc_1 ?_
  refine J_iadd dX12_runsOn_190 ?_
  obtain ⟨g15, H⟩ := gd H
  obtain ⟨g16, H⟩ := gd H
  refine J_iald dX12_runsOn_191 g15 (inB_ok g16) ?_
  refine J_istore dX12_runsOn_192 (by decide) (ls' := [.ref v0, .int v1, .int v2, .int v3, .int v4, .int v5, .int (gI h (gP h v0 1) (v3 + (1 : Int32)).toNatClampNeg), Value.null, Value.null, Value.null]) rfl ?_
  refine J_iload dX12_runsOn_194 rfl ?_
  refine J_aload_n 0 dX12_runsOn_196 rfl rfl ?_
  refine J_gP 11 1 dX12_runsOn_197 g14 flX12_8 rfl rfl ?_
  refine J_iload dX12_runsOn_200 rfl ?_
  refine J_iconst (4 : Int32) dX12_runsOn_202 kc_4 ?_
  refine J_iadd dX12_runsOn_203 ?_
  obtain ⟨g17, H⟩ := gd H
  refine J_iald dX12_runsOn_204 g15 (inB_ok g17) ?_
  refine J_icmp_lt 214 dX12_runsOn_205 rfl (fun q18 => ?_) (fun q18 => ?_)
  · replace H := br1 q18 H
    refine J_aload_n 0 dX12_runsOn_214 rfl rfl ?_
    refine J_iload dX12_runsOn_215 rfl ?_
    refine J_iload dX12_runsOn_217 rfl ?_
    obtain ⟨h20, e19, H⟩ := bd H
    refine J_cV (as := [.int v4, .int (gI h (gP h v0 1) (v3 + (1 : Int32)).toNatClampNeg)]) 11 YX12_write 2 dX12_runsOn_219 moX12_write mvX12_write mlX12_357 g14 rfl rfl (okX12_write (d := d + 3) e19) rfl rfl [] rfl rfl (st2 := []) rfl ?_
    refine J_iconst (0 : Int32) dX12_runsOn_222 kc_0 ?_
    refine J_istore dX12_runsOn_223 (by decide) (ls' := [.ref v0, .int v1, .int v2, .int v3, .int v4, .int v5, .int (gI h (gP h v0 1) (v3 + (1 : Int32)).toNatClampNeg), .int (0 : Int32), Value.null, Value.null]) rfl ?_
    refine J_aload_n 0 dX12_runsOn_225 rfl rfl ?_
    obtain ⟨g21, H⟩ := gd H
    refine J_gP 11 1 dX12_runsOn_226 g21 flX12_8 rfl rfl ?_
    refine J_iconst (4 : Int32) dX12_runsOn_229 kc_4 ?_
    obtain ⟨g22, H⟩ := gd H
    obtain ⟨g23, H⟩ := gd H
    refine J_iald dX12_runsOn_230 g22 (inB_ok g23) ?_
    refine J_sipush (300 : Int32) dX12_runsOn_231 ks_300 ?_
    refine J_icmp_ne 241 dX12_runsOn_234 rfl (fun q24 => ?_) (fun q24 => ?_)
    · replace H := br0 q24 H
      refine J_iconst (0 : Int32) dX12_runsOn_241 kc_0 ?_
      exact J_dr (kX12_runsOn_242 H ) ⟨rfl, ⟨rfl, ⟨rfl, ⟨rfl, ⟨rfl, ⟨rfl, ⟨rfl, trivial⟩⟩⟩⟩⟩⟩⟩
    · replace H := br1 q24 H
      refine J_iconst (1 : Int32) dX12_runsOn_237 kc_1 ?_
      refine J_goto 242 dX12_runsOn_238 rfl ?_
      exact J_dr (kX12_runsOn_242 H ) ⟨rfl, ⟨rfl, ⟨rfl, ⟨rfl, ⟨rfl, ⟨rfl, ⟨rfl, trivial⟩⟩⟩⟩⟩⟩⟩
  · replace H := br0 q18 H
    refine J_aload_n 0 dX12_runsOn_208 rfl rfl ?_
    refine J_iload_n 1 dX12_runsOn_209 rfl rfl ?_
    obtain ⟨h74, e73, H⟩ := bd H
    refine J_cV (as := [.int v1]) 11 YX12_spikes 1 dX12_runsOn_210 moX12_spikes mvX12_spikes mlX12_376 g14 rfl rfl (okX12_spikes (d := d + 2) e73) rfl rfl [] rfl rfl (st2 := []) rfl ?_
    cases H
    exact J_ret dX12_runsOn_213 rfl
noncomputable def MX12_runsOn_155 (h : Hp) (v0 : Nat) (v1 : Int32) (v2 : Int32) (v3 : Int32) (v4 : Int32) (v5 : Int32) : Option Hp :=
  gg (β := Hp) (kd h v0 = 11) <|
  gg (β := Hp) (kd h (gP h v0 1) = 20) <|
  gg (β := Hp) (inB (v3 + (4 : Int32)) (ln h (gP h v0 1)) = true) <|
  if (gI h (gP h v0 1) (v3 + (4 : Int32)).toNatClampNeg) = (1 : Int32) then
    gg (β := Hp) (inB (v5 + (4 : Int32)) (ln h (gP h v0 1)) = true) <|
    gg (β := Hp) (inB (v3 + (2 : Int32)) (ln h (gP h v0 1)) = true) <|
    lt (α := Hp) (β := Option Hp) (sI h (gP h v0 1) (v3 + (2 : Int32)).toNatClampNeg (gI h (gP h v0 1) (v5 + (4 : Int32)).toNatClampNeg)) fun (h77 : Hp) =>
    MX12_runsOn_184 h77 v0 v1 v2 v3 v4 v5
  else
    MX12_runsOn_184 h v0 v1 v2 v3 v4 v5
set_option maxRecDepth 100000 in
set_option maxHeartbeats 8000000 in
theorem kX12_runsOn_155 {d : Nat} {h : Hp} {v0 : Nat} {v1 : Int32} {v2 : Int32} {v3 : Int32} {v4 : Int32} {v5 : Int32} {h9 : Hp} (H : MX12_runsOn_155 h v0 v1 v2 v3 v4 v5 = some h9) : J (d + 5) YX12_runsOn 155 [.ref v0, .int v1, .int v2, .int v3, .int v4, .int v5, Value.null, Value.null, Value.null, Value.null] [] h oV h9 := by
  unfold MX12_runsOn_155 at H
  refine J_aload_n 0 dX12_runsOn_155 rfl rfl ?_
  obtain ⟨g10, H⟩ := gd H
  refine J_gP 11 1 dX12_runsOn_156 g10 flX12_8 rfl rfl ?_
  refine J_iload_n 3 dX12_runsOn_159 rfl rfl ?_
  refine J_iconst (4 : Int32) dX12_runsOn_160 kc_4 ?_
  refine J_iadd dX12_runsOn_161 ?_
  obtain ⟨g11, H⟩ := gd H
  obtain ⟨g12, H⟩ := gd H
  refine J_iald dX12_runsOn_162 g11 (inB_ok g12) ?_
  refine J_iconst (1 : Int32) dX12_runsOn_163 kc_1 ?_
  refine J_icmp_ne 184 dX12_runsOn_164 rfl (fun q13 => ?_) (fun q13 => ?_)
  · replace H := br0 q13 H
    exact J_dr (kX12_runsOn_184 H ) ⟨rfl, ⟨rfl, ⟨rfl, ⟨rfl, ⟨rfl, ⟨rfl, trivial⟩⟩⟩⟩⟩⟩
  · replace H := br1 q13 H
    refine J_aload_n 0 dX12_runsOn_167 rfl rfl ?_
    refine J_gP 11 1 dX12_runsOn_168 g10 flX12_8 rfl rfl ?_
    refine J_iload_n 3 dX12_runsOn_171 rfl rfl ?_
    refine J_iconst (2 : Int32) dX12_runsOn_172 kc_2 ?_
    refine J_iadd dX12_runsOn_173 ?_
    refine J_aload_n 0 dX12_runsOn_174 rfl rfl ?_
    refine J_gP 11 1 dX12_runsOn_175 g10 flX12_8 rfl rfl ?_
    refine J_iload dX12_runsOn_178 rfl ?_
    refine J_iconst (4 : Int32) dX12_runsOn_180 kc_4 ?_
    refine J_iadd dX12_runsOn_181 ?_
    obtain ⟨g75, H⟩ := gd H
    refine J_iald dX12_runsOn_182 g11 (inB_ok g75) ?_
    obtain ⟨g76, H⟩ := gd H
    obtain ⟨h77, e78, H⟩ := lt_el H
    refine J_sI dX12_runsOn_183 g11 (inB_ok g76) e78 ?_
    have c79 := ekI e78
    have c80 := elI e78
    have c81 := epI e78
    exact J_dr (kX12_runsOn_184 H ) ⟨rfl, ⟨rfl, ⟨rfl, ⟨rfl, ⟨rfl, ⟨rfl, trivial⟩⟩⟩⟩⟩⟩
noncomputable def BX12_runsOn_96 (h : Hp) (v0 : Nat) (v1 : Int32) (v2 : Int32) (v3 : Int32) (v4 : Int32) (v5 : Int32) (v6 : Int32) (v7 : Int32) : Option ((Int32 × Int32 × Hp) ⊕ Hp) :=
  gg (β := ((Int32 × Int32 × Hp) ⊕ Hp)) (kd h v0 = 11) <|
  gg (β := ((Int32 × Int32 × Hp) ⊕ Hp)) (kd h (gP h v0 1) = 20) <|
  gg (β := ((Int32 × Int32 × Hp) ⊕ Hp)) (inB (v5 + (4 : Int32)) (ln h (gP h v0 1)) = true) <|
  if (gI h (gP h v0 1) (v5 + (4 : Int32)).toNatClampNeg) ≤ v7 then
    up1 (MX12_runsOn_155 h v0 v1 v2 v3 v4 v5)
  else
    gg (β := ((Int32 × Int32 × Hp) ⊕ Hp)) (kd h (gP h v0 33) = 20) <|
    gg (β := ((Int32 × Int32 × Hp) ⊕ Hp)) (inB v6 (ln h (gP h v0 33)) = true) <|
    gg (β := ((Int32 × Int32 × Hp) ⊕ Hp)) (inB ((v5 + (5 : Int32)) + v7) (ln h (gP h v0 1)) = true) <|
    lt (α := Hp) (β := Option ((Int32 × Int32 × Hp) ⊕ Hp)) (sI h (gP h v0 1) ((v5 + (5 : Int32)) + v7).toNatClampNeg ((gI h (gP h v0 33) v6.toNatClampNeg) - (1 : Int32))) fun (h111 : Hp) =>
    gg (β := ((Int32 × Int32 × Hp) ⊕ Hp)) (inB ((v5 + (45 : Int32)) + v7) (ln h (gP h v0 1)) = true) <|
    lt (α := Hp) (β := Option ((Int32 × Int32 × Hp) ⊕ Hp)) (sI h111 (gP h v0 1) ((v5 + (45 : Int32)) + v7).toNatClampNeg (0 : Int32)) fun (h117 : Hp) =>
    some (.inl ((gI h (gP h v0 33) v6.toNatClampNeg), (v7 + (1 : Int32)), h117))
set_option maxRecDepth 100000 in
set_option maxHeartbeats 8000000 in
theorem bX12_runsOn_96 {d : Nat} {h : Hp} {v0 : Nat} {v1 : Int32} {v2 : Int32} {v3 : Int32} {v4 : Int32} {v5 : Int32} {v6 : Int32} {v7 : Int32} {h9 : Hp} {x : ((Int32 × Int32 × Hp) ⊕ Hp)} (H : BX12_runsOn_96 h v0 v1 v2 v3 v4 v5 v6 v7 = some x) (hb0 : ∀ s : Int32 × Int32 × Hp, x = .inl s → J (d + 5) YX12_runsOn 96 [.ref v0, .int v1, .int v2, .int v3, .int v4, .int v5, .int s.1, .int s.2.1, Value.null, Value.null] [] s.2.2 oV h9) (hx : ∀ z : Hp, x = .inr (z) → z = h9) : J (d + 5) YX12_runsOn 96 [.ref v0, .int v1, .int v2, .int v3, .int v4, .int v5, .int v6, .int v7, Value.null, Value.null] [] h oV h9 := by
  unfold BX12_runsOn_96 at H
  refine J_iload dX12_runsOn_96 rfl ?_
  refine J_aload_n 0 dX12_runsOn_98 rfl rfl ?_
  obtain ⟨g104, H⟩ := gd H
  refine J_gP 11 1 dX12_runsOn_99 g104 flX12_8 rfl rfl ?_
  refine J_iload dX12_runsOn_102 rfl ?_
  refine J_iconst (4 : Int32) dX12_runsOn_104 kc_4 ?_
  refine J_iadd dX12_runsOn_105 ?_
  obtain ⟨g105, H⟩ := gd H
  obtain ⟨g106, H⟩ := gd H
  refine J_iald dX12_runsOn_106 g105 (inB_ok g106) ?_
  refine J_icmp_ge 155 dX12_runsOn_107 rfl (fun q107 => ?_) (fun q107 => ?_)
  · replace H := br1 q107 H
    obtain ⟨y0, H90, rfl⟩ := up1_el H
    replace H := H90
    obtain rfl := hx _ rfl
    exact J_dr (kX12_runsOn_155 H ) ⟨rfl, ⟨rfl, ⟨rfl, ⟨rfl, ⟨rfl, ⟨rfl, trivial⟩⟩⟩⟩⟩⟩
  · replace H := br0 q107 H
    refine J_aload_n 0 dX12_runsOn_110 rfl rfl ?_
    refine J_gP 11 33 dX12_runsOn_111 g104 flX12_61 rfl rfl ?_
    refine J_iload dX12_runsOn_114 rfl ?_
    obtain ⟨g108, H⟩ := gd H
    obtain ⟨g109, H⟩ := gd H
    refine J_iald dX12_runsOn_116 g108 (inB_ok g109) ?_
    refine J_istore dX12_runsOn_117 (by decide) (ls' := [.ref v0, .int v1, .int v2, .int v3, .int v4, .int v5, .int (gI h (gP h v0 33) v6.toNatClampNeg), .int v7, Value.null, Value.null]) rfl ?_
    refine J_aload_n 0 dX12_runsOn_119 rfl rfl ?_
    refine J_gP 11 1 dX12_runsOn_120 g104 flX12_8 rfl rfl ?_
    refine J_iload dX12_runsOn_123 rfl ?_
    refine J_iconst (5 : Int32) dX12_runsOn_125 kc_5 ?_
    refine J_iadd dX12_runsOn_126 ?_
    refine J_iload dX12_runsOn_127 rfl ?_
    refine J_iadd dX12_runsOn_129 ?_
    refine J_iload dX12_runsOn_130 rfl ?_
    refine J_iconst (1 : Int32) dX12_runsOn_132 kc_1 ?_
    refine J_isub dX12_runsOn_133 ?_
    obtain ⟨g110, H⟩ := gd H
    obtain ⟨h111, e112, H⟩ := lt_el H
    refine J_sI dX12_runsOn_134 g105 (inB_ok g110) e112 ?_
    have c113 := ekI e112
    have c114 := elI e112
    have c115 := epI e112
    refine J_aload_n 0 dX12_runsOn_135 rfl rfl ?_
    refine J_gP 11 1 dX12_runsOn_136 (kq c113 g104) flX12_8 rfl (congrFun (congrFun c115 v0) 1) ?_
    refine J_iload dX12_runsOn_139 rfl ?_
    refine J_bipush (45 : Int32) dX12_runsOn_141 kb_45 ?_
    refine J_iadd dX12_runsOn_143 ?_
    refine J_iload dX12_runsOn_144 rfl ?_
    refine J_iadd dX12_runsOn_146 ?_
    refine J_iconst (0 : Int32) dX12_runsOn_147 kc_0 ?_
    obtain ⟨g116, H⟩ := gd H
    obtain ⟨h117, e118, H⟩ := lt_el H
    refine J_sI dX12_runsOn_148 (kq c113 g105) (lq c114 g116) e118 ?_
    have c119 := (ekI e118).trans c113
    have c120 := (elI e118).trans c114
    have c121 := (epI e118).trans c115
    refine J_iinc (v7 + (1 : Int32)) dX12_runsOn_149 rfl (congrArg (HAdd.hAdd v7) kc_1) (by decide) (ls' := [.ref v0, .int v1, .int v2, .int v3, .int v4, .int v5, .int (gI h (gP h v0 33) v6.toNatClampNeg), .int (v7 + (1 : Int32)), Value.null, Value.null]) rfl ?_
    refine J_goto 96 dX12_runsOn_152 rfl ?_
    cases H
    exact J_dr (hb0 _ rfl) ⟨rfl, ⟨rfl, ⟨rfl, ⟨rfl, ⟨rfl, ⟨rfl, ⟨rfl, ⟨rfl, trivial⟩⟩⟩⟩⟩⟩⟩⟩
noncomputable def MX12_runsOn_96 (h : Hp) (v0 : Nat) (v1 : Int32) (v2 : Int32) (v3 : Int32) (v4 : Int32) (v5 : Int32) (v6 : Int32) (v7 : Int32) : Option Hp := it (fun q : Int32 × Int32 × Hp => BX12_runsOn_96 q.2.2 v0 v1 v2 v3 v4 v5 q.1 q.2.1) (v6, v7, h)
set_option maxRecDepth 100000 in
set_option maxHeartbeats 8000000 in
theorem kX12_runsOn_96 {d : Nat} {h : Hp} {v0 : Nat} {v1 : Int32} {v2 : Int32} {v3 : Int32} {v4 : Int32} {v5 : Int32} {v6 : Int32} {v7 : Int32} {h9 : Hp} (H : MX12_runsOn_96 h v0 v1 v2 v3 v4 v5 v6 v7 = some h9) : J (d + 5) YX12_runsOn 96 [.ref v0, .int v1, .int v2, .int v3, .int v4, .int v5, .int v6, .int v7, Value.null, Value.null] [] h oV h9 := by
  unfold MX12_runsOn_96 at H
  refine it_J (G := (fun q : Int32 × Int32 × Hp => J (d + 5) YX12_runsOn 96 [.ref v0, .int v1, .int v2, .int v3, .int v4, .int v5, .int q.1, .int q.2.1, Value.null, Value.null] [] q.2.2 oV h9)) (Q := (fun y : Hp => y = h9)) (fun q x Hq hm => ?_) H rfl
  exact bX12_runsOn_96 Hq (fun s hs => by subst hs; exact hm) (fun z hz => by subst hz; exact hm)
noncomputable def MX12_runsOn (h : Hp) (v0 : Nat) (v1 : Int32) : Option Hp :=
  Option.bind (α := Int32) (β := Hp) (MX12_machine0 h v1) fun (t2 : Int32) =>
  gg (β := Hp) (kd h v0 = 11) <|
  gg (β := Hp) (kd h (gP h v0 1) = 20) <|
  gg (β := Hp) (inB (t2 + (33 : Int32)) (ln h (gP h v0 1)) = true) <|
  Option.bind (α := Int32) (β := Hp) (MX12_part0 h (gI h (gP h v0 1) (t2 + (33 : Int32)).toNatClampNeg)) fun (t7 : Int32) =>
  gg (β := Hp) (inB (t7 + (3 : Int32)) (ln h (gP h v0 1)) = true) <|
  if (gI h (gP h v0 1) (t7 + (3 : Int32)).toNatClampNeg) = 0 then
    gg (β := Hp) (inB (0 : Int32) (ln h (gP h v0 1)) = true) <|
    Option.bind (α := Hp) (β := Hp) (MX12_work h v0 (gI h (gP h v0 1) (t2 + (33 : Int32)).toNatClampNeg) (gI h (gP h v0 1) (0 : Int32).toNatClampNeg)) fun (h84 : Hp) =>
    gg (β := Hp) (kd h84 v0 = 11) <|
    gg (β := Hp) (kd h84 (gP h84 v0 31) = 20) <|
    gg (β := Hp) (inB (0 : Int32) (ln h84 (gP h84 v0 31)) = true) <|
    if (gI h84 (gP h84 v0 31) (0 : Int32).toNatClampNeg) = (-1 : Int32) then
      Option.bind (α := Hp) (β := Hp) (MX12_spikes h84 v0 v1) fun (h123 : Hp) =>
      some h123
    else
      gg (β := Hp) (kd h84 (gP h84 v0 1) = 20) <|
      gg (β := Hp) (inB (t7 + (3 : Int32)) (ln h84 (gP h84 v0 1)) = true) <|
      lt (α := Hp) (β := Option Hp) (sI h84 (gP h84 v0 1) (t7 + (3 : Int32)).toNatClampNeg (1 : Int32)) fun (h91 : Hp) =>
      gg (β := Hp) (kd h84 (gP h84 v0 32) = 20) <|
      gg (β := Hp) (inB (0 : Int32) (ln h84 (gP h84 v0 32)) = true) <|
      gg (β := Hp) (inB (t7 + (4 : Int32)) (ln h84 (gP h84 v0 1)) = true) <|
      lt (α := Hp) (β := Option Hp) (sI h91 (gP h84 v0 1) (t7 + (4 : Int32)).toNatClampNeg (gI h91 (gP h84 v0 32) (0 : Int32).toNatClampNeg)) fun (h99 : Hp) =>
      MX12_runsOn_96 h99 v0 v1 t2 (t2 + (33 : Int32)) (gI h (gP h v0 1) (t2 + (33 : Int32)).toNatClampNeg) t7 (0 : Int32) (0 : Int32)
  else
    MX12_runsOn_155 h v0 v1 t2 (t2 + (33 : Int32)) (gI h (gP h v0 1) (t2 + (33 : Int32)).toNatClampNeg) t7
set_option maxRecDepth 100000 in
set_option maxHeartbeats 8000000 in
theorem eX12_runsOn {d : Nat} {h : Hp} {v0 : Nat} {v1 : Int32} {h9 : Hp} (H : MX12_runsOn h v0 v1 = some h9) : J (d + 5) YX12_runsOn 0 [.ref v0, .int v1, Value.null, Value.null, Value.null, Value.null, Value.null, Value.null, Value.null, Value.null] [] h oV h9 := by
  unfold MX12_runsOn at H
  refine J_iload_n 1 dX12_runsOn_0 rfl rfl ?_
  obtain ⟨t2, e1, H⟩ := bd H
  refine J_cS (as := [.int v1]) YX12_machine0 1 dX12_runsOn_1 moX12_machine0 msX12_machine0 mlX12_360 (okX12_machine0 (d := d + 4) e1) rfl rfl [] rfl rfl (st2 := [.int t2]) rfl ?_
  refine J_istore_n 2 dX12_runsOn_4 rfl (by decide) (ls' := [.ref v0, .int v1, .int t2, Value.null, Value.null, Value.null, Value.null, Value.null, Value.null, Value.null]) rfl ?_
  refine J_iload_n 2 dX12_runsOn_5 rfl rfl ?_
  refine J_bipush (33 : Int32) dX12_runsOn_6 kb_33 ?_
  refine J_iadd dX12_runsOn_8 ?_
  refine J_istore_n 3 dX12_runsOn_9 rfl (by decide) (ls' := [.ref v0, .int v1, .int t2, .int (t2 + (33 : Int32)), Value.null, Value.null, Value.null, Value.null, Value.null, Value.null]) rfl ?_
  refine J_aload_n 0 dX12_runsOn_10 rfl rfl ?_
  obtain ⟨g3, H⟩ := gd H
  refine J_gP 11 1 dX12_runsOn_11 g3 flX12_8 rfl rfl ?_
  refine J_iload_n 3 dX12_runsOn_14 rfl rfl ?_
  obtain ⟨g4, H⟩ := gd H
  obtain ⟨g5, H⟩ := gd H
  refine J_iald dX12_runsOn_15 g4 (inB_ok g5) ?_
  refine J_istore dX12_runsOn_16 (by decide) (ls' := [.ref v0, .int v1, .int t2, .int (t2 + (33 : Int32)), .int (gI h (gP h v0 1) (t2 + (33 : Int32)).toNatClampNeg), Value.null, Value.null, Value.null, Value.null, Value.null]) rfl ?_
  refine J_iload dX12_runsOn_18 rfl ?_
  obtain ⟨t7, e6, H⟩ := bd H
  refine J_cS (as := [.int (gI h (gP h v0 1) (t2 + (33 : Int32)).toNatClampNeg)]) YX12_part0 1 dX12_runsOn_20 moX12_part0 msX12_part0 mlX12_164 (okX12_part0 (d := d + 4) e6) rfl rfl [] rfl rfl (st2 := [.int t7]) rfl ?_
  refine J_istore dX12_runsOn_23 (by decide) (ls' := [.ref v0, .int v1, .int t2, .int (t2 + (33 : Int32)), .int (gI h (gP h v0 1) (t2 + (33 : Int32)).toNatClampNeg), .int t7, Value.null, Value.null, Value.null, Value.null]) rfl ?_
  refine J_aload_n 0 dX12_runsOn_25 rfl rfl ?_
  refine J_gP 11 1 dX12_runsOn_26 g3 flX12_8 rfl rfl ?_
  refine J_iload dX12_runsOn_29 rfl ?_
  refine J_iconst (3 : Int32) dX12_runsOn_31 kc_3 ?_
  refine J_iadd dX12_runsOn_32 ?_
  obtain ⟨g8, H⟩ := gd H
  refine J_iald dX12_runsOn_33 g4 (inB_ok g8) ?_
  refine J_if_ne 155 dX12_runsOn_34 rfl (fun q9 => ?_) (fun q9 => ?_)
  · replace H := br0 q9 H
    exact J_dr (kX12_runsOn_155 H ) ⟨rfl, ⟨rfl, ⟨rfl, ⟨rfl, ⟨rfl, ⟨rfl, trivial⟩⟩⟩⟩⟩⟩
  · replace H := br1 q9 H
    refine J_aload_n 0 dX12_runsOn_37 rfl rfl ?_
    refine J_iload dX12_runsOn_38 rfl ?_
    refine J_aload_n 0 dX12_runsOn_40 rfl rfl ?_
    refine J_gP 11 1 dX12_runsOn_41 g3 flX12_8 rfl rfl ?_
    refine J_iconst (0 : Int32) dX12_runsOn_44 kc_0 ?_
    obtain ⟨g82, H⟩ := gd H
    refine J_iald dX12_runsOn_45 g4 (inB_ok g82) ?_
    obtain ⟨h84, e83, H⟩ := bd H
    refine J_cV (as := [.int (gI h (gP h v0 1) (t2 + (33 : Int32)).toNatClampNeg), .int (gI h (gP h v0 1) (0 : Int32).toNatClampNeg)]) 11 YX12_work 2 dX12_runsOn_46 moX12_work mvX12_work mlX12_345 g3 rfl rfl (okX12_work (d := d) e83) rfl rfl [] rfl rfl (st2 := []) rfl ?_
    refine J_aload_n 0 dX12_runsOn_49 rfl rfl ?_
    obtain ⟨g85, H⟩ := gd H
    refine J_gP 11 31 dX12_runsOn_50 g85 flX12_55 rfl rfl ?_
    refine J_iconst (0 : Int32) dX12_runsOn_53 kc_0 ?_
    obtain ⟨g86, H⟩ := gd H
    obtain ⟨g87, H⟩ := gd H
    refine J_iald dX12_runsOn_54 g86 (inB_ok g87) ?_
    refine J_iconst (-1 : Int32) dX12_runsOn_55 kc_m1 ?_
    refine J_icmp_ne 65 dX12_runsOn_56 rfl (fun q88 => ?_) (fun q88 => ?_)
    · replace H := br0 q88 H
      refine J_aload_n 0 dX12_runsOn_65 rfl rfl ?_
      refine J_gP 11 1 dX12_runsOn_66 g85 flX12_8 rfl rfl ?_
      refine J_iload dX12_runsOn_69 rfl ?_
      refine J_iconst (3 : Int32) dX12_runsOn_71 kc_3 ?_
      refine J_iadd dX12_runsOn_72 ?_
      refine J_iconst (1 : Int32) dX12_runsOn_73 kc_1 ?_
      obtain ⟨g89, H⟩ := gd H
      obtain ⟨g90, H⟩ := gd H
      obtain ⟨h91, e92, H⟩ := lt_el H
      refine J_sI dX12_runsOn_74 g89 (inB_ok g90) e92 ?_
      have c93 := ekI e92
      have c94 := elI e92
      have c95 := epI e92
      refine J_aload_n 0 dX12_runsOn_75 rfl rfl ?_
      refine J_gP 11 1 dX12_runsOn_76 (kq c93 g85) flX12_8 rfl (congrFun (congrFun c95 v0) 1) ?_
      refine J_iload dX12_runsOn_79 rfl ?_
      refine J_iconst (4 : Int32) dX12_runsOn_81 kc_4 ?_
      refine J_iadd dX12_runsOn_82 ?_
      refine J_aload_n 0 dX12_runsOn_83 rfl rfl ?_
      refine J_gP 11 32 dX12_runsOn_84 (kq c93 g85) flX12_58 rfl (congrFun (congrFun c95 v0) 32) ?_
      refine J_iconst (0 : Int32) dX12_runsOn_87 kc_0 ?_
      obtain ⟨g96, H⟩ := gd H
      obtain ⟨g97, H⟩ := gd H
      refine J_iald dX12_runsOn_88 (kq c93 g96) (lq c94 g97) ?_
      obtain ⟨g98, H⟩ := gd H
      obtain ⟨h99, e100, H⟩ := lt_el H
      refine J_sI dX12_runsOn_89 (kq c93 g89) (lq c94 g98) e100 ?_
      have c101 := (ekI e100).trans c93
      have c102 := (elI e100).trans c94
      have c103 := (epI e100).trans c95
      refine J_iconst (0 : Int32) dX12_runsOn_90 kc_0 ?_
      refine J_istore dX12_runsOn_91 (by decide) (ls' := [.ref v0, .int v1, .int t2, .int (t2 + (33 : Int32)), .int (gI h (gP h v0 1) (t2 + (33 : Int32)).toNatClampNeg), .int t7, .int (0 : Int32), Value.null, Value.null, Value.null]) rfl ?_
      refine J_iconst (0 : Int32) dX12_runsOn_93 kc_0 ?_
      refine J_istore dX12_runsOn_94 (by decide) (ls' := [.ref v0, .int v1, .int t2, .int (t2 + (33 : Int32)), .int (gI h (gP h v0 1) (t2 + (33 : Int32)).toNatClampNeg), .int t7, .int (0 : Int32), .int (0 : Int32), Value.null, Value.null]) rfl ?_
      exact J_dr (kX12_runsOn_96 H ) ⟨rfl, ⟨rfl, ⟨rfl, ⟨rfl, ⟨rfl, ⟨rfl, ⟨rfl, ⟨rfl, trivial⟩⟩⟩⟩⟩⟩⟩⟩
    · replace H := br1 q88 H
      refine J_aload_n 0 dX12_runsOn_59 rfl rfl ?_
      refine J_iload_n 1 dX12_runsOn_60 rfl rfl ?_
      obtain ⟨h123, e122, H⟩ := bd H
      refine J_cV (as := [.int v1]) 11 YX12_spikes 1 dX12_runsOn_61 moX12_spikes mvX12_spikes mlX12_376 g85 rfl rfl (okX12_spikes (d := d + 2) e122) rfl rfl [] rfl rfl (st2 := []) rfl ?_
      cases H
      exact J_ret dX12_runsOn_64 rfl
theorem okX12_runsOn {d : Nat} {h : Hp} {v0 : Nat} {v1 : Int32} {h9 : Hp} (H : MX12_runsOn h v0 v1 = some h9) : CT (d + 5) YX12_runsOn [.ref v0, .int v1] h oV h9 := CT_of (by decide +kernel) (Nat.le_of_ble_eq_true rfl) (eX12_runsOn H)
