noncomputable def BX2_init_101 (h : Hp) (v0 : Nat) (v1 : Int32) : Option ((Int32 × Hp) ⊕ Hp) :=
  if (6 : Int32) ≤ v1 then
    some (.inr (h))
  else
    gg (β := ((Int32 × Hp) ⊕ Hp)) (kd h v0 = 1) <|
    gg (β := ((Int32 × Hp) ⊕ Hp)) (kd h (gP h v0 0) = 20) <|
    gg (β := ((Int32 × Hp) ⊕ Hp)) (inB v1 (ln h (gP h v0 0)) = true) <|
    lt (α := Hp) (β := Option ((Int32 × Hp) ⊕ Hp)) (sI h (gP h v0 0) v1.toNatClampNeg (1 : Int32)) fun (h86 : Hp) =>
    gg (β := ((Int32 × Hp) ⊕ Hp)) (kd h (gP h v0 1) = 20) <|
    gg (β := ((Int32 × Hp) ⊕ Hp)) (inB v1 (ln h (gP h v0 1)) = true) <|
    lt (α := Hp) (β := Option ((Int32 × Hp) ⊕ Hp)) (sI h86 (gP h v0 1) v1.toNatClampNeg (20 : Int32)) fun (h93 : Hp) =>
    gg (β := ((Int32 × Hp) ⊕ Hp)) (kd h (gP h v0 2) = 20) <|
    gg (β := ((Int32 × Hp) ⊕ Hp)) (inB v1 (ln h (gP h v0 2)) = true) <|
    lt (α := Hp) (β := Option ((Int32 × Hp) ⊕ Hp)) (sI h93 (gP h v0 2) v1.toNatClampNeg (-1 : Int32)) fun (h100 : Hp) =>
    some (.inl ((v1 + (1 : Int32)), h100))
set_option maxRecDepth 100000 in
set_option maxHeartbeats 8000000 in
theorem bX2_init_101 {d : Nat} {h : Hp} {v0 : Nat} {v1 : Int32} {h9 : Hp} {x : ((Int32 × Hp) ⊕ Hp)} (H : BX2_init_101 h v0 v1 = some x) (hb0 : ∀ s : Int32 × Hp, x = .inl s → J (d) YX2_init 101 [.ref v0, .int s.1] [] s.2 oV h9) (hx : ∀ z : Hp, x = .inr (z) → z = h9) : J (d) YX2_init 101 [.ref v0, .int v1] [] h oV h9 := by
  unfold BX2_init_101 at H
  refine J_iload_n 1 dX2_init_101 rfl rfl ?_
  refine J_bipush (6 : Int32) dX2_init_102 kb_6 ?_
  refine J_icmp_ge 135 dX2_init_104 rfl (fun q82 => ?_) (fun q82 => ?_)
  · replace H := br1 q82 H
    cases H
    cases hx _ rfl
    exact J_ret dX2_init_135 rfl
  · replace H := br0 q82 H
    refine J_aload_n 0 dX2_init_107 rfl rfl ?_
    obtain ⟨g83, H⟩ := gd H
    refine J_gP 1 0 dX2_init_108 g83 flX2_9 rfl rfl ?_
    refine J_iload_n 1 dX2_init_111 rfl rfl ?_
    refine J_iconst (1 : Int32) dX2_init_112 kc_1 ?_
    obtain ⟨g84, H⟩ := gd H
    obtain ⟨g85, H⟩ := gd H
    obtain ⟨h86, e87, H⟩ := lt_el H
    refine J_sI dX2_init_113 g84 (inB_ok g85) e87 ?_
    have c88 := ekI e87
    have c89 := elI e87
    have c90 := epI e87
    refine J_aload_n 0 dX2_init_114 rfl rfl ?_
    refine J_gP 1 1 dX2_init_115 (kq c88 g83) flX2_15 rfl (congrFun (congrFun c90 v0) 1) ?_
    refine J_iload_n 1 dX2_init_118 rfl rfl ?_
    refine J_bipush (20 : Int32) dX2_init_119 kb_20 ?_
    obtain ⟨g91, H⟩ := gd H
    obtain ⟨g92, H⟩ := gd H
    obtain ⟨h93, e94, H⟩ := lt_el H
    refine J_sI dX2_init_121 (kq c88 g91) (lq c89 g92) e94 ?_
    have c95 := (ekI e94).trans c88
    have c96 := (elI e94).trans c89
    have c97 := (epI e94).trans c90
    refine J_aload_n 0 dX2_init_122 rfl rfl ?_
    refine J_gP 1 2 dX2_init_123 (kq c95 g83) flX2_18 rfl (congrFun (congrFun c97 v0) 2) ?_
    refine J_iload_n 1 dX2_init_126 rfl rfl ?_
    refine J_iconst (-1 : Int32) dX2_init_127 kc_m1 ?_
    obtain ⟨g98, H⟩ := gd H
    obtain ⟨g99, H⟩ := gd H
    obtain ⟨h100, e101, H⟩ := lt_el H
    refine J_sI dX2_init_128 (kq c95 g98) (lq c96 g99) e101 ?_
    have c102 := (ekI e101).trans c95
    have c103 := (elI e101).trans c96
    have c104 := (epI e101).trans c97
    refine J_iinc (v1 + (1 : Int32)) dX2_init_129 rfl (congrArg (HAdd.hAdd v1) kc_1) (by decide) (ls' := [.ref v0, .int (v1 + (1 : Int32))]) rfl ?_
    refine J_goto 101 dX2_init_132 rfl ?_
    cases H
    exact J_dr (hb0 _ rfl) ⟨rfl, ⟨rfl, trivial⟩⟩
noncomputable def MX2_init_101 (h : Hp) (v0 : Nat) (v1 : Int32) : Option Hp := it (fun q : Int32 × Hp => BX2_init_101 q.2 v0 q.1) (v1, h)
set_option maxRecDepth 100000 in
set_option maxHeartbeats 8000000 in
theorem kX2_init_101 {d : Nat} {h : Hp} {v0 : Nat} {v1 : Int32} {h9 : Hp} (H : MX2_init_101 h v0 v1 = some h9) : J (d) YX2_init 101 [.ref v0, .int v1] [] h oV h9 := by
  unfold MX2_init_101 at H
  refine it_J (G := (fun q : Int32 × Hp => J (d) YX2_init 101 [.ref v0, .int q.1] [] q.2 oV h9)) (Q := (fun y : Hp => y = h9)) (fun q x Hq hm => ?_) H rfl
  exact bX2_init_101 Hq (fun s hs => by subst hs; exact hm) (fun z hz => by subst hz; exact hm)
noncomputable def MX2_init (h : Hp) (v0 : Nat) : Option Hp :=
  gn (β := Hp) (v0 = 0) <|
  lt (α := Hp) (β := Option Hp) (alc h 20 (6)) fun (h2 : Hp) =>
  gg (β := Hp) (kd h2 v0 = 1) <|
  lt (α := Hp) (β := Option Hp) (sP h2 v0 0 (sz h + 1)) fun (h5 : Hp) =>
  lt (α := Hp) (β := Option Hp) (alc h5 20 (6)) fun (h9 : Hp) =>
  gg (β := Hp) (kd h9 v0 = 1) <|
  lt (α := Hp) (β := Option Hp) (sP h9 v0 1 (sz h5 + 1)) fun (h12 : Hp) =>
  lt (α := Hp) (β := Option Hp) (alc h12 20 (6)) fun (h16 : Hp) =>
  gg (β := Hp) (kd h16 v0 = 1) <|
  lt (α := Hp) (β := Option Hp) (sP h16 v0 2 (sz h12 + 1)) fun (h19 : Hp) =>
  lt (α := Hp) (β := Option Hp) (alc h19 20 (6)) fun (h23 : Hp) =>
  gg (β := Hp) (kd h23 v0 = 1) <|
  lt (α := Hp) (β := Option Hp) (sP h23 v0 3 (sz h19 + 1)) fun (h26 : Hp) =>
  lt (α := Hp) (β := Option Hp) (alc h26 24 (54)) fun (h30 : Hp) =>
  gg (β := Hp) (kd h30 v0 = 1) <|
  lt (α := Hp) (β := Option Hp) (sP h30 v0 4 (sz h26 + 1)) fun (h33 : Hp) =>
  lt (α := Hp) (β := Option Hp) (alc h33 20 (54)) fun (h37 : Hp) =>
  gg (β := Hp) (kd h37 v0 = 1) <|
  lt (α := Hp) (β := Option Hp) (sP h37 v0 5 (sz h33 + 1)) fun (h40 : Hp) =>
  lt (α := Hp) (β := Option Hp) (sI h40 v0 6 (0 : Int32)) fun (h44 : Hp) =>
  lt (α := Hp) (β := Option Hp) (alc h44 20 (200)) fun (h49 : Hp) =>
  gg (β := Hp) (kd h49 v0 = 1) <|
  lt (α := Hp) (β := Option Hp) (sP h49 v0 7 (sz h44 + 1)) fun (h52 : Hp) =>
  lt (α := Hp) (β := Option Hp) (alc h52 20 (200)) fun (h56 : Hp) =>
  gg (β := Hp) (kd h56 v0 = 1) <|
  lt (α := Hp) (β := Option Hp) (sP h56 v0 8 (sz h52 + 1)) fun (h59 : Hp) =>
  lt (α := Hp) (β := Option Hp) (alc h59 20 (200)) fun (h63 : Hp) =>
  gg (β := Hp) (kd h63 v0 = 1) <|
  lt (α := Hp) (β := Option Hp) (sP h63 v0 9 (sz h59 + 1)) fun (h66 : Hp) =>
  lt (α := Hp) (β := Option Hp) (alc h66 20 (200)) fun (h70 : Hp) =>
  gg (β := Hp) (kd h70 v0 = 1) <|
  lt (α := Hp) (β := Option Hp) (sP h70 v0 10 (sz h66 + 1)) fun (h73 : Hp) =>
  lt (α := Hp) (β := Option Hp) (sI h73 v0 11 (0 : Int32)) fun (h77 : Hp) =>
  MX2_init_101 h77 v0 (0 : Int32)
set_option maxRecDepth 100000 in
set_option maxHeartbeats 8000000 in
theorem eX2_init {d : Nat} {h : Hp} {v0 : Nat} {h9 : Hp} (H : MX2_init h v0 = some h9) : J (d) YX2_init 0 [.ref v0, Value.null] [] h oV h9 := by
  unfold MX2_init at H
  refine J_aload_n 0 dX2_init_0 rfl rfl ?_
  obtain ⟨g1, H⟩ := gdn H
  refine J_objI dX2_init_1 mlX2_3 ob_i ob_c g1 (Nat.le_of_ble_eq_true rfl) ?_
  refine J_aload_n 0 dX2_init_4 rfl rfl ?_
  refine J_bipush (6 : Int32) dX2_init_5 kb_6 ?_
  obtain ⟨h2, e3, H⟩ := lt_el H
  refine J_nI (6) dX2_init_7 (by decide) (by decide) (by decide) e3 ?_
  obtain ⟨g4, H⟩ := gd H
  obtain ⟨h5, e6, H⟩ := lt_el H
  refine J_pF 1 0 dX2_init_9 g4 flX2_9 rfl rfl rfl rfl e6 ?_
  have c7 := ekP e6
  have c8 := elP e6
  refine J_aload_n 0 dX2_init_12 rfl rfl ?_
  refine J_bipush (6 : Int32) dX2_init_13 kb_6 ?_
  obtain ⟨h9, e10, H⟩ := lt_el H
  refine J_nI (6) dX2_init_15 (by decide) (by decide) (by decide) e10 ?_
  obtain ⟨g11, H⟩ := gd H
  obtain ⟨h12, e13, H⟩ := lt_el H
  refine J_pF 1 1 dX2_init_17 g11 flX2_15 rfl rfl rfl rfl e13 ?_
  have c14 := ekP e13
  have c15 := elP e13
  refine J_aload_n 0 dX2_init_20 rfl rfl ?_
  refine J_bipush (6 : Int32) dX2_init_21 kb_6 ?_
  obtain ⟨h16, e17, H⟩ := lt_el H
  refine J_nI (6) dX2_init_23 (by decide) (by decide) (by decide) e17 ?_
  obtain ⟨g18, H⟩ := gd H
  obtain ⟨h19, e20, H⟩ := lt_el H
  refine J_pF 1 2 dX2_init_25 g18 flX2_18 rfl rfl rfl rfl e20 ?_
  have c21 := ekP e20
  have c22 := elP e20
  refine J_aload_n 0 dX2_init_28 rfl rfl ?_
  refine J_bipush (6 : Int32) dX2_init_29 kb_6 ?_
  obtain ⟨h23, e24, H⟩ := lt_el H
  refine J_nI (6) dX2_init_31 (by decide) (by decide) (by decide) e24 ?_
  obtain ⟨g25, H⟩ := gd H
  obtain ⟨h26, e27, H⟩ := lt_el H
  refine J_pF 1 3 dX2_init_33 g25 flX2_21 rfl rfl rfl rfl e27 ?_
  have c28 := ekP e27
  have c29 := elP e27
  refine J_aload_n 0 dX2_init_36 rfl rfl ?_
  refine J_bipush (54 : Int32) dX2_init_37 kb_54 ?_
  obtain ⟨h30, e31, H⟩ := lt_el H
  refine J_nAA (54) dX2_init_39 clX2_24 (by decide) (by decide) (by decide) e31 ?_
  obtain ⟨g32, H⟩ := gd H
  obtain ⟨h33, e34, H⟩ := lt_el H
  refine J_pF 1 4 dX2_init_42 g32 flX2_25 rfl rfl rfl rfl e34 ?_
  have c35 := ekP e34
  have c36 := elP e34
  refine J_aload_n 0 dX2_init_45 rfl rfl ?_
  refine J_bipush (54 : Int32) dX2_init_46 kb_54 ?_
  obtain ⟨h37, e38, H⟩ := lt_el H
  refine J_nI (54) dX2_init_48 (by decide) (by decide) (by decide) e38 ?_
  obtain ⟨g39, H⟩ := gd H
  obtain ⟨h40, e41, H⟩ := lt_el H
  refine J_pF 1 5 dX2_init_50 g39 flX2_29 rfl rfl rfl rfl e41 ?_
  have c42 := ekP e41
  have c43 := elP e41
  refine J_aload_n 0 dX2_init_53 rfl rfl ?_
  refine J_iconst (0 : Int32) dX2_init_54 kc_0 ?_
  obtain ⟨h44, e45, H⟩ := lt_el H
  refine J_pI 1 6 dX2_init_55 (kq c42 g39) flX2_32 rfl rfl e45 ?_
  have c46 := (ekI e45).trans c42
  have c47 := (elI e45).trans c43
  have c48 := epI e45
  refine J_aload_n 0 dX2_init_58 rfl rfl ?_
  refine J_sipush (200 : Int32) dX2_init_59 ks_200 ?_
  obtain ⟨h49, e50, H⟩ := lt_el H
  refine J_nI (200) dX2_init_62 (by decide) (by decide) (by decide) e50 ?_
  obtain ⟨g51, H⟩ := gd H
  obtain ⟨h52, e53, H⟩ := lt_el H
  refine J_pF 1 7 dX2_init_64 g51 flX2_36 rfl rfl rfl rfl e53 ?_
  have c54 := ekP e53
  have c55 := elP e53
  refine J_aload_n 0 dX2_init_67 rfl rfl ?_
  refine J_sipush (200 : Int32) dX2_init_68 ks_200 ?_
  obtain ⟨h56, e57, H⟩ := lt_el H
  refine J_nI (200) dX2_init_71 (by decide) (by decide) (by decide) e57 ?_
  obtain ⟨g58, H⟩ := gd H
  obtain ⟨h59, e60, H⟩ := lt_el H
  refine J_pF 1 8 dX2_init_73 g58 flX2_39 rfl rfl rfl rfl e60 ?_
  have c61 := ekP e60
  have c62 := elP e60
  refine J_aload_n 0 dX2_init_76 rfl rfl ?_
  refine J_sipush (200 : Int32) dX2_init_77 ks_200 ?_
  obtain ⟨h63, e64, H⟩ := lt_el H
  refine J_nI (200) dX2_init_80 (by decide) (by decide) (by decide) e64 ?_
  obtain ⟨g65, H⟩ := gd H
  obtain ⟨h66, e67, H⟩ := lt_el H
  refine J_pF 1 9 dX2_init_82 g65 flX2_42 rfl rfl rfl rfl e67 ?_
  have c68 := ekP e67
  have c69 := elP e67
  refine J_aload_n 0 dX2_init_85 rfl rfl ?_
  refine J_sipush (200 : Int32) dX2_init_86 ks_200 ?_
  obtain ⟨h70, e71, H⟩ := lt_el H
  refine J_nI (200) dX2_init_89 (by decide) (by decide) (by decide) e71 ?_
  obtain ⟨g72, H⟩ := gd H
  obtain ⟨h73, e74, H⟩ := lt_el H
  refine J_pF 1 10 dX2_init_91 g72 flX2_45 rfl rfl rfl rfl e74 ?_
  have c75 := ekP e74
  have c76 := elP e74
  refine J_aload_n 0 dX2_init_94 rfl rfl ?_
  refine J_iconst (0 : Int32) dX2_init_95 kc_0 ?_
  obtain ⟨h77, e78, H⟩ := lt_el H
  refine J_pI 1 11 dX2_init_96 (kq c75 g72) flX2_48 rfl rfl e78 ?_
  have c79 := (ekI e78).trans c75
  have c80 := (elI e78).trans c76
  have c81 := epI e78
  refine J_iconst (0 : Int32) dX2_init_99 kc_0 ?_
  refine J_istore_n 1 dX2_init_100 rfl (by decide) (ls' := [.ref v0, .int (0 : Int32)]) rfl ?_
  exact J_dr (kX2_init_101 H ) ⟨rfl, ⟨rfl, trivial⟩⟩
theorem okX2_init {d : Nat} {h : Hp} {v0 : Nat} {h9 : Hp} (H : MX2_init h v0 = some h9) : CT (d) YX2_init [.ref v0] h oV h9 := CT_of (by decide +kernel) (Nat.le_of_ble_eq_true rfl) (eX2_init H)
noncomputable def MX3_init (h : Hp) (v0 : Nat) : Option Hp :=
  gn (β := Hp) (v0 = 0) <|
  gg (β := Hp) (kd h v0 = 2) <|
  lt (α := Hp) (β := Option Hp) (sI h v0 0 (0 : Int32)) fun (h3 : Hp) =>
  lt (α := Hp) (β := Option Hp) (sI h3 v0 1 (-1 : Int32)) fun (h8 : Hp) =>
  lt (α := Hp) (β := Option Hp) (alc h8 20 (4)) fun (h13 : Hp) =>
  gg (β := Hp) (kd h13 v0 = 2) <|
  lt (α := Hp) (β := Option Hp) (sP h13 v0 2 (sz h8 + 1)) fun (h16 : Hp) =>
  lt (α := Hp) (β := Option Hp) (alc h16 20 (4)) fun (h20 : Hp) =>
  gg (β := Hp) (kd h20 v0 = 2) <|
  lt (α := Hp) (β := Option Hp) (sP h20 v0 3 (sz h16 + 1)) fun (h23 : Hp) =>
  lt (α := Hp) (β := Option Hp) (alc h23 20 (4)) fun (h27 : Hp) =>
  gg (β := Hp) (kd h27 v0 = 2) <|
  lt (α := Hp) (β := Option Hp) (sP h27 v0 4 (sz h23 + 1)) fun (h30 : Hp) =>
  lt (α := Hp) (β := Option Hp) (alc h30 20 (4)) fun (h34 : Hp) =>
  gg (β := Hp) (kd h34 v0 = 2) <|
  lt (α := Hp) (β := Option Hp) (sP h34 v0 5 (sz h30 + 1)) fun (h37 : Hp) =>
  lt (α := Hp) (β := Option Hp) (alc h37 20 (4)) fun (h41 : Hp) =>
  gg (β := Hp) (kd h41 v0 = 2) <|
  lt (α := Hp) (β := Option Hp) (sP h41 v0 6 (sz h37 + 1)) fun (h44 : Hp) =>
  lt (α := Hp) (β := Option Hp) (alc h44 20 (4)) fun (h48 : Hp) =>
  gg (β := Hp) (kd h48 v0 = 2) <|
  lt (α := Hp) (β := Option Hp) (sP h48 v0 7 (sz h44 + 1)) fun (h51 : Hp) =>
  lt (α := Hp) (β := Option Hp) (alc h51 20 (24)) fun (h55 : Hp) =>
  gg (β := Hp) (kd h55 v0 = 2) <|
  lt (α := Hp) (β := Option Hp) (sP h55 v0 8 (sz h51 + 1)) fun (h58 : Hp) =>
  lt (α := Hp) (β := Option Hp) (alc h58 20 (4)) fun (h62 : Hp) =>
  gg (β := Hp) (kd h62 v0 = 2) <|
  lt (α := Hp) (β := Option Hp) (sP h62 v0 9 (sz h58 + 1)) fun (h65 : Hp) =>
  lt (α := Hp) (β := Option Hp) (sI h65 v0 10 (1 : Int32)) fun (h69 : Hp) =>
  some h69
set_option maxRecDepth 100000 in
set_option maxHeartbeats 8000000 in
theorem eX3_init {d : Nat} {h : Hp} {v0 : Nat} {h9 : Hp} (H : MX3_init h v0 = some h9) : J (d) YX3_init 0 [.ref v0] [] h oV h9 := by
  unfold MX3_init at H
  refine J_aload_n 0 dX3_init_0 rfl rfl ?_
  obtain ⟨g1, H⟩ := gdn H
  refine J_objI dX3_init_1 mlX3_3 ob_i ob_c g1 (Nat.le_of_ble_eq_true rfl) ?_
  refine J_aload_n 0 dX3_init_4 rfl rfl ?_
  refine J_iconst (0 : Int32) dX3_init_5 kc_0 ?_
  obtain ⟨g2, H⟩ := gd H
  obtain ⟨h3, e4, H⟩ := lt_el H
  refine J_pI 2 0 dX3_init_6 g2 flX3_9 rfl rfl e4 ?_
  have c5 := ekI e4
  have c6 := elI e4
  have c7 := epI e4
  refine J_aload_n 0 dX3_init_9 rfl rfl ?_
  refine J_iconst (-1 : Int32) dX3_init_10 kc_m1 ?_
  obtain ⟨h8, e9, H⟩ := lt_el H
  refine J_pI 2 1 dX3_init_11 (kq c5 g2) flX3_15 rfl rfl e9 ?_
  have c10 := (ekI e9).trans c5
  have c11 := (elI e9).trans c6
  have c12 := (epI e9).trans c7
  refine J_aload_n 0 dX3_init_14 rfl rfl ?_
  refine J_iconst (4 : Int32) dX3_init_15 kc_4 ?_
  obtain ⟨h13, e14, H⟩ := lt_el H
  refine J_nI (4) dX3_init_16 (by decide) (by decide) (by decide) e14 ?_
  obtain ⟨g15, H⟩ := gd H
  obtain ⟨h16, e17, H⟩ := lt_el H
  refine J_pF 2 2 dX3_init_18 g15 flX3_18 rfl rfl rfl rfl e17 ?_
  have c18 := ekP e17
  have c19 := elP e17
  refine J_aload_n 0 dX3_init_21 rfl rfl ?_
  refine J_iconst (4 : Int32) dX3_init_22 kc_4 ?_
  obtain ⟨h20, e21, H⟩ := lt_el H
  refine J_nI (4) dX3_init_23 (by decide) (by decide) (by decide) e21 ?_
  obtain ⟨g22, H⟩ := gd H
  obtain ⟨h23, e24, H⟩ := lt_el H
  refine J_pF 2 3 dX3_init_25 g22 flX3_22 rfl rfl rfl rfl e24 ?_
  have c25 := ekP e24
  have c26 := elP e24
  refine J_aload_n 0 dX3_init_28 rfl rfl ?_
  refine J_iconst (4 : Int32) dX3_init_29 kc_4 ?_
  obtain ⟨h27, e28, H⟩ := lt_el H
  refine J_nI (4) dX3_init_30 (by decide) (by decide) (by decide) e28 ?_
  obtain ⟨g29, H⟩ := gd H
  obtain ⟨h30, e31, H⟩ := lt_el H
  refine J_pF 2 4 dX3_init_32 g29 flX3_25 rfl rfl rfl rfl e31 ?_
  have c32 := ekP e31
  have c33 := elP e31
  refine J_aload_n 0 dX3_init_35 rfl rfl ?_
  refine J_iconst (4 : Int32) dX3_init_36 kc_4 ?_
  obtain ⟨h34, e35, H⟩ := lt_el H
  refine J_nI (4) dX3_init_37 (by decide) (by decide) (by decide) e35 ?_
  obtain ⟨g36, H⟩ := gd H
  obtain ⟨h37, e38, H⟩ := lt_el H
  refine J_pF 2 5 dX3_init_39 g36 flX3_28 rfl rfl rfl rfl e38 ?_
  have c39 := ekP e38
  have c40 := elP e38
  refine J_aload_n 0 dX3_init_42 rfl rfl ?_
  refine J_iconst (4 : Int32) dX3_init_43 kc_4 ?_
  obtain ⟨h41, e42, H⟩ := lt_el H
  refine J_nI (4) dX3_init_44 (by decide) (by decide) (by decide) e42 ?_
  obtain ⟨g43, H⟩ := gd H
  obtain ⟨h44, e45, H⟩ := lt_el H
  refine J_pF 2 6 dX3_init_46 g43 flX3_31 rfl rfl rfl rfl e45 ?_
  have c46 := ekP e45
  have c47 := elP e45
  refine J_aload_n 0 dX3_init_49 rfl rfl ?_
  refine J_iconst (4 : Int32) dX3_init_50 kc_4 ?_
  obtain ⟨h48, e49, H⟩ := lt_el H
  refine J_nI (4) dX3_init_51 (by decide) (by decide) (by decide) e49 ?_
  obtain ⟨g50, H⟩ := gd H
  obtain ⟨h51, e52, H⟩ := lt_el H
  refine J_pF 2 7 dX3_init_53 g50 flX3_34 rfl rfl rfl rfl e52 ?_
  have c53 := ekP e52
  have c54 := elP e52
  refine J_aload_n 0 dX3_init_56 rfl rfl ?_
  refine J_bipush (24 : Int32) dX3_init_57 kb_24 ?_
  obtain ⟨h55, e56, H⟩ := lt_el H
  refine J_nI (24) dX3_init_59 (by decide) (by decide) (by decide) e56 ?_
  obtain ⟨g57, H⟩ := gd H
  obtain ⟨h58, e59, H⟩ := lt_el H
  refine J_pF 2 8 dX3_init_61 g57 flX3_37 rfl rfl rfl rfl e59 ?_
  have c60 := ekP e59
  have c61 := elP e59
  refine J_aload_n 0 dX3_init_64 rfl rfl ?_
  refine J_iconst (4 : Int32) dX3_init_65 kc_4 ?_
  obtain ⟨h62, e63, H⟩ := lt_el H
  refine J_nI (4) dX3_init_66 (by decide) (by decide) (by decide) e63 ?_
  obtain ⟨g64, H⟩ := gd H
  obtain ⟨h65, e66, H⟩ := lt_el H
  refine J_pF 2 9 dX3_init_68 g64 flX3_40 rfl rfl rfl rfl e66 ?_
  have c67 := ekP e66
  have c68 := elP e66
  refine J_aload_n 0 dX3_init_71 rfl rfl ?_
  refine J_iconst (1 : Int32) dX3_init_72 kc_1 ?_
  obtain ⟨h69, e70, H⟩ := lt_el H
  refine J_pI 2 10 dX3_init_73 (kq c67 g64) flX3_43 rfl rfl e70 ?_
  have c71 := (ekI e70).trans c67
  have c72 := (elI e70).trans c68
  have c73 := epI e70
  cases H
  exact J_ret dX3_init_76 rfl
theorem okX3_init {d : Nat} {h : Hp} {v0 : Nat} {h9 : Hp} (H : MX3_init h v0 = some h9) : CT (d) YX3_init [.ref v0] h oV h9 := CT_of (by decide +kernel) (Nat.le_of_ble_eq_true rfl) (eX3_init H)
noncomputable def MX5_init (h : Hp) (v0 : Nat) : Option Hp :=
  gn (β := Hp) (v0 = 0) <|
  lt (α := Hp) (β := Option Hp) (alc h 21 (480)) fun (h2 : Hp) =>
  gg (β := Hp) (kd h2 v0 = 4) <|
  lt (α := Hp) (β := Option Hp) (sP h2 v0 0 (sz h + 1)) fun (h5 : Hp) =>
  lt (α := Hp) (β := Option Hp) (alc h5 20 (41)) fun (h9 : Hp) =>
  gg (β := Hp) (kd h9 v0 = 4) <|
  lt (α := Hp) (β := Option Hp) (sP h9 v0 1 (sz h5 + 1)) fun (h12 : Hp) =>
  lt (α := Hp) (β := Option Hp) (alc h12 22 (40)) fun (h16 : Hp) =>
  gg (β := Hp) (kd h16 v0 = 4) <|
  lt (α := Hp) (β := Option Hp) (sP h16 v0 2 (sz h12 + 1)) fun (h19 : Hp) =>
  lt (α := Hp) (β := Option Hp) (alc h19 20 (40)) fun (h23 : Hp) =>
  gg (β := Hp) (kd h23 v0 = 4) <|
  lt (α := Hp) (β := Option Hp) (sP h23 v0 3 (sz h19 + 1)) fun (h26 : Hp) =>
  lt (α := Hp) (β := Option Hp) (alc h26 20 (40)) fun (h30 : Hp) =>
  gg (β := Hp) (kd h30 v0 = 4) <|
  lt (α := Hp) (β := Option Hp) (sP h30 v0 4 (sz h26 + 1)) fun (h33 : Hp) =>
  lt (α := Hp) (β := Option Hp) (sI h33 v0 5 (0 : Int32)) fun (h37 : Hp) =>
  lt (α := Hp) (β := Option Hp) (sI h37 v0 6 (0 : Int32)) fun (h42 : Hp) =>
  lt (α := Hp) (β := Option Hp) (sI h42 v0 7 (0 : Int32)) fun (h47 : Hp) =>
  lt (α := Hp) (β := Option Hp) (sI h47 v0 8 (0 : Int32)) fun (h52 : Hp) =>
  lt (α := Hp) (β := Option Hp) (sI h52 v0 9 (0 : Int32)) fun (h57 : Hp) =>
  lt (α := Hp) (β := Option Hp) (sI h57 v0 10 (0 : Int32)) fun (h62 : Hp) =>
  lt (α := Hp) (β := Option Hp) (sI h62 v0 11 (0 : Int32)) fun (h67 : Hp) =>
  some h67
set_option maxRecDepth 100000 in
set_option maxHeartbeats 8000000 in
theorem eX5_init {d : Nat} {h : Hp} {v0 : Nat} {h9 : Hp} (H : MX5_init h v0 = some h9) : J (d) YX5_init 0 [.ref v0] [] h oV h9 := by
  unfold MX5_init at H
  refine J_aload_n 0 dX5_init_0 rfl rfl ?_
  obtain ⟨g1, H⟩ := gdn H
  refine J_objI dX5_init_1 mlX5_3 ob_i ob_c g1 (Nat.le_of_ble_eq_true rfl) ?_
  refine J_aload_n 0 dX5_init_4 rfl rfl ?_
  refine J_sipush (480 : Int32) dX5_init_5 ks_480 ?_
  obtain ⟨h2, e3, H⟩ := lt_el H
  refine J_nB (480) dX5_init_8 (by decide) (by decide) (by decide) e3 ?_
  obtain ⟨g4, H⟩ := gd H
  obtain ⟨h5, e6, H⟩ := lt_el H
  refine J_pF 4 0 dX5_init_10 g4 flX5_9 rfl rfl rfl rfl e6 ?_
  have c7 := ekP e6
  have c8 := elP e6
  refine J_aload_n 0 dX5_init_13 rfl rfl ?_
  refine J_bipush (41 : Int32) dX5_init_14 kb_41 ?_
  obtain ⟨h9, e10, H⟩ := lt_el H
  refine J_nI (41) dX5_init_16 (by decide) (by decide) (by decide) e10 ?_
  obtain ⟨g11, H⟩ := gd H
  obtain ⟨h12, e13, H⟩ := lt_el H
  refine J_pF 4 1 dX5_init_18 g11 flX5_15 rfl rfl rfl rfl e13 ?_
  have c14 := ekP e13
  have c15 := elP e13
  refine J_aload_n 0 dX5_init_21 rfl rfl ?_
  refine J_bipush (40 : Int32) dX5_init_22 kb_40 ?_
  obtain ⟨h16, e17, H⟩ := lt_el H
  refine J_nZ (40) dX5_init_24 (by decide) (by decide) (by decide) e17 ?_
  obtain ⟨g18, H⟩ := gd H
  obtain ⟨h19, e20, H⟩ := lt_el H
  refine J_pF 4 2 dX5_init_26 g18 flX5_19 rfl rfl rfl rfl e20 ?_
  have c21 := ekP e20
  have c22 := elP e20
  refine J_aload_n 0 dX5_init_29 rfl rfl ?_
  refine J_bipush (40 : Int32) dX5_init_30 kb_40 ?_
  obtain ⟨h23, e24, H⟩ := lt_el H
  refine J_nI (40) dX5_init_32 (by decide) (by decide) (by decide) e24 ?_
  obtain ⟨g25, H⟩ := gd H
  obtain ⟨h26, e27, H⟩ := lt_el H
  refine J_pF 4 3 dX5_init_34 g25 flX5_23 rfl rfl rfl rfl e27 ?_
  have c28 := ekP e27
  have c29 := elP e27
  refine J_aload_n 0 dX5_init_37 rfl rfl ?_
  refine J_bipush (40 : Int32) dX5_init_38 kb_40 ?_
  obtain ⟨h30, e31, H⟩ := lt_el H
  refine J_nI (40) dX5_init_40 (by decide) (by decide) (by decide) e31 ?_
  obtain ⟨g32, H⟩ := gd H
  obtain ⟨h33, e34, H⟩ := lt_el H
  refine J_pF 4 4 dX5_init_42 g32 flX5_26 rfl rfl rfl rfl e34 ?_
  have c35 := ekP e34
  have c36 := elP e34
  refine J_aload_n 0 dX5_init_45 rfl rfl ?_
  refine J_iconst (0 : Int32) dX5_init_46 kc_0 ?_
  obtain ⟨h37, e38, H⟩ := lt_el H
  refine J_pI 4 5 dX5_init_47 (kq c35 g32) flX5_29 rfl rfl e38 ?_
  have c39 := (ekI e38).trans c35
  have c40 := (elI e38).trans c36
  have c41 := epI e38
  refine J_aload_n 0 dX5_init_50 rfl rfl ?_
  refine J_iconst (0 : Int32) dX5_init_51 kc_0 ?_
  obtain ⟨h42, e43, H⟩ := lt_el H
  refine J_pI 4 6 dX5_init_52 (kq c39 g32) flX5_33 rfl rfl e43 ?_
  have c44 := (ekI e43).trans c39
  have c45 := (elI e43).trans c40
  have c46 := (epI e43).trans c41
  refine J_aload_n 0 dX5_init_55 rfl rfl ?_
  refine J_iconst (0 : Int32) dX5_init_56 kc_0 ?_
  obtain ⟨h47, e48, H⟩ := lt_el H
  refine J_pI 4 7 dX5_init_57 (kq c44 g32) flX5_36 rfl rfl e48 ?_
  have c49 := (ekI e48).trans c44
  have c50 := (elI e48).trans c45
  have c51 := (epI e48).trans c46
  refine J_aload_n 0 dX5_init_60 rfl rfl ?_
  refine J_iconst (0 : Int32) dX5_init_61 kc_0 ?_
  obtain ⟨h52, e53, H⟩ := lt_el H
  refine J_pI 4 8 dX5_init_62 (kq c49 g32) flX5_39 rfl rfl e53 ?_
  have c54 := (ekI e53).trans c49
  have c55 := (elI e53).trans c50
  have c56 := (epI e53).trans c51
  refine J_aload_n 0 dX5_init_65 rfl rfl ?_
  refine J_iconst (0 : Int32) dX5_init_66 kc_0 ?_
  obtain ⟨h57, e58, H⟩ := lt_el H
  refine J_pI 4 9 dX5_init_67 (kq c54 g32) flX5_42 rfl rfl e58 ?_
  have c59 := (ekI e58).trans c54
  have c60 := (elI e58).trans c55
  have c61 := (epI e58).trans c56
  refine J_aload_n 0 dX5_init_70 rfl rfl ?_
  refine J_iconst (0 : Int32) dX5_init_71 kc_0 ?_
  obtain ⟨h62, e63, H⟩ := lt_el H
  refine J_pZ 4 10 dX5_init_72 (kq c59 g32) flX5_45 rfl rfl rfl e63 ?_
  have c64 := (ekI e63).trans c59
  have c65 := (elI e63).trans c60
  have c66 := (epI e63).trans c61
  refine J_aload_n 0 dX5_init_75 rfl rfl ?_
  refine J_iconst (0 : Int32) dX5_init_76 kc_0 ?_
  obtain ⟨h67, e68, H⟩ := lt_el H
  refine J_pZ 4 11 dX5_init_77 (kq c64 g32) flX5_49 rfl rfl rfl e68 ?_
  have c69 := (ekI e68).trans c64
  have c70 := (elI e68).trans c65
  have c71 := (epI e68).trans c66
  cases H
  exact J_ret dX5_init_80 rfl
theorem okX5_init {d : Nat} {h : Hp} {v0 : Nat} {h9 : Hp} (H : MX5_init h v0 = some h9) : CT (d) YX5_init [.ref v0] h oV h9 := CT_of (by decide +kernel) (Nat.le_of_ble_eq_true rfl) (eX5_init H)
noncomputable def MX6_init (h : Hp) (v0 : Nat) : Option Hp :=
  gn (β := Hp) (v0 = 0) <|
  gg (β := Hp) (kd h v0 = 5) <|
  lt (α := Hp) (β := Option Hp) (sI h v0 0 (0 : Int32)) fun (h3 : Hp) =>
  lt (α := Hp) (β := Option Hp) (alc h3 20 (5)) fun (h8 : Hp) =>
  gg (β := Hp) (kd h8 v0 = 5) <|
  lt (α := Hp) (β := Option Hp) (sP h8 v0 1 (sz h3 + 1)) fun (h11 : Hp) =>
  lt (α := Hp) (β := Option Hp) (alc h11 20 (5)) fun (h15 : Hp) =>
  gg (β := Hp) (kd h15 v0 = 5) <|
  lt (α := Hp) (β := Option Hp) (sP h15 v0 2 (sz h11 + 1)) fun (h18 : Hp) =>
  lt (α := Hp) (β := Option Hp) (alc h18 20 (32)) fun (h22 : Hp) =>
  gg (β := Hp) (kd h22 v0 = 5) <|
  lt (α := Hp) (β := Option Hp) (sP h22 v0 3 (sz h18 + 1)) fun (h25 : Hp) =>
  lt (α := Hp) (β := Option Hp) (alc h25 20 (32)) fun (h29 : Hp) =>
  gg (β := Hp) (kd h29 v0 = 5) <|
  lt (α := Hp) (β := Option Hp) (sP h29 v0 4 (sz h25 + 1)) fun (h32 : Hp) =>
  some h32
set_option maxRecDepth 100000 in
set_option maxHeartbeats 8000000 in
theorem eX6_init {d : Nat} {h : Hp} {v0 : Nat} {h9 : Hp} (H : MX6_init h v0 = some h9) : J (d) YX6_init 0 [.ref v0] [] h oV h9 := by
  unfold MX6_init at H
  refine J_aload_n 0 dX6_init_0 rfl rfl ?_
  obtain ⟨g1, H⟩ := gdn H
  refine J_objI dX6_init_1 mlX6_3 ob_i ob_c g1 (Nat.le_of_ble_eq_true rfl) ?_
  refine J_aload_n 0 dX6_init_4 rfl rfl ?_
  refine J_iconst (0 : Int32) dX6_init_5 kc_0 ?_
  obtain ⟨g2, H⟩ := gd H
  obtain ⟨h3, e4, H⟩ := lt_el H
  refine J_pI 5 0 dX6_init_6 g2 flX6_9 rfl rfl e4 ?_
  have c5 := ekI e4
  have c6 := elI e4
  have c7 := epI e4
  refine J_aload_n 0 dX6_init_9 rfl rfl ?_
  refine J_iconst (5 : Int32) dX6_init_10 kc_5 ?_
  obtain ⟨h8, e9, H⟩ := lt_el H
  refine J_nI (5) dX6_init_11 (by decide) (by decide) (by decide) e9 ?_
  obtain ⟨g10, H⟩ := gd H
  obtain ⟨h11, e12, H⟩ := lt_el H
  refine J_pF 5 1 dX6_init_13 g10 flX6_15 rfl rfl rfl rfl e12 ?_
  have c13 := ekP e12
  have c14 := elP e12
  refine J_aload_n 0 dX6_init_16 rfl rfl ?_
  refine J_iconst (5 : Int32) dX6_init_17 kc_5 ?_
  obtain ⟨h15, e16, H⟩ := lt_el H
  refine J_nI (5) dX6_init_18 (by decide) (by decide) (by decide) e16 ?_
  obtain ⟨g17, H⟩ := gd H
  obtain ⟨h18, e19, H⟩ := lt_el H
  refine J_pF 5 2 dX6_init_20 g17 flX6_19 rfl rfl rfl rfl e19 ?_
  have c20 := ekP e19
  have c21 := elP e19
  refine J_aload_n 0 dX6_init_23 rfl rfl ?_
  refine J_bipush (32 : Int32) dX6_init_24 kb_32 ?_
  obtain ⟨h22, e23, H⟩ := lt_el H
  refine J_nI (32) dX6_init_26 (by decide) (by decide) (by decide) e23 ?_
  obtain ⟨g24, H⟩ := gd H
  obtain ⟨h25, e26, H⟩ := lt_el H
  refine J_pF 5 3 dX6_init_28 g24 flX6_22 rfl rfl rfl rfl e26 ?_
  have c27 := ekP e26
  have c28 := elP e26
  refine J_aload_n 0 dX6_init_31 rfl rfl ?_
  refine J_bipush (32 : Int32) dX6_init_32 kb_32 ?_
  obtain ⟨h29, e30, H⟩ := lt_el H
  refine J_nI (32) dX6_init_34 (by decide) (by decide) (by decide) e30 ?_
  obtain ⟨g31, H⟩ := gd H
  obtain ⟨h32, e33, H⟩ := lt_el H
  refine J_pF 5 4 dX6_init_36 g31 flX6_25 rfl rfl rfl rfl e33 ?_
  have c34 := ekP e33
  have c35 := elP e33
  cases H
  exact J_ret dX6_init_39 rfl
theorem okX6_init {d : Nat} {h : Hp} {v0 : Nat} {h9 : Hp} (H : MX6_init h v0 = some h9) : CT (d) YX6_init [.ref v0] h oV h9 := CT_of (by decide +kernel) (Nat.le_of_ble_eq_true rfl) (eX6_init H)
noncomputable def MX0_init (h : Hp) (v0 : Nat) : Option Hp :=
  gn (β := Hp) (v0 = 0) <|
  gg (β := Hp) (kd h v0 = 0) <|
  lt (α := Hp) (β := Option Hp) (sI h v0 0 (0 : Int32)) fun (h3 : Hp) =>
  lt (α := Hp) (β := Option Hp) (sI h3 v0 1 (-1 : Int32)) fun (h8 : Hp) =>
  lt (α := Hp) (β := Option Hp) (sI h8 v0 2 (0 : Int32)) fun (h13 : Hp) =>
  lt (α := Hp) (β := Option Hp) (sI h13 v0 3 (0 : Int32)) fun (h18 : Hp) =>
  lt (α := Hp) (β := Option Hp) (sI h18 v0 4 (0 : Int32)) fun (h23 : Hp) =>
  lt (α := Hp) (β := Option Hp) (sI h23 v0 5 (0 : Int32)) fun (h28 : Hp) =>
  lt (α := Hp) (β := Option Hp) (sI h28 v0 6 (0 : Int32)) fun (h33 : Hp) =>
  lt (α := Hp) (β := Option Hp) (sI h33 v0 7 (0 : Int32)) fun (h38 : Hp) =>
  lt (α := Hp) (β := Option Hp) (alc h38 20 (41)) fun (h43 : Hp) =>
  gg (β := Hp) (kd h43 v0 = 0) <|
  lt (α := Hp) (β := Option Hp) (sP h43 v0 8 (sz h38 + 1)) fun (h46 : Hp) =>
  lt (α := Hp) (β := Option Hp) (alc h46 20 (41)) fun (h50 : Hp) =>
  gg (β := Hp) (kd h50 v0 = 0) <|
  lt (α := Hp) (β := Option Hp) (sP h50 v0 9 (sz h46 + 1)) fun (h53 : Hp) =>
  lt (α := Hp) (β := Option Hp) (alc h53 20 (41)) fun (h57 : Hp) =>
  gg (β := Hp) (kd h57 v0 = 0) <|
  lt (α := Hp) (β := Option Hp) (sP h57 v0 10 (sz h53 + 1)) fun (h60 : Hp) =>
  lt (α := Hp) (β := Option Hp) (alc h60 20 (41)) fun (h64 : Hp) =>
  gg (β := Hp) (kd h64 v0 = 0) <|
  lt (α := Hp) (β := Option Hp) (sP h64 v0 11 (sz h60 + 1)) fun (h67 : Hp) =>
  lt (α := Hp) (β := Option Hp) (alc h67 20 (41)) fun (h71 : Hp) =>
  gg (β := Hp) (kd h71 v0 = 0) <|
  lt (α := Hp) (β := Option Hp) (sP h71 v0 12 (sz h67 + 1)) fun (h74 : Hp) =>
  lt (α := Hp) (β := Option Hp) (alc h74 22 (41)) fun (h78 : Hp) =>
  gg (β := Hp) (kd h78 v0 = 0) <|
  lt (α := Hp) (β := Option Hp) (sP h78 v0 13 (sz h74 + 1)) fun (h81 : Hp) =>
  some h81
set_option maxRecDepth 100000 in
set_option maxHeartbeats 8000000 in
theorem eX0_init {d : Nat} {h : Hp} {v0 : Nat} {h9 : Hp} (H : MX0_init h v0 = some h9) : J (d) YX0_init 0 [.ref v0] [] h oV h9 := by
  unfold MX0_init at H
  refine J_aload_n 0 dX0_init_0 rfl rfl ?_
  obtain ⟨g1, H⟩ := gdn H
  refine J_objI dX0_init_1 mlX0_3 ob_i ob_c g1 (Nat.le_of_ble_eq_true rfl) ?_
  refine J_aload_n 0 dX0_init_4 rfl rfl ?_
  refine J_iconst (0 : Int32) dX0_init_5 kc_0 ?_
  obtain ⟨g2, H⟩ := gd H
  obtain ⟨h3, e4, H⟩ := lt_el H
  refine J_pI 0 0 dX0_init_6 g2 flX0_9 rfl rfl e4 ?_
  have c5 := ekI e4
  have c6 := elI e4
  have c7 := epI e4
  refine J_aload_n 0 dX0_init_9 rfl rfl ?_
  refine J_iconst (-1 : Int32) dX0_init_10 kc_m1 ?_
  obtain ⟨h8, e9, H⟩ := lt_el H
  refine J_pI 0 1 dX0_init_11 (kq c5 g2) flX0_15 rfl rfl e9 ?_
  have c10 := (ekI e9).trans c5
  have c11 := (elI e9).trans c6
  have c12 := (epI e9).trans c7
  refine J_aload_n 0 dX0_init_14 rfl rfl ?_
  refine J_iconst (0 : Int32) dX0_init_15 kc_0 ?_
  obtain ⟨h13, e14, H⟩ := lt_el H
  refine J_pI 0 2 dX0_init_16 (kq c10 g2) flX0_18 rfl rfl e14 ?_
  have c15 := (ekI e14).trans c10
  have c16 := (elI e14).trans c11
  have c17 := (epI e14).trans c12
  refine J_aload_n 0 dX0_init_19 rfl rfl ?_
  refine J_iconst (0 : Int32) dX0_init_20 kc_0 ?_
  obtain ⟨h18, e19, H⟩ := lt_el H
  refine J_pI 0 3 dX0_init_21 (kq c15 g2) flX0_21 rfl rfl e19 ?_
  have c20 := (ekI e19).trans c15
  have c21 := (elI e19).trans c16
  have c22 := (epI e19).trans c17
  refine J_aload_n 0 dX0_init_24 rfl rfl ?_
  refine J_iconst (0 : Int32) dX0_init_25 kc_0 ?_
  obtain ⟨h23, e24, H⟩ := lt_el H
  refine J_pI 0 4 dX0_init_26 (kq c20 g2) flX0_24 rfl rfl e24 ?_
  have c25 := (ekI e24).trans c20
  have c26 := (elI e24).trans c21
  have c27 := (epI e24).trans c22
  refine J_aload_n 0 dX0_init_29 rfl rfl ?_
  refine J_iconst (0 : Int32) dX0_init_30 kc_0 ?_
  obtain ⟨h28, e29, H⟩ := lt_el H
  refine J_pI 0 5 dX0_init_31 (kq c25 g2) flX0_27 rfl rfl e29 ?_
  have c30 := (ekI e29).trans c25
  have c31 := (elI e29).trans c26
  have c32 := (epI e29).trans c27
  refine J_aload_n 0 dX0_init_34 rfl rfl ?_
  refine J_iconst (0 : Int32) dX0_init_35 kc_0 ?_
  obtain ⟨h33, e34, H⟩ := lt_el H
  refine J_pI 0 6 dX0_init_36 (kq c30 g2) flX0_30 rfl rfl e34 ?_
  have c35 := (ekI e34).trans c30
  have c36 := (elI e34).trans c31
  have c37 := (epI e34).trans c32
  refine J_aload_n 0 dX0_init_39 rfl rfl ?_
  refine J_iconst (0 : Int32) dX0_init_40 kc_0 ?_
  obtain ⟨h38, e39, H⟩ := lt_el H
  refine J_pI 0 7 dX0_init_41 (kq c35 g2) flX0_33 rfl rfl e39 ?_
  have c40 := (ekI e39).trans c35
  have c41 := (elI e39).trans c36
  have c42 := (epI e39).trans c37
  refine J_aload_n 0 dX0_init_44 rfl rfl ?_
  refine J_bipush (41 : Int32) dX0_init_45 kb_41 ?_
  obtain ⟨h43, e44, H⟩ := lt_el H
  refine J_nI (41) dX0_init_47 (by decide) (by decide) (by decide) e44 ?_
  obtain ⟨g45, H⟩ := gd H
  obtain ⟨h46, e47, H⟩ := lt_el H
  refine J_pF 0 8 dX0_init_49 g45 flX0_36 rfl rfl rfl rfl e47 ?_
  have c48 := ekP e47
  have c49 := elP e47
  refine J_aload_n 0 dX0_init_52 rfl rfl ?_
  refine J_bipush (41 : Int32) dX0_init_53 kb_41 ?_
  obtain ⟨h50, e51, H⟩ := lt_el H
  refine J_nI (41) dX0_init_55 (by decide) (by decide) (by decide) e51 ?_
  obtain ⟨g52, H⟩ := gd H
  obtain ⟨h53, e54, H⟩ := lt_el H
  refine J_pF 0 9 dX0_init_57 g52 flX0_40 rfl rfl rfl rfl e54 ?_
  have c55 := ekP e54
  have c56 := elP e54
  refine J_aload_n 0 dX0_init_60 rfl rfl ?_
  refine J_bipush (41 : Int32) dX0_init_61 kb_41 ?_
  obtain ⟨h57, e58, H⟩ := lt_el H
  refine J_nI (41) dX0_init_63 (by decide) (by decide) (by decide) e58 ?_
  obtain ⟨g59, H⟩ := gd H
  obtain ⟨h60, e61, H⟩ := lt_el H
  refine J_pF 0 10 dX0_init_65 g59 flX0_43 rfl rfl rfl rfl e61 ?_
  have c62 := ekP e61
  have c63 := elP e61
  refine J_aload_n 0 dX0_init_68 rfl rfl ?_
  refine J_bipush (41 : Int32) dX0_init_69 kb_41 ?_
  obtain ⟨h64, e65, H⟩ := lt_el H
  refine J_nI (41) dX0_init_71 (by decide) (by decide) (by decide) e65 ?_
  obtain ⟨g66, H⟩ := gd H
  obtain ⟨h67, e68, H⟩ := lt_el H
  refine J_pF 0 11 dX0_init_73 g66 flX0_46 rfl rfl rfl rfl e68 ?_
  have c69 := ekP e68
  have c70 := elP e68
  refine J_aload_n 0 dX0_init_76 rfl rfl ?_
  refine J_bipush (41 : Int32) dX0_init_77 kb_41 ?_
  obtain ⟨h71, e72, H⟩ := lt_el H
  refine J_nI (41) dX0_init_79 (by decide) (by decide) (by decide) e72 ?_
  obtain ⟨g73, H⟩ := gd H
  obtain ⟨h74, e75, H⟩ := lt_el H
  refine J_pF 0 12 dX0_init_81 g73 flX0_49 rfl rfl rfl rfl e75 ?_
  have c76 := ekP e75
  have c77 := elP e75
  refine J_aload_n 0 dX0_init_84 rfl rfl ?_
  refine J_bipush (41 : Int32) dX0_init_85 kb_41 ?_
  obtain ⟨h78, e79, H⟩ := lt_el H
  refine J_nZ (41) dX0_init_87 (by decide) (by decide) (by decide) e79 ?_
  obtain ⟨g80, H⟩ := gd H
  obtain ⟨h81, e82, H⟩ := lt_el H
  refine J_pF 0 13 dX0_init_89 g80 flX0_52 rfl rfl rfl rfl e82 ?_
  have c83 := ekP e82
  have c84 := elP e82
  cases H
  exact J_ret dX0_init_92 rfl
theorem okX0_init {d : Nat} {h : Hp} {v0 : Nat} {h9 : Hp} (H : MX0_init h v0 = some h9) : CT (d) YX0_init [.ref v0] h oV h9 := CT_of (by decide +kernel) (Nat.le_of_ble_eq_true rfl) (eX0_init H)
noncomputable def MX9_init (h : Hp) (v0 : Nat) : Option Hp :=
  gn (β := Hp) (v0 = 0) <|
  gg (β := Hp) (kd h v0 = 8) <|
  lt (α := Hp) (β := Option Hp) (sI h v0 0 (0 : Int32)) fun (h3 : Hp) =>
  lt (α := Hp) (β := Option Hp) (sI h3 v0 1 (0 : Int32)) fun (h8 : Hp) =>
  lt (α := Hp) (β := Option Hp) (alc h8 20 (12)) fun (h13 : Hp) =>
  gg (β := Hp) (kd h13 v0 = 8) <|
  lt (α := Hp) (β := Option Hp) (sP h13 v0 2 (sz h8 + 1)) fun (h16 : Hp) =>
  lt (α := Hp) (β := Option Hp) (alc h16 20 (12)) fun (h20 : Hp) =>
  gg (β := Hp) (kd h20 v0 = 8) <|
  lt (α := Hp) (β := Option Hp) (sP h20 v0 3 (sz h16 + 1)) fun (h23 : Hp) =>
  lt (α := Hp) (β := Option Hp) (alc h23 20 (12)) fun (h27 : Hp) =>
  gg (β := Hp) (kd h27 v0 = 8) <|
  lt (α := Hp) (β := Option Hp) (sP h27 v0 4 (sz h23 + 1)) fun (h30 : Hp) =>
  lt (α := Hp) (β := Option Hp) (alc h30 20 (12)) fun (h34 : Hp) =>
  gg (β := Hp) (kd h34 v0 = 8) <|
  lt (α := Hp) (β := Option Hp) (sP h34 v0 5 (sz h30 + 1)) fun (h37 : Hp) =>
  lt (α := Hp) (β := Option Hp) (alc h37 20 (256)) fun (h41 : Hp) =>
  gg (β := Hp) (kd h41 v0 = 8) <|
  lt (α := Hp) (β := Option Hp) (sP h41 v0 6 (sz h37 + 1)) fun (h44 : Hp) =>
  lt (α := Hp) (β := Option Hp) (alc h44 22 (12)) fun (h48 : Hp) =>
  gg (β := Hp) (kd h48 v0 = 8) <|
  lt (α := Hp) (β := Option Hp) (sP h48 v0 7 (sz h44 + 1)) fun (h51 : Hp) =>
  lt (α := Hp) (β := Option Hp) (alc h51 22 (64)) fun (h55 : Hp) =>
  gg (β := Hp) (kd h55 v0 = 8) <|
  lt (α := Hp) (β := Option Hp) (sP h55 v0 8 (sz h51 + 1)) fun (h58 : Hp) =>
  some h58
set_option maxRecDepth 100000 in
set_option maxHeartbeats 8000000 in
theorem eX9_init {d : Nat} {h : Hp} {v0 : Nat} {h9 : Hp} (H : MX9_init h v0 = some h9) : J (d) YX9_init 0 [.ref v0] [] h oV h9 := by
  unfold MX9_init at H
  refine J_aload_n 0 dX9_init_0 rfl rfl ?_
  obtain ⟨g1, H⟩ := gdn H
  refine J_objI dX9_init_1 mlX9_3 ob_i ob_c g1 (Nat.le_of_ble_eq_true rfl) ?_
  refine J_aload_n 0 dX9_init_4 rfl rfl ?_
  refine J_iconst (0 : Int32) dX9_init_5 kc_0 ?_
  obtain ⟨g2, H⟩ := gd H
  obtain ⟨h3, e4, H⟩ := lt_el H
  refine J_pI 8 0 dX9_init_6 g2 flX9_9 rfl rfl e4 ?_
  have c5 := ekI e4
  have c6 := elI e4
  have c7 := epI e4
  refine J_aload_n 0 dX9_init_9 rfl rfl ?_
  refine J_iconst (0 : Int32) dX9_init_10 kc_0 ?_
  obtain ⟨h8, e9, H⟩ := lt_el H
  refine J_pI 8 1 dX9_init_11 (kq c5 g2) flX9_15 rfl rfl e9 ?_
  have c10 := (ekI e9).trans c5
  have c11 := (elI e9).trans c6
  have c12 := (epI e9).trans c7
  refine J_aload_n 0 dX9_init_14 rfl rfl ?_
  refine J_bipush (12 : Int32) dX9_init_15 kb_12 ?_
  obtain ⟨h13, e14, H⟩ := lt_el H
  refine J_nI (12) dX9_init_17 (by decide) (by decide) (by decide) e14 ?_
  obtain ⟨g15, H⟩ := gd H
  obtain ⟨h16, e17, H⟩ := lt_el H
  refine J_pF 8 2 dX9_init_19 g15 flX9_18 rfl rfl rfl rfl e17 ?_
  have c18 := ekP e17
  have c19 := elP e17
  refine J_aload_n 0 dX9_init_22 rfl rfl ?_
  refine J_bipush (12 : Int32) dX9_init_23 kb_12 ?_
  obtain ⟨h20, e21, H⟩ := lt_el H
  refine J_nI (12) dX9_init_25 (by decide) (by decide) (by decide) e21 ?_
  obtain ⟨g22, H⟩ := gd H
  obtain ⟨h23, e24, H⟩ := lt_el H
  refine J_pF 8 3 dX9_init_27 g22 flX9_22 rfl rfl rfl rfl e24 ?_
  have c25 := ekP e24
  have c26 := elP e24
  refine J_aload_n 0 dX9_init_30 rfl rfl ?_
  refine J_bipush (12 : Int32) dX9_init_31 kb_12 ?_
  obtain ⟨h27, e28, H⟩ := lt_el H
  refine J_nI (12) dX9_init_33 (by decide) (by decide) (by decide) e28 ?_
  obtain ⟨g29, H⟩ := gd H
  obtain ⟨h30, e31, H⟩ := lt_el H
  refine J_pF 8 4 dX9_init_35 g29 flX9_25 rfl rfl rfl rfl e31 ?_
  have c32 := ekP e31
  have c33 := elP e31
  refine J_aload_n 0 dX9_init_38 rfl rfl ?_
  refine J_bipush (12 : Int32) dX9_init_39 kb_12 ?_
  obtain ⟨h34, e35, H⟩ := lt_el H
  refine J_nI (12) dX9_init_41 (by decide) (by decide) (by decide) e35 ?_
  obtain ⟨g36, H⟩ := gd H
  obtain ⟨h37, e38, H⟩ := lt_el H
  refine J_pF 8 5 dX9_init_43 g36 flX9_28 rfl rfl rfl rfl e38 ?_
  have c39 := ekP e38
  have c40 := elP e38
  refine J_aload_n 0 dX9_init_46 rfl rfl ?_
  refine J_sipush (256 : Int32) dX9_init_47 ks_256 ?_
  obtain ⟨h41, e42, H⟩ := lt_el H
  refine J_nI (256) dX9_init_50 (by decide) (by decide) (by decide) e42 ?_
  obtain ⟨g43, H⟩ := gd H
  obtain ⟨h44, e45, H⟩ := lt_el H
  refine J_pF 8 6 dX9_init_52 g43 flX9_31 rfl rfl rfl rfl e45 ?_
  have c46 := ekP e45
  have c47 := elP e45
  refine J_aload_n 0 dX9_init_55 rfl rfl ?_
  refine J_bipush (12 : Int32) dX9_init_56 kb_12 ?_
  obtain ⟨h48, e49, H⟩ := lt_el H
  refine J_nZ (12) dX9_init_58 (by decide) (by decide) (by decide) e49 ?_
  obtain ⟨g50, H⟩ := gd H
  obtain ⟨h51, e52, H⟩ := lt_el H
  refine J_pF 8 7 dX9_init_60 g50 flX9_34 rfl rfl rfl rfl e52 ?_
  have c53 := ekP e52
  have c54 := elP e52
  refine J_aload_n 0 dX9_init_63 rfl rfl ?_
  refine J_bipush (64 : Int32) dX9_init_64 kb_64 ?_
  obtain ⟨h55, e56, H⟩ := lt_el H
  refine J_nZ (64) dX9_init_66 (by decide) (by decide) (by decide) e56 ?_
  obtain ⟨g57, H⟩ := gd H
  obtain ⟨h58, e59, H⟩ := lt_el H
  refine J_pF 8 8 dX9_init_68 g57 flX9_38 rfl rfl rfl rfl e59 ?_
  have c60 := ekP e59
  have c61 := elP e59
  cases H
  exact J_ret dX9_init_71 rfl
theorem okX9_init {d : Nat} {h : Hp} {v0 : Nat} {h9 : Hp} (H : MX9_init h v0 = some h9) : CT (d) YX9_init [.ref v0] h oV h9 := CT_of (by decide +kernel) (Nat.le_of_ble_eq_true rfl) (eX9_init H)
noncomputable def BX7_init_163 (h : Hp) (v0 : Nat) (v1 : Int32) : Option ((Int32 × Hp) ⊕ Hp) :=
  gg (β := ((Int32 × Hp) ⊕ Hp)) (kd h v0 = 6) <|
  gg (β := ((Int32 × Hp) ⊕ Hp)) (kd h (gP h v0 1) = 20) <|
  if (nI (ln h (gP h v0 1))) ≤ v1 then
    some (.inr (h))
  else
    gg (β := ((Int32 × Hp) ⊕ Hp)) (inB v1 (ln h (gP h v0 1)) = true) <|
    lt (α := Hp) (β := Option ((Int32 × Hp) ⊕ Hp)) (sI h (gP h v0 1) v1.toNatClampNeg (4 : Int32)) fun (h141 : Hp) =>
    some (.inl ((v1 + (1 : Int32)), h141))
set_option maxRecDepth 100000 in
set_option maxHeartbeats 8000000 in
theorem bX7_init_163 {d : Nat} {h : Hp} {v0 : Nat} {v1 : Int32} {h9 : Hp} {x : ((Int32 × Hp) ⊕ Hp)} (H : BX7_init_163 h v0 v1 = some x) (hb0 : ∀ s : Int32 × Hp, x = .inl s → J (d + 1) YX7_init 163 [.ref v0, .int s.1] [] s.2 oV h9) (hx : ∀ z : Hp, x = .inr (z) → z = h9) : J (d + 1) YX7_init 163 [.ref v0, .int v1] [] h oV h9 := by
  unfold BX7_init_163 at H
  refine J_iload_n 1 dX7_init_163 rfl rfl ?_
  refine J_aload_n 0 dX7_init_164 rfl rfl ?_
  obtain ⟨g137, H⟩ := gd H
  refine J_gP 6 1 dX7_init_165 g137 flX7_15 rfl rfl ?_
  obtain ⟨g138, H⟩ := gd H
  refine J_len 20 dX7_init_168 g138 rfl ?_
  refine J_icmp_ge 185 dX7_init_169 rfl (fun q139 => ?_) (fun q139 => ?_)
  · replace H := br1 q139 H
    cases H
    cases hx _ rfl
    exact J_ret dX7_init_185 rfl
  · replace H := br0 q139 H
    refine J_aload_n 0 dX7_init_172 rfl rfl ?_
    refine J_gP 6 1 dX7_init_173 g137 flX7_15 rfl rfl ?_
    refine J_iload_n 1 dX7_init_176 rfl rfl ?_
    refine J_iconst (4 : Int32) dX7_init_177 kc_4 ?_
    obtain ⟨g140, H⟩ := gd H
    obtain ⟨h141, e142, H⟩ := lt_el H
    refine J_sI dX7_init_178 g138 (inB_ok g140) e142 ?_
    have c143 := ekI e142
    have c144 := elI e142
    have c145 := epI e142
    refine J_iinc (v1 + (1 : Int32)) dX7_init_179 rfl (congrArg (HAdd.hAdd v1) kc_1) (by decide) (ls' := [.ref v0, .int (v1 + (1 : Int32))]) rfl ?_
    refine J_goto 163 dX7_init_182 rfl ?_
    cases H
    exact J_dr (hb0 _ rfl) ⟨rfl, ⟨rfl, trivial⟩⟩
noncomputable def MX7_init_163 (h : Hp) (v0 : Nat) (v1 : Int32) : Option Hp := it (fun q : Int32 × Hp => BX7_init_163 q.2 v0 q.1) (v1, h)
set_option maxRecDepth 100000 in
set_option maxHeartbeats 8000000 in
theorem kX7_init_163 {d : Nat} {h : Hp} {v0 : Nat} {v1 : Int32} {h9 : Hp} (H : MX7_init_163 h v0 v1 = some h9) : J (d + 1) YX7_init 163 [.ref v0, .int v1] [] h oV h9 := by
  unfold MX7_init_163 at H
  refine it_J (G := (fun q : Int32 × Hp => J (d + 1) YX7_init 163 [.ref v0, .int q.1] [] q.2 oV h9)) (Q := (fun y : Hp => y = h9)) (fun q x Hq hm => ?_) H rfl
  exact bX7_init_163 Hq (fun s hs => by subst hs; exact hm) (fun z hz => by subst hz; exact hm)
noncomputable def MX7_init (h : Hp) (v0 : Nat) : Option Hp :=
  gn (β := Hp) (v0 = 0) <|
  gg (β := Hp) (kd h v0 = 6) <|
  lt (α := Hp) (β := Option Hp) (sI h v0 0 (0 : Int32)) fun (h3 : Hp) =>
  lt (α := Hp) (β := Option Hp) (alc h3 20 (54)) fun (h8 : Hp) =>
  gg (β := Hp) (kd h8 v0 = 6) <|
  lt (α := Hp) (β := Option Hp) (sP h8 v0 1 (sz h3 + 1)) fun (h11 : Hp) =>
  lt (α := Hp) (β := Option Hp) (alc h11 25 (10)) fun (h15 : Hp) =>
  gg (β := Hp) (kd h15 v0 = 6) <|
  lt (α := Hp) (β := Option Hp) (sP h15 v0 2 (sz h11 + 1)) fun (h18 : Hp) =>
  lt (α := Hp) (β := Option Hp) (sI h18 v0 3 (0 : Int32)) fun (h22 : Hp) =>
  lt (α := Hp) (β := Option Hp) (alc h22 8 9) fun (h27 : Hp) =>
  Option.bind (α := Hp) (β := Hp) (MX9_init h27 (sz h22 + 1)) fun (h30 : Hp) =>
  gg (β := Hp) (kd h30 v0 = 6) <|
  lt (α := Hp) (β := Option Hp) (sP h30 v0 4 (sz h22 + 1)) fun (h32 : Hp) =>
  lt (α := Hp) (β := Option Hp) (alc h32 26 (100)) fun (h36 : Hp) =>
  gg (β := Hp) (kd h36 v0 = 6) <|
  lt (α := Hp) (β := Option Hp) (sP h36 v0 5 (sz h32 + 1)) fun (h39 : Hp) =>
  lt (α := Hp) (β := Option Hp) (alc h39 20 (20)) fun (h43 : Hp) =>
  gg (β := Hp) (kd h43 v0 = 6) <|
  lt (α := Hp) (β := Option Hp) (sP h43 v0 6 (sz h39 + 1)) fun (h46 : Hp) =>
  lt (α := Hp) (β := Option Hp) (sI h46 v0 7 (0 : Int32)) fun (h50 : Hp) =>
  lt (α := Hp) (β := Option Hp) (alc h50 27 (4)) fun (h55 : Hp) =>
  gg (β := Hp) (kd h55 v0 = 6) <|
  lt (α := Hp) (β := Option Hp) (sP h55 v0 8 (sz h50 + 1)) fun (h58 : Hp) =>
  lt (α := Hp) (β := Option Hp) (sI h58 v0 9 (0 : Int32)) fun (h62 : Hp) =>
  lt (α := Hp) (β := Option Hp) (alc h62 28 (300)) fun (h67 : Hp) =>
  gg (β := Hp) (kd h67 v0 = 6) <|
  lt (α := Hp) (β := Option Hp) (sP h67 v0 10 (sz h62 + 1)) fun (h70 : Hp) =>
  lt (α := Hp) (β := Option Hp) (sI h70 v0 11 (0 : Int32)) fun (h74 : Hp) =>
  lt (α := Hp) (β := Option Hp) (alc h74 20 (32)) fun (h79 : Hp) =>
  gg (β := Hp) (kd h79 v0 = 6) <|
  lt (α := Hp) (β := Option Hp) (sP h79 v0 12 (sz h74 + 1)) fun (h82 : Hp) =>
  lt (α := Hp) (β := Option Hp) (alc h82 20 (32)) fun (h86 : Hp) =>
  gg (β := Hp) (kd h86 v0 = 6) <|
  lt (α := Hp) (β := Option Hp) (sP h86 v0 13 (sz h82 + 1)) fun (h89 : Hp) =>
  lt (α := Hp) (β := Option Hp) (alc h89 0 14) fun (h93 : Hp) =>
  Option.bind (α := Hp) (β := Hp) (MX0_init h93 (sz h89 + 1)) fun (h96 : Hp) =>
  gg (β := Hp) (kd h96 v0 = 6) <|
  lt (α := Hp) (β := Option Hp) (sP h96 v0 14 (sz h89 + 1)) fun (h98 : Hp) =>
  lt (α := Hp) (β := Option Hp) (alc h98 20 (9)) fun (h102 : Hp) =>
  gg (β := Hp) (kd h102 v0 = 6) <|
  lt (α := Hp) (β := Option Hp) (sP h102 v0 15 (sz h98 + 1)) fun (h105 : Hp) =>
  lt (α := Hp) (β := Option Hp) (alc h105 20 (27)) fun (h109 : Hp) =>
  gg (β := Hp) (kd h109 v0 = 6) <|
  lt (α := Hp) (β := Option Hp) (sP h109 v0 16 (sz h105 + 1)) fun (h112 : Hp) =>
  lt (α := Hp) (β := Option Hp) (alc h112 20 (27)) fun (h116 : Hp) =>
  gg (β := Hp) (kd h116 v0 = 6) <|
  lt (α := Hp) (β := Option Hp) (sP h116 v0 17 (sz h112 + 1)) fun (h119 : Hp) =>
  lt (α := Hp) (β := Option Hp) (alc h119 21 (512)) fun (h123 : Hp) =>
  gg (β := Hp) (kd h123 v0 = 6) <|
  lt (α := Hp) (β := Option Hp) (sP h123 v0 18 (sz h119 + 1)) fun (h126 : Hp) =>
  lt (α := Hp) (β := Option Hp) (alc h126 21 (512)) fun (h130 : Hp) =>
  gg (β := Hp) (kd h130 v0 = 6) <|
  lt (α := Hp) (β := Option Hp) (sP h130 v0 19 (sz h126 + 1)) fun (h133 : Hp) =>
  MX7_init_163 h133 v0 (0 : Int32)
set_option maxRecDepth 100000 in
set_option maxHeartbeats 8000000 in
theorem eX7_init {d : Nat} {h : Hp} {v0 : Nat} {h9 : Hp} (H : MX7_init h v0 = some h9) : J (d + 1) YX7_init 0 [.ref v0, Value.null] [] h oV h9 := by
  unfold MX7_init at H
  refine J_aload_n 0 dX7_init_0 rfl rfl ?_
  obtain ⟨g1, H⟩ := gdn H
  refine J_objI dX7_init_1 mlX7_3 ob_i ob_c g1 (Nat.le_of_ble_eq_true rfl) ?_
  refine J_aload_n 0 dX7_init_4 rfl rfl ?_
  refine J_iconst (0 : Int32) dX7_init_5 kc_0 ?_
  obtain ⟨g2, H⟩ := gd H
  obtain ⟨h3, e4, H⟩ := lt_el H
  refine J_pI 6 0 dX7_init_6 g2 flX7_9 rfl rfl e4 ?_
  have c5 := ekI e4
  have c6 := elI e4
  have c7 := epI e4
  refine J_aload_n 0 dX7_init_9 rfl rfl ?_
  refine J_bipush (54 : Int32) dX7_init_10 kb_54 ?_
  obtain ⟨h8, e9, H⟩ := lt_el H
  refine J_nI (54) dX7_init_12 (by decide) (by decide) (by decide) e9 ?_
  obtain ⟨g10, H⟩ := gd H
  obtain ⟨h11, e12, H⟩ := lt_el H
  refine J_pF 6 1 dX7_init_14 g10 flX7_15 rfl rfl rfl rfl e12 ?_
  have c13 := ekP e12
  have c14 := elP e12
  refine J_aload_n 0 dX7_init_17 rfl rfl ?_
  refine J_bipush (10 : Int32) dX7_init_18 kb_10 ?_
  obtain ⟨h15, e16, H⟩ := lt_el H
  refine J_nA 25 (10) dX7_init_20 rfl clX7_19 (by decide) (by decide) (by decide) e16 ?_
  obtain ⟨g17, H⟩ := gd H
  obtain ⟨h18, e19, H⟩ := lt_el H
  refine J_pF 6 2 dX7_init_23 g17 flX7_21 rfl rfl rfl rfl e19 ?_
  have c20 := ekP e19
  have c21 := elP e19
  refine J_aload_n 0 dX7_init_26 rfl rfl ?_
  refine J_iconst (0 : Int32) dX7_init_27 kc_0 ?_
  obtain ⟨h22, e23, H⟩ := lt_el H
  refine J_pI 6 3 dX7_init_28 (kq c20 g17) flX7_25 rfl rfl e23 ?_
  have c24 := (ekI e23).trans c20
  have c25 := (elI e23).trans c21
  have c26 := epI e23
  refine J_aload_n 0 dX7_init_31 rfl rfl ?_
  obtain ⟨h27, e28, H⟩ := lt_el H
  refine J_nO 8 9 dX7_init_32 rfl rfl clX7_19 in8 ini8 e28 ?_
  refine J_dup dX7_init_35 rfl ?_
  obtain ⟨h30, e29, H⟩ := bd H
  refine J_cIN (as := []) YX9_init "LeadRoom" 0 dX7_init_36 moX9_init miX9_init mlX7_28 rfl rfl (kn99 (ekN e28) rfl) (okX9_init (d := d) e29) rfl rfl [.ref (sz h22 + 1), .ref v0] rfl rfl ?_
  obtain ⟨g31, H⟩ := gd H
  obtain ⟨h32, e33, H⟩ := lt_el H
  refine J_pF 6 4 dX7_init_39 g31 flX7_29 rfl rfl rfl rfl e33 ?_
  have c34 := ekP e33
  have c35 := elP e33
  refine J_aload_n 0 dX7_init_42 rfl rfl ?_
  refine J_bipush (100 : Int32) dX7_init_43 kb_100 ?_
  obtain ⟨h36, e37, H⟩ := lt_el H
  refine J_nA 26 (100) dX7_init_45 rfl clX7_33 (by decide) (by decide) (by decide) e37 ?_
  obtain ⟨g38, H⟩ := gd H
  obtain ⟨h39, e40, H⟩ := lt_el H
  refine J_pF 6 5 dX7_init_48 g38 flX7_35 rfl rfl rfl rfl e40 ?_
  have c41 := ekP e40
  have c42 := elP e40
  refine J_aload_n 0 dX7_init_51 rfl rfl ?_
  refine J_bipush (20 : Int32) dX7_init_52 kb_20 ?_
  obtain ⟨h43, e44, H⟩ := lt_el H
  refine J_nI (20) dX7_init_54 (by decide) (by decide) (by decide) e44 ?_
  obtain ⟨g45, H⟩ := gd H
  obtain ⟨h46, e47, H⟩ := lt_el H
  refine J_pF 6 6 dX7_init_56 g45 flX7_39 rfl rfl rfl rfl e47 ?_
  have c48 := ekP e47
  have c49 := elP e47
  refine J_aload_n 0 dX7_init_59 rfl rfl ?_
  refine J_iconst (0 : Int32) dX7_init_60 kc_0 ?_
  obtain ⟨h50, e51, H⟩ := lt_el H
  refine J_pI 6 7 dX7_init_61 (kq c48 g45) flX7_42 rfl rfl e51 ?_
  have c52 := (ekI e51).trans c48
  have c53 := (elI e51).trans c49
  have c54 := epI e51
  refine J_aload_n 0 dX7_init_64 rfl rfl ?_
  refine J_iconst (4 : Int32) dX7_init_65 kc_4 ?_
  obtain ⟨h55, e56, H⟩ := lt_el H
  refine J_nA 27 (4) dX7_init_66 rfl clX7_45 (by decide) (by decide) (by decide) e56 ?_
  obtain ⟨g57, H⟩ := gd H
  obtain ⟨h58, e59, H⟩ := lt_el H
  refine J_pF 6 8 dX7_init_69 g57 flX7_47 rfl rfl rfl rfl e59 ?_
  have c60 := ekP e59
  have c61 := elP e59
  refine J_aload_n 0 dX7_init_72 rfl rfl ?_
  refine J_iconst (0 : Int32) dX7_init_73 kc_0 ?_
  obtain ⟨h62, e63, H⟩ := lt_el H
  refine J_pI 6 9 dX7_init_74 (kq c60 g57) flX7_51 rfl rfl e63 ?_
  have c64 := (ekI e63).trans c60
  have c65 := (elI e63).trans c61
  have c66 := epI e63
  refine J_aload_n 0 dX7_init_77 rfl rfl ?_
  refine J_sipush (300 : Int32) dX7_init_78 ks_300 ?_
  obtain ⟨h67, e68, H⟩ := lt_el H
  refine J_nA 28 (300) dX7_init_81 rfl clX7_54 (by decide) (by decide) (by decide) e68 ?_
  obtain ⟨g69, H⟩ := gd H
  obtain ⟨h70, e71, H⟩ := lt_el H
  refine J_pF 6 10 dX7_init_84 g69 flX7_56 rfl rfl rfl rfl e71 ?_
  have c72 := ekP e71
  have c73 := elP e71
  refine J_aload_n 0 dX7_init_87 rfl rfl ?_
  refine J_iconst (0 : Int32) dX7_init_88 kc_0 ?_
  obtain ⟨h74, e75, H⟩ := lt_el H
  refine J_pI 6 11 dX7_init_89 (kq c72 g69) flX7_60 rfl rfl e75 ?_
  have c76 := (ekI e75).trans c72
  have c77 := (elI e75).trans c73
  have c78 := epI e75
  refine J_aload_n 0 dX7_init_92 rfl rfl ?_
  refine J_bipush (32 : Int32) dX7_init_93 kb_32 ?_
  obtain ⟨h79, e80, H⟩ := lt_el H
  refine J_nI (32) dX7_init_95 (by decide) (by decide) (by decide) e80 ?_
  obtain ⟨g81, H⟩ := gd H
  obtain ⟨h82, e83, H⟩ := lt_el H
  refine J_pF 6 12 dX7_init_97 g81 flX7_63 rfl rfl rfl rfl e83 ?_
  have c84 := ekP e83
  have c85 := elP e83
  refine J_aload_n 0 dX7_init_100 rfl rfl ?_
  refine J_bipush (32 : Int32) dX7_init_101 kb_32 ?_
  obtain ⟨h86, e87, H⟩ := lt_el H
  refine J_nI (32) dX7_init_103 (by decide) (by decide) (by decide) e87 ?_
  obtain ⟨g88, H⟩ := gd H
  obtain ⟨h89, e90, H⟩ := lt_el H
  refine J_pF 6 13 dX7_init_105 g88 flX7_66 rfl rfl rfl rfl e90 ?_
  have c91 := ekP e90
  have c92 := elP e90
  refine J_aload_n 0 dX7_init_108 rfl rfl ?_
  obtain ⟨h93, e94, H⟩ := lt_el H
  refine J_nO 0 14 dX7_init_109 rfl rfl clX7_69 in0 ini0 e94 ?_
  refine J_dup dX7_init_112 rfl ?_
  obtain ⟨h96, e95, H⟩ := bd H
  refine J_cIN (as := []) YX0_init "LeadRoom" 0 dX7_init_113 moX0_init miX0_init mlX7_71 rfl rfl (kn99 (ekN e94) rfl) (okX0_init (d := d) e95) rfl rfl [.ref (sz h89 + 1), .ref v0] rfl rfl ?_
  obtain ⟨g97, H⟩ := gd H
  obtain ⟨h98, e99, H⟩ := lt_el H
  refine J_pF 6 14 dX7_init_116 g97 flX7_72 rfl rfl rfl rfl e99 ?_
  have c100 := ekP e99
  have c101 := elP e99
  refine J_aload_n 0 dX7_init_119 rfl rfl ?_
  refine J_bipush (9 : Int32) dX7_init_120 kb_9 ?_
  obtain ⟨h102, e103, H⟩ := lt_el H
  refine J_nI (9) dX7_init_122 (by decide) (by decide) (by decide) e103 ?_
  obtain ⟨g104, H⟩ := gd H
  obtain ⟨h105, e106, H⟩ := lt_el H
  refine J_pF 6 15 dX7_init_124 g104 flX7_76 rfl rfl rfl rfl e106 ?_
  have c107 := ekP e106
  have c108 := elP e106
  refine J_aload_n 0 dX7_init_127 rfl rfl ?_
  refine J_bipush (27 : Int32) dX7_init_128 kb_27 ?_
  obtain ⟨h109, e110, H⟩ := lt_el H
  refine J_nI (27) dX7_init_130 (by decide) (by decide) (by decide) e110 ?_
  obtain ⟨g111, H⟩ := gd H
  obtain ⟨h112, e113, H⟩ := lt_el H
  refine J_pF 6 16 dX7_init_132 g111 flX7_79 rfl rfl rfl rfl e113 ?_
  have c114 := ekP e113
  have c115 := elP e113
  refine J_aload_n 0 dX7_init_135 rfl rfl ?_
  refine J_bipush (27 : Int32) dX7_init_136 kb_27 ?_
  obtain ⟨h116, e117, H⟩ := lt_el H
  refine J_nI (27) dX7_init_138 (by decide) (by decide) (by decide) e117 ?_
  obtain ⟨g118, H⟩ := gd H
  obtain ⟨h119, e120, H⟩ := lt_el H
  refine J_pF 6 17 dX7_init_140 g118 flX7_82 rfl rfl rfl rfl e120 ?_
  have c121 := ekP e120
  have c122 := elP e120
  refine J_aload_n 0 dX7_init_143 rfl rfl ?_
  refine J_sipush (512 : Int32) dX7_init_144 ks_512 ?_
  obtain ⟨h123, e124, H⟩ := lt_el H
  refine J_nB (512) dX7_init_147 (by decide) (by decide) (by decide) e124 ?_
  obtain ⟨g125, H⟩ := gd H
  obtain ⟨h126, e127, H⟩ := lt_el H
  refine J_pF 6 18 dX7_init_149 g125 flX7_85 rfl rfl rfl rfl e127 ?_
  have c128 := ekP e127
  have c129 := elP e127
  refine J_aload_n 0 dX7_init_152 rfl rfl ?_
  refine J_sipush (512 : Int32) dX7_init_153 ks_512 ?_
  obtain ⟨h130, e131, H⟩ := lt_el H
  refine J_nB (512) dX7_init_156 (by decide) (by decide) (by decide) e131 ?_
  obtain ⟨g132, H⟩ := gd H
  obtain ⟨h133, e134, H⟩ := lt_el H
  refine J_pF 6 19 dX7_init_158 g132 flX7_89 rfl rfl rfl rfl e134 ?_
  have c135 := ekP e134
  have c136 := elP e134
  refine J_iconst (0 : Int32) dX7_init_161 kc_0 ?_
  refine J_istore_n 1 dX7_init_162 rfl (by decide) (ls' := [.ref v0, .int (0 : Int32)]) rfl ?_
  exact J_dr (kX7_init_163 H ) ⟨rfl, ⟨rfl, trivial⟩⟩
theorem okX7_init {d : Nat} {h : Hp} {v0 : Nat} {h9 : Hp} (H : MX7_init h v0 = some h9) : CT (d + 1) YX7_init [.ref v0] h oV h9 := CT_of (by decide +kernel) (Nat.le_of_ble_eq_true rfl) (eX7_init H)
noncomputable def MX10_init (h : Hp) (v0 : Nat) (v1 : Nat) : Option Hp :=
  gn (β := Hp) (v0 = 0) <|
  gg (β := Hp) (kd h v0 = 9) <|
  lt (α := Hp) (β := Option Hp) (sI h v0 1 (0 : Int32)) fun (h3 : Hp) =>
  lt (α := Hp) (β := Option Hp) (sI h3 v0 2 (0 : Int32)) fun (h8 : Hp) =>
  lt (α := Hp) (β := Option Hp) (sI h8 v0 3 (-1 : Int32)) fun (h13 : Hp) =>
  lt (α := Hp) (β := Option Hp) (alc h13 20 (401)) fun (h18 : Hp) =>
  gg (β := Hp) (kd h18 v0 = 9) <|
  lt (α := Hp) (β := Option Hp) (sP h18 v0 4 (sz h13 + 1)) fun (h21 : Hp) =>
  lt (α := Hp) (β := Option Hp) (alc h21 8 9) fun (h25 : Hp) =>
  Option.bind (α := Hp) (β := Hp) (MX9_init h25 (sz h21 + 1)) fun (h28 : Hp) =>
  gg (β := Hp) (kd h28 v0 = 9) <|
  lt (α := Hp) (β := Option Hp) (sP h28 v0 5 (sz h21 + 1)) fun (h30 : Hp) =>
  lt (α := Hp) (β := Option Hp) (sP h30 v0 0 v1) fun (h34 : Hp) =>
  some h34
set_option maxRecDepth 100000 in
set_option maxHeartbeats 8000000 in
theorem eX10_init {d : Nat} {h : Hp} {v0 : Nat} {v1 : Nat} {h9 : Hp} (H : MX10_init h v0 v1 = some h9) : J (d + 1) YX10_init 0 [.ref v0, .ref v1] [] h oV h9 := by
  unfold MX10_init at H
  refine J_aload_n 0 dX10_init_0 rfl rfl ?_
  obtain ⟨g1, H⟩ := gdn H
  refine J_objI dX10_init_1 mlX10_3 ob_i ob_c g1 (Nat.le_of_ble_eq_true rfl) ?_
  refine J_aload_n 0 dX10_init_4 rfl rfl ?_
  refine J_iconst (0 : Int32) dX10_init_5 kc_0 ?_
  obtain ⟨g2, H⟩ := gd H
  obtain ⟨h3, e4, H⟩ := lt_el H
  refine J_pI 9 1 dX10_init_6 g2 flX10_9 rfl rfl e4 ?_
  have c5 := ekI e4
  have c6 := elI e4
  have c7 := epI e4
  refine J_aload_n 0 dX10_init_9 rfl rfl ?_
  refine J_iconst (0 : Int32) dX10_init_10 kc_0 ?_
  obtain ⟨h8, e9, H⟩ := lt_el H
  refine J_pI 9 2 dX10_init_11 (kq c5 g2) flX10_15 rfl rfl e9 ?_
  have c10 := (ekI e9).trans c5
  have c11 := (elI e9).trans c6
  have c12 := (epI e9).trans c7
  refine J_aload_n 0 dX10_init_14 rfl rfl ?_
  refine J_iconst (-1 : Int32) dX10_init_15 kc_m1 ?_
  obtain ⟨h13, e14, H⟩ := lt_el H
  refine J_pI 9 3 dX10_init_16 (kq c10 g2) flX10_18 rfl rfl e14 ?_
  have c15 := (ekI e14).trans c10
  have c16 := (elI e14).trans c11
  have c17 := (epI e14).trans c12
  refine J_aload_n 0 dX10_init_19 rfl rfl ?_
  refine J_sipush (401 : Int32) dX10_init_20 ks_401 ?_
  obtain ⟨h18, e19, H⟩ := lt_el H
  refine J_nI (401) dX10_init_23 (by decide) (by decide) (by decide) e19 ?_
  obtain ⟨g20, H⟩ := gd H
  obtain ⟨h21, e22, H⟩ := lt_el H
  refine J_pF 9 4 dX10_init_25 g20 flX10_21 rfl rfl rfl rfl e22 ?_
  have c23 := ekP e22
  have c24 := elP e22
  refine J_aload_n 0 dX10_init_28 rfl rfl ?_
  obtain ⟨h25, e26, H⟩ := lt_el H
  refine J_nO 8 9 dX10_init_29 rfl rfl clX10_25 in8 ini8 e26 ?_
  refine J_dup dX10_init_32 rfl ?_
  obtain ⟨h28, e27, H⟩ := bd H
  refine J_cIN (as := []) YX9_init "LeadRoom" 0 dX10_init_33 moX9_init miX9_init mlX10_27 rfl rfl (kn99 (ekN e26) rfl) (okX9_init (d := d) e27) rfl rfl [.ref (sz h21 + 1), .ref v0] rfl rfl ?_
  obtain ⟨g29, H⟩ := gd H
  obtain ⟨h30, e31, H⟩ := lt_el H
  refine J_pF 9 5 dX10_init_36 g29 flX10_28 rfl rfl rfl rfl e31 ?_
  have c32 := ekP e31
  have c33 := elP e31
  refine J_aload_n 0 dX10_init_39 rfl rfl ?_
  refine J_aload_n 1 dX10_init_40 rfl rfl ?_
  obtain ⟨h34, e35, H⟩ := lt_el H
  refine J_pF 9 0 dX10_init_41 (kq c32 g29) flX10_32 rfl rfl rfl rfl e35 ?_
  have c36 := (ekP e35).trans c32
  have c37 := (elP e35).trans c33
  cases H
  exact J_ret dX10_init_44 rfl
theorem okX10_init {d : Nat} {h : Hp} {v0 : Nat} {v1 : Nat} {h9 : Hp} (H : MX10_init h v0 v1 = some h9) : CT (d + 1) YX10_init [.ref v0, .ref v1] h oV h9 := CT_of (by decide +kernel) (Nat.le_of_ble_eq_true rfl) (eX10_init H)
noncomputable def MX11_init (h : Hp) (v0 : Nat) : Option Hp :=
  gn (β := Hp) (v0 = 0) <|
  lt (α := Hp) (β := Option Hp) (alc h 21 (400)) fun (h2 : Hp) =>
  gg (β := Hp) (kd h2 v0 = 10) <|
  lt (α := Hp) (β := Option Hp) (sP h2 v0 0 (sz h + 1)) fun (h5 : Hp) =>
  lt (α := Hp) (β := Option Hp) (sI h5 v0 1 (0 : Int32)) fun (h9 : Hp) =>
  lt (α := Hp) (β := Option Hp) (sI h9 v0 2 (-1 : Int32)) fun (h14 : Hp) =>
  lt (α := Hp) (β := Option Hp) (alc h14 9 6) fun (h19 : Hp) =>
  gg (β := Hp) (kd h19 v0 = 10) <|
  Option.bind (α := Hp) (β := Hp) (MX10_init h19 (sz h14 + 1) (gP h19 v0 0)) fun (h23 : Hp) =>
  gg (β := Hp) (kd h23 v0 = 10) <|
  lt (α := Hp) (β := Option Hp) (sP h23 v0 3 (sz h14 + 1)) fun (h25 : Hp) =>
  lt (α := Hp) (β := Option Hp) (alc h25 4 12) fun (h29 : Hp) =>
  Option.bind (α := Hp) (β := Hp) (MX5_init h29 (sz h25 + 1)) fun (h32 : Hp) =>
  gg (β := Hp) (kd h32 v0 = 10) <|
  lt (α := Hp) (β := Option Hp) (sP h32 v0 4 (sz h25 + 1)) fun (h34 : Hp) =>
  lt (α := Hp) (β := Option Hp) (alc h34 6 20) fun (h38 : Hp) =>
  Option.bind (α := Hp) (β := Hp) (MX7_init h38 (sz h34 + 1)) fun (h41 : Hp) =>
  gg (β := Hp) (kd h41 v0 = 10) <|
  lt (α := Hp) (β := Option Hp) (sP h41 v0 5 (sz h34 + 1)) fun (h43 : Hp) =>
  lt (α := Hp) (β := Option Hp) (alc h43 1 12) fun (h47 : Hp) =>
  Option.bind (α := Hp) (β := Hp) (MX2_init h47 (sz h43 + 1)) fun (h50 : Hp) =>
  gg (β := Hp) (kd h50 v0 = 10) <|
  lt (α := Hp) (β := Option Hp) (sP h50 v0 6 (sz h43 + 1)) fun (h52 : Hp) =>
  lt (α := Hp) (β := Option Hp) (alc h52 2 11) fun (h56 : Hp) =>
  Option.bind (α := Hp) (β := Hp) (MX3_init h56 (sz h52 + 1)) fun (h59 : Hp) =>
  gg (β := Hp) (kd h59 v0 = 10) <|
  lt (α := Hp) (β := Option Hp) (sP h59 v0 7 (sz h52 + 1)) fun (h61 : Hp) =>
  lt (α := Hp) (β := Option Hp) (alc h61 5 5) fun (h65 : Hp) =>
  Option.bind (α := Hp) (β := Hp) (MX6_init h65 (sz h61 + 1)) fun (h68 : Hp) =>
  gg (β := Hp) (kd h68 v0 = 10) <|
  lt (α := Hp) (β := Option Hp) (sP h68 v0 8 (sz h61 + 1)) fun (h70 : Hp) =>
  lt (α := Hp) (β := Option Hp) (sP h70 v0 9 0) fun (h74 : Hp) =>
  lt (α := Hp) (β := Option Hp) (sP h74 v0 10 0) fun (h78 : Hp) =>
  lt (α := Hp) (β := Option Hp) (sP h78 v0 11 0) fun (h82 : Hp) =>
  some h82
set_option maxRecDepth 100000 in
set_option maxHeartbeats 8000000 in
theorem eX11_init {d : Nat} {h : Hp} {v0 : Nat} {h9 : Hp} (H : MX11_init h v0 = some h9) : J (d + 2) YX11_init 0 [.ref v0] [] h oV h9 := by
  unfold MX11_init at H
  refine J_aload_n 0 dX11_init_0 rfl rfl ?_
  obtain ⟨g1, H⟩ := gdn H
  refine J_objI dX11_init_1 mlX11_1 ob_i ob_c g1 (Nat.le_of_ble_eq_true rfl) ?_
  refine J_aload_n 0 dX11_init_4 rfl rfl ?_
  refine J_sipush (400 : Int32) dX11_init_5 ks_400 ?_
  obtain ⟨h2, e3, H⟩ := lt_el H
  refine J_nB (400) dX11_init_8 (by decide) (by decide) (by decide) e3 ?_
  obtain ⟨g4, H⟩ := gd H
  obtain ⟨h5, e6, H⟩ := lt_el H
  refine J_pF 10 0 dX11_init_10 g4 flX11_9 rfl rfl rfl rfl e6 ?_
  have c7 := ekP e6
  have c8 := elP e6
  refine J_aload_n 0 dX11_init_13 rfl rfl ?_
  refine J_iconst (0 : Int32) dX11_init_14 kc_0 ?_
  obtain ⟨h9, e10, H⟩ := lt_el H
  refine J_pI 10 1 dX11_init_15 (kq c7 g4) flX11_13 rfl rfl e10 ?_
  have c11 := (ekI e10).trans c7
  have c12 := (elI e10).trans c8
  have c13 := epI e10
  refine J_aload_n 0 dX11_init_18 rfl rfl ?_
  refine J_iconst (-1 : Int32) dX11_init_19 kc_m1 ?_
  obtain ⟨h14, e15, H⟩ := lt_el H
  refine J_pI 10 2 dX11_init_20 (kq c11 g4) flX11_17 rfl rfl e15 ?_
  have c16 := (ekI e15).trans c11
  have c17 := (elI e15).trans c12
  have c18 := (epI e15).trans c13
  refine J_aload_n 0 dX11_init_23 rfl rfl ?_
  obtain ⟨h19, e20, H⟩ := lt_el H
  refine J_nO 9 6 dX11_init_24 rfl rfl clX11_20 in9 ini9 e20 ?_
  refine J_dup dX11_init_27 rfl ?_
  refine J_aload_n 0 dX11_init_28 rfl rfl ?_
  obtain ⟨g21, H⟩ := gd H
  refine J_gP 10 0 dX11_init_29 g21 flX11_9 rfl rfl ?_
  obtain ⟨h23, e22, H⟩ := bd H
  refine J_cI (as := [.ref (gP h19 v0 0)]) YX10_init 1 dX11_init_32 moX10_init miX10_init mlX11_22 rfl rfl (kn99 (ekN e20) rfl) (okX10_init (d := d) e22) rfl rfl [.ref (sz h14 + 1), .ref v0] rfl rfl ?_
  obtain ⟨g24, H⟩ := gd H
  obtain ⟨h25, e26, H⟩ := lt_el H
  refine J_pF 10 3 dX11_init_35 g24 flX11_25 rfl rfl rfl rfl e26 ?_
  have c27 := ekP e26
  have c28 := elP e26
  refine J_aload_n 0 dX11_init_38 rfl rfl ?_
  obtain ⟨h29, e30, H⟩ := lt_el H
  refine J_nO 4 12 dX11_init_39 rfl rfl clX11_29 in4 ini4 e30 ?_
  refine J_dup dX11_init_42 rfl ?_
  obtain ⟨h32, e31, H⟩ := bd H
  refine J_cIN (as := []) YX5_init "LeadRoom" 0 dX11_init_43 moX5_init miX5_init mlX11_31 rfl rfl (kn99 (ekN e30) rfl) (okX5_init (d := d + 1) e31) rfl rfl [.ref (sz h25 + 1), .ref v0] rfl rfl ?_
  obtain ⟨g33, H⟩ := gd H
  obtain ⟨h34, e35, H⟩ := lt_el H
  refine J_pF 10 4 dX11_init_46 g33 flX11_32 rfl rfl rfl rfl e35 ?_
  have c36 := ekP e35
  have c37 := elP e35
  refine J_aload_n 0 dX11_init_49 rfl rfl ?_
  obtain ⟨h38, e39, H⟩ := lt_el H
  refine J_nO 6 20 dX11_init_50 rfl rfl clX11_36 in6 ini6 e39 ?_
  refine J_dup dX11_init_53 rfl ?_
  obtain ⟨h41, e40, H⟩ := bd H
  refine J_cI (as := []) YX7_init 0 dX11_init_54 moX7_init miX7_init mlX11_38 rfl rfl (kn99 (ekN e39) rfl) (okX7_init (d := d) e40) rfl rfl [.ref (sz h34 + 1), .ref v0] rfl rfl ?_
  obtain ⟨g42, H⟩ := gd H
  obtain ⟨h43, e44, H⟩ := lt_el H
  refine J_pF 10 5 dX11_init_57 g42 flX11_39 rfl rfl rfl rfl e44 ?_
  have c45 := ekP e44
  have c46 := elP e44
  refine J_aload_n 0 dX11_init_60 rfl rfl ?_
  obtain ⟨h47, e48, H⟩ := lt_el H
  refine J_nO 1 12 dX11_init_61 rfl rfl clX11_43 in1 ini1 e48 ?_
  refine J_dup dX11_init_64 rfl ?_
  obtain ⟨h50, e49, H⟩ := bd H
  refine J_cI (as := []) YX2_init 0 dX11_init_65 moX2_init miX2_init mlX11_45 rfl rfl (kn99 (ekN e48) rfl) (okX2_init (d := d + 1) e49) rfl rfl [.ref (sz h43 + 1), .ref v0] rfl rfl ?_
  obtain ⟨g51, H⟩ := gd H
  obtain ⟨h52, e53, H⟩ := lt_el H
  refine J_pF 10 6 dX11_init_68 g51 flX11_46 rfl rfl rfl rfl e53 ?_
  have c54 := ekP e53
  have c55 := elP e53
  refine J_aload_n 0 dX11_init_71 rfl rfl ?_
  obtain ⟨h56, e57, H⟩ := lt_el H
  refine J_nO 2 11 dX11_init_72 rfl rfl clX11_50 in2 ini2 e57 ?_
  refine J_dup dX11_init_75 rfl ?_
  obtain ⟨h59, e58, H⟩ := bd H
  refine J_cIN (as := []) YX3_init "LeadRoom" 0 dX11_init_76 moX3_init miX3_init mlX11_52 rfl rfl (kn99 (ekN e57) rfl) (okX3_init (d := d + 1) e58) rfl rfl [.ref (sz h52 + 1), .ref v0] rfl rfl ?_
  obtain ⟨g60, H⟩ := gd H
  obtain ⟨h61, e62, H⟩ := lt_el H
  refine J_pF 10 7 dX11_init_79 g60 flX11_53 rfl rfl rfl rfl e62 ?_
  have c63 := ekP e62
  have c64 := elP e62
  refine J_aload_n 0 dX11_init_82 rfl rfl ?_
  obtain ⟨h65, e66, H⟩ := lt_el H
  refine J_nO 5 5 dX11_init_83 rfl rfl clX11_57 in5 ini5 e66 ?_
  refine J_dup dX11_init_86 rfl ?_
  obtain ⟨h68, e67, H⟩ := bd H
  refine J_cIN (as := []) YX6_init "LeadRoom" 0 dX11_init_87 moX6_init miX6_init mlX11_59 rfl rfl (kn99 (ekN e66) rfl) (okX6_init (d := d + 1) e67) rfl rfl [.ref (sz h61 + 1), .ref v0] rfl rfl ?_
  obtain ⟨g69, H⟩ := gd H
  obtain ⟨h70, e71, H⟩ := lt_el H
  refine J_pF 10 8 dX11_init_90 g69 flX11_60 rfl rfl rfl rfl e71 ?_
  have c72 := ekP e71
  have c73 := elP e71
  refine J_aload_n 0 dX11_init_93 rfl rfl ?_
  refine J_null dX11_init_94 ?_
  obtain ⟨h74, e75, H⟩ := lt_el H
  refine J_pP 10 9 dX11_init_95 (kq c72 g69) flX11_64 rfl rfl e75 ?_
  have c76 := (ekP e75).trans c72
  have c77 := (elP e75).trans c73
  refine J_aload_n 0 dX11_init_98 rfl rfl ?_
  refine J_null dX11_init_99 ?_
  obtain ⟨h78, e79, H⟩ := lt_el H
  refine J_pP 10 10 dX11_init_100 (kq c76 g69) flX11_67 rfl rfl e79 ?_
  have c80 := (ekP e79).trans c76
  have c81 := (elP e79).trans c77
  refine J_aload_n 0 dX11_init_103 rfl rfl ?_
  refine J_null dX11_init_104 ?_
  obtain ⟨h82, e83, H⟩ := lt_el H
  refine J_pP 10 11 dX11_init_105 (kq c80 g69) flX11_70 rfl rfl e83 ?_
  have c84 := (ekP e83).trans c80
  have c85 := (elP e83).trans c81
  cases H
  exact J_ret dX11_init_108 rfl
theorem okX11_init {d : Nat} {h : Hp} {v0 : Nat} {h9 : Hp} (H : MX11_init h v0 = some h9) : CT (d + 2) YX11_init [.ref v0] h oV h9 := CT_of (by decide +kernel) (Nat.le_of_ble_eq_true rfl) (eX11_init H)
noncomputable def MX4_addJob (h : Hp) (v0 : Nat) (v1 : Int32) (v2 : Int32) (v3 : Int32) (v4 : Int32) : Option Hp :=
  gg (β := Hp) (kd h v0 = 3) <|
  if (gI h v0 3) < (30 : Int32) then
    gg (β := Hp) (kd h (gP h v0 7) = 20) <|
    gg (β := Hp) (inB (gI h v0 3) (ln h (gP h v0 7)) = true) <|
    lt (α := Hp) (β := Option Hp) (sI h (gP h v0 7) (gI h v0 3).toNatClampNeg v1) fun (h5 : Hp) =>
    gg (β := Hp) (kd h (gP h v0 8) = 20) <|
    gg (β := Hp) (inB (gI h5 v0 3) (ln h (gP h v0 8)) = true) <|
    lt (α := Hp) (β := Option Hp) (sI h5 (gP h v0 8) (gI h5 v0 3).toNatClampNeg v2) fun (h12 : Hp) =>
    gg (β := Hp) (kd h (gP h v0 9) = 20) <|
    gg (β := Hp) (inB (gI h12 v0 3) (ln h (gP h v0 9)) = true) <|
    lt (α := Hp) (β := Option Hp) (sI h12 (gP h v0 9) (gI h12 v0 3).toNatClampNeg v3) fun (h19 : Hp) =>
    gg (β := Hp) (kd h (gP h v0 10) = 22) <|
    gg (β := Hp) (inB (gI h19 v0 3) (ln h (gP h v0 10)) = true) <|
    lt (α := Hp) (β := Option Hp) (sI h19 (gP h v0 10) (gI h19 v0 3).toNatClampNeg (vp_nar .boolean v4)) fun (h26 : Hp) =>
    lt (α := Hp) (β := Option Hp) (sI h26 v0 3 ((gI h26 v0 3) + (1 : Int32))) fun (h31 : Hp) =>
    some h31
  else
    some h
set_option maxRecDepth 100000 in
set_option maxHeartbeats 8000000 in
theorem eX4_addJob {d : Nat} {h : Hp} {v0 : Nat} {v1 : Int32} {v2 : Int32} {v3 : Int32} {v4 : Int32} {h9 : Hp} (H : MX4_addJob h v0 v1 v2 v3 v4 = some h9) : J (d) YX4_addJob 0 [.ref v0, .int v1, .int v2, .int v3, .int v4] [] h oV h9 := by
  unfold MX4_addJob at H
  refine J_aload_n 0 dX4_addJob_0 rfl rfl ?_
  obtain ⟨g1, H⟩ := gd H
  refine J_getI 3 3 dX4_addJob_1 g1 flX4_23 rfl ?_
  refine J_bipush (30 : Int32) dX4_addJob_4 kb_30 ?_
  refine J_icmp_lt 10 dX4_addJob_6 rfl (fun q2 => ?_) (fun q2 => ?_)
  · replace H := br1 q2 H
    refine J_aload_n 0 dX4_addJob_10 rfl rfl ?_
    refine J_gP 3 7 dX4_addJob_11 g1 flX4_35 rfl rfl ?_
    refine J_aload_n 0 dX4_addJob_14 rfl rfl ?_
    refine J_getI 3 3 dX4_addJob_15 g1 flX4_23 rfl ?_
    refine J_iload_n 1 dX4_addJob_18 rfl rfl ?_
    obtain ⟨g3, H⟩ := gd H
    obtain ⟨g4, H⟩ := gd H
    obtain ⟨h5, e6, H⟩ := lt_el H
    refine J_sI dX4_addJob_19 g3 (inB_ok g4) e6 ?_
    have c7 := ekI e6
    have c8 := elI e6
    have c9 := epI e6
    refine J_aload_n 0 dX4_addJob_20 rfl rfl ?_
    refine J_gP 3 8 dX4_addJob_21 (kq c7 g1) flX4_38 rfl (congrFun (congrFun c9 v0) 8) ?_
    refine J_aload_n 0 dX4_addJob_24 rfl rfl ?_
    refine J_getI 3 3 dX4_addJob_25 (kq c7 g1) flX4_23 rfl ?_
    refine J_iload_n 2 dX4_addJob_28 rfl rfl ?_
    obtain ⟨g10, H⟩ := gd H
    obtain ⟨g11, H⟩ := gd H
    obtain ⟨h12, e13, H⟩ := lt_el H
    refine J_sI dX4_addJob_29 (kq c7 g10) (lq c8 g11) e13 ?_
    have c14 := (ekI e13).trans c7
    have c15 := (elI e13).trans c8
    have c16 := (epI e13).trans c9
    refine J_aload_n 0 dX4_addJob_30 rfl rfl ?_
    refine J_gP 3 9 dX4_addJob_31 (kq c14 g1) flX4_41 rfl (congrFun (congrFun c16 v0) 9) ?_
    refine J_aload_n 0 dX4_addJob_34 rfl rfl ?_
    refine J_getI 3 3 dX4_addJob_35 (kq c14 g1) flX4_23 rfl ?_
    refine J_iload_n 3 dX4_addJob_38 rfl rfl ?_
    obtain ⟨g17, H⟩ := gd H
    obtain ⟨g18, H⟩ := gd H
    obtain ⟨h19, e20, H⟩ := lt_el H
    refine J_sI dX4_addJob_39 (kq c14 g17) (lq c15 g18) e20 ?_
    have c21 := (ekI e20).trans c14
    have c22 := (elI e20).trans c15
    have c23 := (epI e20).trans c16
    refine J_aload_n 0 dX4_addJob_40 rfl rfl ?_
    refine J_gP 3 10 dX4_addJob_41 (kq c21 g1) flX4_44 rfl (congrFun (congrFun c23 v0) 10) ?_
    refine J_aload_n 0 dX4_addJob_44 rfl rfl ?_
    refine J_getI 3 3 dX4_addJob_45 (kq c21 g1) flX4_23 rfl ?_
    refine J_iload dX4_addJob_48 rfl ?_
    obtain ⟨g24, H⟩ := gd H
    obtain ⟨g25, H⟩ := gd H
    obtain ⟨h26, e27, H⟩ := lt_el H
    refine J_sZ dX4_addJob_50 (kq c21 g24) (lq c22 g25) e27 ?_
    have c28 := (ekI e27).trans c21
    have c29 := (elI e27).trans c22
    have c30 := (epI e27).trans c23
    refine J_aload_n 0 dX4_addJob_51 rfl rfl ?_
    refine J_dup dX4_addJob_52 rfl ?_
    refine J_getI 3 3 dX4_addJob_53 (kq c28 g1) flX4_23 rfl ?_
    refine J_iconst (1 : Int32) dX4_addJob_56 kc_1 ?_
    refine J_iadd dX4_addJob_57 ?_
    obtain ⟨h31, e32, H⟩ := lt_el H
    refine J_pI 3 3 dX4_addJob_58 (kq c28 g1) flX4_23 rfl rfl e32 ?_
    have c33 := (ekI e32).trans c28
    have c34 := (elI e32).trans c29
    have c35 := (epI e32).trans c30
    cases H
    exact J_ret dX4_addJob_61 rfl
  · replace H := br0 q2 H
    cases H
    exact J_ret dX4_addJob_9 rfl
theorem okX4_addJob {d : Nat} {h : Hp} {v0 : Nat} {v1 : Int32} {v2 : Int32} {v3 : Int32} {v4 : Int32} {h9 : Hp} (H : MX4_addJob h v0 v1 v2 v3 v4 = some h9) : CT (d) YX4_addJob [.ref v0, .int v1, .int v2, .int v3, .int v4] h oV h9 := CT_of (by decide +kernel) (Nat.le_of_ble_eq_true rfl) (eX4_addJob H)
noncomputable def MX5_hasLine (h : Hp) (v0 : Nat) (v1 : Int32) : Option Int32 :=
  if v1 < 0 then
    some (0 : Int32)
  else
    gg (β := Int32) (kd h v0 = 4) <|
    if (gI h v0 9) ≤ v1 then
      some (0 : Int32)
    else
      some (1 : Int32)
set_option maxRecDepth 100000 in
set_option maxHeartbeats 8000000 in
theorem eX5_hasLine {d : Nat} {h : Hp} {v0 : Nat} {v1 : Int32} {r : Int32} (H : MX5_hasLine h v0 v1 = some r) : J (d) YX5_hasLine 0 [.ref v0, .int v1] [] h (oI r) h := by
  unfold MX5_hasLine at H
  refine J_iload_n 1 dX5_hasLine_0 rfl rfl ?_
  refine J_if_lt 16 dX5_hasLine_1 rfl (fun q1 => ?_) (fun q1 => ?_)
  · replace H := br1 q1 H
    refine J_iconst (0 : Int32) dX5_hasLine_16 kc_0 ?_
    cases H
    exact J_rZ dX5_hasLine_17 rfl rfl
  · replace H := br0 q1 H
    refine J_iload_n 1 dX5_hasLine_4 rfl rfl ?_
    refine J_aload_n 0 dX5_hasLine_5 rfl rfl ?_
    obtain ⟨g2, H⟩ := gd H
    refine J_getI 4 9 dX5_hasLine_6 g2 flX5_42 rfl ?_
    refine J_icmp_ge 16 dX5_hasLine_9 rfl (fun q3 => ?_) (fun q3 => ?_)
    · replace H := br1 q3 H
      refine J_iconst (0 : Int32) dX5_hasLine_16 kc_0 ?_
      cases H
      exact J_rZ dX5_hasLine_17 rfl rfl
    · replace H := br0 q3 H
      refine J_iconst (1 : Int32) dX5_hasLine_12 kc_1 ?_
      refine J_goto 17 dX5_hasLine_13 rfl ?_
      cases H
      exact J_rZ dX5_hasLine_17 rfl rfl
theorem okX5_hasLine {d : Nat} {h : Hp} {v0 : Nat} {v1 : Int32} {r : Int32} (H : MX5_hasLine h v0 v1 = some r) : CT (d) YX5_hasLine [.ref v0, .int v1] h (oI r) h := CT_of (by decide +kernel) (Nat.le_of_ble_eq_true rfl) (eX5_hasLine H)
noncomputable def MX7_findMachine (h : Hp) (v0 : Nat) (v1 : Int32) : Option Nat :=
  if v1 < 0 then
    some 0
  else
    gg (β := Nat) (kd h v0 = 6) <|
    if v1 < (gI h v0 9) then
      gg (β := Nat) (kd h (gP h v0 8) = 27) <|
      gg (β := Nat) (inB v1 (ln h (gP h v0 8)) = true) <|
      some (gP h (gP h v0 8) v1.toNatClampNeg)
    else
      some 0
set_option maxRecDepth 100000 in
set_option maxHeartbeats 8000000 in
theorem eX7_findMachine {d : Nat} {h : Hp} {v0 : Nat} {v1 : Int32} {r : Nat} (H : MX7_findMachine h v0 v1 = some r) : J (d) YX7_findMachine 0 [.ref v0, .int v1] [] h (oA r) h := by
  unfold MX7_findMachine at H
  refine J_iload_n 1 dX7_findMachine_0 rfl rfl ?_
  refine J_if_lt 12 dX7_findMachine_1 rfl (fun q1 => ?_) (fun q1 => ?_)
  · replace H := br1 q1 H
    refine J_null dX7_findMachine_12 ?_
    refine J_goto 22 dX7_findMachine_13 rfl ?_
    cases H
    exact J_aret dX7_findMachine_22 rfl (Or.inl ⟨_, rfl⟩)
  · replace H := br0 q1 H
    refine J_iload_n 1 dX7_findMachine_4 rfl rfl ?_
    refine J_aload_n 0 dX7_findMachine_5 rfl rfl ?_
    obtain ⟨g2, H⟩ := gd H
    refine J_getI 6 9 dX7_findMachine_6 g2 flX7_51 rfl ?_
    refine J_icmp_lt 16 dX7_findMachine_9 rfl (fun q3 => ?_) (fun q3 => ?_)
    · replace H := br1 q3 H
      refine J_aload_n 0 dX7_findMachine_16 rfl rfl ?_
      refine J_gP 6 8 dX7_findMachine_17 g2 flX7_47 rfl rfl ?_
      refine J_iload_n 1 dX7_findMachine_20 rfl rfl ?_
      obtain ⟨g4, H⟩ := gd H
      obtain ⟨g5, H⟩ := gd H
      refine J_lP 27 dX7_findMachine_21 g4 rfl (inB_ok g5) rfl ?_
      cases H
      exact J_aret dX7_findMachine_22 rfl (Or.inl ⟨_, rfl⟩)
    · replace H := br0 q3 H
      refine J_null dX7_findMachine_12 ?_
      refine J_goto 22 dX7_findMachine_13 rfl ?_
      cases H
      exact J_aret dX7_findMachine_22 rfl (Or.inl ⟨_, rfl⟩)
theorem okX7_findMachine {d : Nat} {h : Hp} {v0 : Nat} {v1 : Int32} {r : Nat} (H : MX7_findMachine h v0 v1 = some r) : CT (d) YX7_findMachine [.ref v0, .int v1] h (oA r) h := CT_of (by decide +kernel) (Nat.le_of_ble_eq_true rfl) (eX7_findMachine H)
noncomputable def MX7_findPart (h : Hp) (v0 : Nat) (v1 : Int32) : Option Nat :=
  if v1 < 0 then
    some 0
  else
    gg (β := Nat) (kd h v0 = 6) <|
    if ((5 : Int32) * (gI h v0 7)) ≤ v1 then
      some 0
    else
      gg (β := Nat) (kd h (gP h v0 5) = 26) <|
      if v1 < (nI (ln h (gP h v0 5))) then
        gg (β := Nat) (kd h (gP h v0 6) = 20) <|
        gg (β := Nat) (inB (v1 / (5 : Int32)) (ln h (gP h v0 6)) = true) <|
        if (gI h (gP h v0 6) (v1 / (5 : Int32)).toNatClampNeg) ≤ (v1 - v1 / (5 : Int32) * (5 : Int32)) then
          some 0
        else
          gg (β := Nat) (inB v1 (ln h (gP h v0 5)) = true) <|
          some (gP h (gP h v0 5) v1.toNatClampNeg)
      else
        some 0
set_option maxRecDepth 100000 in
set_option maxHeartbeats 8000000 in
theorem eX7_findPart {d : Nat} {h : Hp} {v0 : Nat} {v1 : Int32} {r : Nat} (H : MX7_findPart h v0 v1 = some r) : J (d) YX7_findPart 0 [.ref v0, .int v1] [] h (oA r) h := by
  unfold MX7_findPart at H
  refine J_iload_n 1 dX7_findPart_0 rfl rfl ?_
  refine J_if_lt 23 dX7_findPart_1 rfl (fun q1 => ?_) (fun q1 => ?_)
  · replace H := br1 q1 H
    refine J_null dX7_findPart_23 ?_
    cases H
    exact J_aret dX7_findPart_24 rfl (Or.inl ⟨_, rfl⟩)
  · replace H := br0 q1 H
    refine J_iload_n 1 dX7_findPart_4 rfl rfl ?_
    refine J_iconst (5 : Int32) dX7_findPart_5 kc_5 ?_
    refine J_aload_n 0 dX7_findPart_6 rfl rfl ?_
    obtain ⟨g2, H⟩ := gd H
    refine J_getI 6 7 dX7_findPart_7 g2 flX7_42 rfl ?_
    refine J_imul dX7_findPart_10 ?_
    refine J_icmp_ge 23 dX7_findPart_11 rfl (fun q3 => ?_) (fun q3 => ?_)
    · replace H := br1 q3 H
      refine J_null dX7_findPart_23 ?_
      cases H
      exact J_aret dX7_findPart_24 rfl (Or.inl ⟨_, rfl⟩)
    · replace H := br0 q3 H
      refine J_iload_n 1 dX7_findPart_14 rfl rfl ?_
      refine J_aload_n 0 dX7_findPart_15 rfl rfl ?_
      refine J_gP 6 5 dX7_findPart_16 g2 flX7_35 rfl rfl ?_
      obtain ⟨g4, H⟩ := gd H
      refine J_len 26 dX7_findPart_19 g4 rfl ?_
      refine J_icmp_lt 25 dX7_findPart_20 rfl (fun q5 => ?_) (fun q5 => ?_)
      · replace H := br1 q5 H
        refine J_iload_n 1 dX7_findPart_25 rfl rfl ?_
        refine J_iconst (5 : Int32) dX7_findPart_26 kc_5 ?_
        refine J_irem dX7_findPart_27 (by decide) ?_
        refine J_aload_n 0 dX7_findPart_28 rfl rfl ?_
        refine J_gP 6 6 dX7_findPart_29 g2 flX7_39 rfl rfl ?_
        refine J_iload_n 1 dX7_findPart_32 rfl rfl ?_
        refine J_iconst (5 : Int32) dX7_findPart_33 kc_5 ?_
        refine J_idiv dX7_findPart_34 (by decide) ?_
        obtain ⟨g6, H⟩ := gd H
        obtain ⟨g7, H⟩ := gd H
        refine J_iald dX7_findPart_35 g6 (inB_ok g7) ?_
        refine J_icmp_ge 48 dX7_findPart_36 rfl (fun q8 => ?_) (fun q8 => ?_)
        · replace H := br1 q8 H
          refine J_null dX7_findPart_48 ?_
          cases H
          exact J_aret dX7_findPart_49 rfl (Or.inl ⟨_, rfl⟩)
        · replace H := br0 q8 H
          refine J_aload_n 0 dX7_findPart_39 rfl rfl ?_
          refine J_gP 6 5 dX7_findPart_40 g2 flX7_35 rfl rfl ?_
          refine J_iload_n 1 dX7_findPart_43 rfl rfl ?_
          obtain ⟨g9, H⟩ := gd H
          refine J_lP 26 dX7_findPart_44 g4 rfl (inB_ok g9) rfl ?_
          refine J_goto 49 dX7_findPart_45 rfl ?_
          cases H
          exact J_aret dX7_findPart_49 rfl (Or.inl ⟨_, rfl⟩)
      · replace H := br0 q5 H
        refine J_null dX7_findPart_23 ?_
        cases H
        exact J_aret dX7_findPart_24 rfl (Or.inl ⟨_, rfl⟩)
theorem okX7_findPart {d : Nat} {h : Hp} {v0 : Nat} {v1 : Int32} {r : Nat} (H : MX7_findPart h v0 v1 = some r) : CT (d) YX7_findPart [.ref v0, .int v1] h (oA r) h := CT_of (by decide +kernel) (Nat.le_of_ble_eq_true rfl) (eX7_findPart H)
noncomputable def MX11_again (h : Hp) (v0 : Nat) (v1 : Int32) (v2 : Int32) (v3 : Int32) : Option ((Int32 ⊕ Nat) × Hp) :=
  gg (β := ((Int32 ⊕ Nat) × Hp)) (kd h v0 = 10) <|
  gg (β := ((Int32 ⊕ Nat) × Hp)) (kd h (gP h v0 5) = 6) <|
  Option.bind (α := Nat) (β := ((Int32 ⊕ Nat) × Hp)) (MX7_findPart h (gP h v0 5) v1) fun (t4 : Nat) =>
  Option.bind (α := Nat) (β := ((Int32 ⊕ Nat) × Hp)) (MX7_findMachine h (gP h v0 5) v3) fun (t6 : Nat) =>
  if t4 = 0 then
    some (.inr 1, bmp h 1 6)
  else
    if t6 = 0 then
      some (.inr 1, bmp h 1 6)
    else
      gg (β := ((Int32 ⊕ Nat) × Hp)) (kd h t4 = 4) <|
      if (gI h t4 11) = 0 then
        some (.inr 5, bmp h 1 6)
      else
        Option.bind (α := Int32) (β := ((Int32 ⊕ Nat) × Hp)) (MX5_hasLine h t4 v2) fun (t12 : Int32) =>
        if t12 = 0 then
          some (.inr 1, bmp h 1 6)
        else
          gg (β := ((Int32 ⊕ Nat) × Hp)) (kd h t6 = 3) <|
          if (gI h t6 3) < (30 : Int32) then
            gg (β := ((Int32 ⊕ Nat) × Hp)) (kd h (gP h t4 4) = 20) <|
            gg (β := ((Int32 ⊕ Nat) × Hp)) (inB v2 (ln h (gP h t4 4)) = true) <|
            if (gI h (gP h t4 4) v2.toNatClampNeg) = (-1 : Int32) then
              Option.bind (α := Hp) (β := ((Int32 ⊕ Nat) × Hp)) (MX4_addJob h t6 v1 v2 (v2 + (1 : Int32)) (0 : Int32)) fun (h20 : Hp) =>
              gg (β := ((Int32 ⊕ Nat) × Hp)) (kd h20 t6 = 3) <|
              some (.inl (gI h20 t6 3), h20)
            else
              some (.inl (-1 : Int32), h)
          else
            some (.inr 3, bmp h 1 6)
set_option maxRecDepth 100000 in
set_option maxHeartbeats 8000000 in
theorem eX11_again {d : Nat} {h : Hp} {v0 : Nat} {v1 : Int32} {v2 : Int32} {v3 : Int32} {r : Int32 ⊕ Nat} {h9 : Hp} (H : MX11_again h v0 v1 v2 v3 = some (r, h9)) : J (d + 1) YX11_again 0 [.ref v0, .int v1, .int v2, .int v3, Value.null, Value.null] [] h (oT r) h9 := by
  unfold MX11_again at H
  refine J_aload_n 0 dX11_again_0 rfl rfl ?_
  obtain ⟨g1, H⟩ := gd H
  refine J_gP 10 5 dX11_again_1 g1 flX11_39 rfl rfl ?_
  refine J_iload_n 1 dX11_again_4 rfl rfl ?_
  obtain ⟨g3, H⟩ := gd H
  obtain ⟨t4, e2, H⟩ := bd H
  refine J_cV (as := [.int v1]) 6 YX7_findPart 1 dX11_again_5 moX7_findPart mvX7_findPart mlX11_139 g3 rfl rfl (okX7_findPart (d := d) e2) rfl rfl [] rfl rfl (st2 := [.ref t4]) rfl ?_
  refine J_astore dX11_again_8 (by decide) (ls' := [.ref v0, .int v1, .int v2, .int v3, .ref t4, Value.null]) rfl ?_
  refine J_aload_n 0 dX11_again_10 rfl rfl ?_
  refine J_gP 10 5 dX11_again_11 g1 flX11_39 rfl rfl ?_
  refine J_iload_n 3 dX11_again_14 rfl rfl ?_
  obtain ⟨t6, e5, H⟩ := bd H
  refine J_cV (as := [.int v3]) 6 YX7_findMachine 1 dX11_again_15 moX7_findMachine mvX7_findMachine mlX11_231 g3 rfl rfl (okX7_findMachine (d := d) e5) rfl rfl [] rfl rfl (st2 := [.ref t6]) rfl ?_
  refine J_astore dX11_again_18 (by decide) (ls' := [.ref v0, .int v1, .int v2, .int v3, .ref t4, .ref t6]) rfl ?_
  refine J_aload dX11_again_20 rfl ?_
  refine J_ifnull 30 dX11_again_22 rfl (fun q7 => ?_) (fun q7 => ?_)
  · replace H := br1 q7 H
    cases H
    exact J_throw 1 ["java/lang/RuntimeException", "java/lang/Exception"] dX11_again_30 dX11_again_33 dX11_again_34 dX11_again_37 th_86 clX11_84 (Nat.le_of_ble_eq_true rfl)
  · replace H := br0 q7 H
    refine J_aload dX11_again_25 rfl ?_
    refine J_ifnonnull 38 dX11_again_27 rfl (fun q8 => ?_) (fun q8 => ?_)
    · replace H := br0 q8 H
      refine J_aload dX11_again_38 rfl ?_
      obtain ⟨g9, H⟩ := gd H
      refine J_getI 4 11 dX11_again_40 g9 flX11_159 rfl ?_
      refine J_if_ne 54 dX11_again_43 rfl (fun q10 => ?_) (fun q10 => ?_)
      · replace H := br0 q10 H
        refine J_aload dX11_again_54 rfl ?_
        refine J_iload_n 2 dX11_again_56 rfl rfl ?_
        obtain ⟨t12, e11, H⟩ := bd H
        refine J_cV (as := [.int v2]) 4 YX5_hasLine 1 dX11_again_57 moX5_hasLine mvX5_hasLine mlX11_208 g9 rfl rfl (okX5_hasLine (d := d) e11) rfl rfl [] rfl rfl (st2 := [.int t12]) rfl ?_
        refine J_if_ne 71 dX11_again_60 rfl (fun q13 => ?_) (fun q13 => ?_)
        · replace H := br0 q13 H
          refine J_aload dX11_again_71 rfl ?_
          obtain ⟨g14, H⟩ := gd H
          refine J_getI 3 3 dX11_again_73 g14 flX11_258 rfl ?_
          refine J_bipush (30 : Int32) dX11_again_76 kb_30 ?_
          refine J_icmp_lt 89 dX11_again_78 rfl (fun q15 => ?_) (fun q15 => ?_)
          · replace H := br1 q15 H
            refine J_aload dX11_again_89 rfl ?_
            refine J_gP 4 4 dX11_again_91 g9 flX11_325 rfl rfl ?_
            refine J_iload_n 2 dX11_again_94 rfl rfl ?_
            obtain ⟨g16, H⟩ := gd H
            obtain ⟨g17, H⟩ := gd H
            refine J_iald dX11_again_95 g16 (inB_ok g17) ?_
            refine J_iconst (-1 : Int32) dX11_again_96 kc_m1 ?_
            refine J_icmp_eq 102 dX11_again_97 rfl (fun q18 => ?_) (fun q18 => ?_)
            · replace H := br1 q18 H
              refine J_aload dX11_again_102 rfl ?_
              refine J_iload_n 1 dX11_again_104 rfl rfl ?_
              refine J_iload_n 2 dX11_again_105 rfl rfl ?_
              refine J_iload_n 2 dX11_again_106 rfl rfl ?_
              refine J_iconst (1 : Int32) dX11_again_107 kc_1 ?_
              refine J_iadd dX11_again_108 ?_
              refine J_iconst (0 : Int32) dX11_again_109 kc_0 ?_
              obtain ⟨h20, e19, H⟩ := bd H
              refine J_cV (as := [.int v1, .int v2, .int (v2 + (1 : Int32)), .int (0 : Int32)]) 3 YX4_addJob 4 dX11_again_110 moX4_addJob mvX4_addJob mlX11_261 g14 rfl rfl (okX4_addJob (d := d) e19) rfl rfl [] rfl rfl (st2 := []) rfl ?_
              refine J_aload dX11_again_113 rfl ?_
              obtain ⟨g21, H⟩ := gd H
              refine J_getI 3 3 dX11_again_115 g21 flX11_258 rfl ?_
              cases H
              exact J_iretI dX11_again_118 rfl
            · replace H := br0 q18 H
              refine J_iconst (-1 : Int32) dX11_again_100 kc_m1 ?_
              cases H
              exact J_iretI dX11_again_101 rfl
          · replace H := br0 q15 H
            cases H
            exact J_throw 3 ["java/lang/RuntimeException", "java/lang/Exception"] dX11_again_81 dX11_again_84 dX11_again_85 dX11_again_88 th_112 clX11_110 (Nat.le_of_ble_eq_true rfl)
        · replace H := br1 q13 H
          cases H
          exact J_throw 1 ["java/lang/RuntimeException", "java/lang/Exception"] dX11_again_63 dX11_again_66 dX11_again_67 dX11_again_70 th_86 clX11_84 (Nat.le_of_ble_eq_true rfl)
      · replace H := br1 q10 H
        cases H
        exact J_throw 5 ["java/lang/RuntimeException", "java/lang/Exception"] dX11_again_46 dX11_again_49 dX11_again_50 dX11_again_53 th_324 clX11_322 (Nat.le_of_ble_eq_true rfl)
    · replace H := br1 q8 H
      cases H
      exact J_throw 1 ["java/lang/RuntimeException", "java/lang/Exception"] dX11_again_30 dX11_again_33 dX11_again_34 dX11_again_37 th_86 clX11_84 (Nat.le_of_ble_eq_true rfl)
theorem okX11_again {d : Nat} {h : Hp} {v0 : Nat} {v1 : Int32} {v2 : Int32} {v3 : Int32} {r : Int32 ⊕ Nat} {h9 : Hp} (H : MX11_again h v0 v1 v2 v3 = some (r, h9)) : CT (d + 1) YX11_again [.ref v0, .int v1, .int v2, .int v3] h (oT r) h9 := CT_of (by decide +kernel) (Nat.le_of_ble_eq_true rfl) (eX11_again H)
noncomputable def MX4_init (h : Hp) (v0 : Nat) : Option Hp :=
  gn (β := Hp) (v0 = 0) <|
  lt (α := Hp) (β := Option Hp) (alc h 20 (27)) fun (h2 : Hp) =>
  gg (β := Hp) (kd h2 v0 = 3) <|
  lt (α := Hp) (β := Option Hp) (sP h2 v0 0 (sz h + 1)) fun (h5 : Hp) =>
  lt (α := Hp) (β := Option Hp) (sI h5 v0 1 (0 : Int32)) fun (h9 : Hp) =>
  lt (α := Hp) (β := Option Hp) (sI h9 v0 2 (0 : Int32)) fun (h14 : Hp) =>
  lt (α := Hp) (β := Option Hp) (sI h14 v0 3 (0 : Int32)) fun (h19 : Hp) =>
  lt (α := Hp) (β := Option Hp) (sI h19 v0 4 (0 : Int32)) fun (h24 : Hp) =>
  lt (α := Hp) (β := Option Hp) (sI h24 v0 5 (0 : Int32)) fun (h29 : Hp) =>
  lt (α := Hp) (β := Option Hp) (sI h29 v0 6 (0 : Int32)) fun (h34 : Hp) =>
  lt (α := Hp) (β := Option Hp) (alc h34 20 (30)) fun (h39 : Hp) =>
  gg (β := Hp) (kd h39 v0 = 3) <|
  lt (α := Hp) (β := Option Hp) (sP h39 v0 7 (sz h34 + 1)) fun (h42 : Hp) =>
  lt (α := Hp) (β := Option Hp) (alc h42 20 (30)) fun (h46 : Hp) =>
  gg (β := Hp) (kd h46 v0 = 3) <|
  lt (α := Hp) (β := Option Hp) (sP h46 v0 8 (sz h42 + 1)) fun (h49 : Hp) =>
  lt (α := Hp) (β := Option Hp) (alc h49 20 (30)) fun (h53 : Hp) =>
  gg (β := Hp) (kd h53 v0 = 3) <|
  lt (α := Hp) (β := Option Hp) (sP h53 v0 9 (sz h49 + 1)) fun (h56 : Hp) =>
  lt (α := Hp) (β := Option Hp) (alc h56 22 (30)) fun (h60 : Hp) =>
  gg (β := Hp) (kd h60 v0 = 3) <|
  lt (α := Hp) (β := Option Hp) (sP h60 v0 10 (sz h56 + 1)) fun (h63 : Hp) =>
  some h63
set_option maxRecDepth 100000 in
set_option maxHeartbeats 8000000 in
theorem eX4_init {d : Nat} {h : Hp} {v0 : Nat} {h9 : Hp} (H : MX4_init h v0 = some h9) : J (d) YX4_init 0 [.ref v0] [] h oV h9 := by
  unfold MX4_init at H
  refine J_aload_n 0 dX4_init_0 rfl rfl ?_
  obtain ⟨g1, H⟩ := gdn H
  refine J_objI dX4_init_1 mlX4_3 ob_i ob_c g1 (Nat.le_of_ble_eq_true rfl) ?_
  refine J_aload_n 0 dX4_init_4 rfl rfl ?_
  refine J_bipush (27 : Int32) dX4_init_5 kb_27 ?_
  obtain ⟨h2, e3, H⟩ := lt_el H
  refine J_nI (27) dX4_init_7 (by decide) (by decide) (by decide) e3 ?_
  obtain ⟨g4, H⟩ := gd H
  obtain ⟨h5, e6, H⟩ := lt_el H
  refine J_pF 3 0 dX4_init_9 g4 flX4_9 rfl rfl rfl rfl e6 ?_
  have c7 := ekP e6
  have c8 := elP e6
  refine J_aload_n 0 dX4_init_12 rfl rfl ?_
  refine J_iconst (0 : Int32) dX4_init_13 kc_0 ?_
  obtain ⟨h9, e10, H⟩ := lt_el H
  refine J_pI 3 1 dX4_init_14 (kq c7 g4) flX4_15 rfl rfl e10 ?_
  have c11 := (ekI e10).trans c7
  have c12 := (elI e10).trans c8
  have c13 := epI e10
  refine J_aload_n 0 dX4_init_17 rfl rfl ?_
  refine J_iconst (0 : Int32) dX4_init_18 kc_0 ?_
  obtain ⟨h14, e15, H⟩ := lt_el H
  refine J_pZ 3 2 dX4_init_19 (kq c11 g4) flX4_19 rfl rfl rfl e15 ?_
  have c16 := (ekI e15).trans c11
  have c17 := (elI e15).trans c12
  have c18 := (epI e15).trans c13
  refine J_aload_n 0 dX4_init_22 rfl rfl ?_
  refine J_iconst (0 : Int32) dX4_init_23 kc_0 ?_
  obtain ⟨h19, e20, H⟩ := lt_el H
  refine J_pI 3 3 dX4_init_24 (kq c16 g4) flX4_23 rfl rfl e20 ?_
  have c21 := (ekI e20).trans c16
  have c22 := (elI e20).trans c17
  have c23 := (epI e20).trans c18
  refine J_aload_n 0 dX4_init_27 rfl rfl ?_
  refine J_iconst (0 : Int32) dX4_init_28 kc_0 ?_
  obtain ⟨h24, e25, H⟩ := lt_el H
  refine J_pI 3 4 dX4_init_29 (kq c21 g4) flX4_26 rfl rfl e25 ?_
  have c26 := (ekI e25).trans c21
  have c27 := (elI e25).trans c22
  have c28 := (epI e25).trans c23
  refine J_aload_n 0 dX4_init_32 rfl rfl ?_
  refine J_iconst (0 : Int32) dX4_init_33 kc_0 ?_
  obtain ⟨h29, e30, H⟩ := lt_el H
  refine J_pI 3 5 dX4_init_34 (kq c26 g4) flX4_29 rfl rfl e30 ?_
  have c31 := (ekI e30).trans c26
  have c32 := (elI e30).trans c27
  have c33 := (epI e30).trans c28
  refine J_aload_n 0 dX4_init_37 rfl rfl ?_
  refine J_iconst (0 : Int32) dX4_init_38 kc_0 ?_
  obtain ⟨h34, e35, H⟩ := lt_el H
  refine J_pI 3 6 dX4_init_39 (kq c31 g4) flX4_32 rfl rfl e35 ?_
  have c36 := (ekI e35).trans c31
  have c37 := (elI e35).trans c32
  have c38 := (epI e35).trans c33
  refine J_aload_n 0 dX4_init_42 rfl rfl ?_
  refine J_bipush (30 : Int32) dX4_init_43 kb_30 ?_
  obtain ⟨h39, e40, H⟩ := lt_el H
  refine J_nI (30) dX4_init_45 (by decide) (by decide) (by decide) e40 ?_
  obtain ⟨g41, H⟩ := gd H
  obtain ⟨h42, e43, H⟩ := lt_el H
  refine J_pF 3 7 dX4_init_47 g41 flX4_35 rfl rfl rfl rfl e43 ?_
  have c44 := ekP e43
  have c45 := elP e43
  refine J_aload_n 0 dX4_init_50 rfl rfl ?_
  refine J_bipush (30 : Int32) dX4_init_51 kb_30 ?_
  obtain ⟨h46, e47, H⟩ := lt_el H
  refine J_nI (30) dX4_init_53 (by decide) (by decide) (by decide) e47 ?_
  obtain ⟨g48, H⟩ := gd H
  obtain ⟨h49, e50, H⟩ := lt_el H
  refine J_pF 3 8 dX4_init_55 g48 flX4_38 rfl rfl rfl rfl e50 ?_
  have c51 := ekP e50
  have c52 := elP e50
  refine J_aload_n 0 dX4_init_58 rfl rfl ?_
  refine J_bipush (30 : Int32) dX4_init_59 kb_30 ?_
  obtain ⟨h53, e54, H⟩ := lt_el H
  refine J_nI (30) dX4_init_61 (by decide) (by decide) (by decide) e54 ?_
  obtain ⟨g55, H⟩ := gd H
  obtain ⟨h56, e57, H⟩ := lt_el H
  refine J_pF 3 9 dX4_init_63 g55 flX4_41 rfl rfl rfl rfl e57 ?_
  have c58 := ekP e57
  have c59 := elP e57
  refine J_aload_n 0 dX4_init_66 rfl rfl ?_
  refine J_bipush (30 : Int32) dX4_init_67 kb_30 ?_
  obtain ⟨h60, e61, H⟩ := lt_el H
  refine J_nZ (30) dX4_init_69 (by decide) (by decide) (by decide) e61 ?_
  obtain ⟨g62, H⟩ := gd H
  obtain ⟨h63, e64, H⟩ := lt_el H
  refine J_pF 3 10 dX4_init_71 g62 flX4_44 rfl rfl rfl rfl e64 ?_
  have c65 := ekP e64
  have c66 := elP e64
  cases H
  exact J_ret dX4_init_74 rfl
theorem okX4_init {d : Nat} {h : Hp} {v0 : Nat} {h9 : Hp} (H : MX4_init h v0 = some h9) : CT (d) YX4_init [.ref v0] h oV h9 := CT_of (by decide +kernel) (Nat.le_of_ble_eq_true rfl) (eX4_init H)
noncomputable def MX7_ownMachine_13 (h : Hp)  : Option (Nat × Hp) :=
  lt (α := Hp) (β := Option (Nat × Hp)) (alc h 3 11) fun (h2 : Hp) =>
  Option.bind (α := Hp) (β := (Nat × Hp)) (MX4_init h2 (sz h + 1)) fun (h5 : Hp) =>
  some ((sz h + 1), h5)
set_option maxRecDepth 100000 in
set_option maxHeartbeats 8000000 in
theorem kX7_ownMachine_13 {d : Nat} {h : Hp}  {r : Nat} {h9 : Hp} (H : MX7_ownMachine_13 h  = some (r, h9)) : J (d + 1) YX7_ownMachine 13 [Value.null, Value.null] [] h (oA r) h9 := by
  unfold MX7_ownMachine_13 at H
  obtain ⟨h2, e3, H⟩ := lt_el H
  refine J_nO 3 11 dX7_ownMachine_13 rfl rfl clX7_45 in3 ini3 e3 ?_
  refine J_dup dX7_ownMachine_16 rfl ?_
  obtain ⟨h5, e4, H⟩ := bd H
  refine J_cIN (as := []) YX4_init "LeadRoom" 0 dX7_ownMachine_17 moX4_init miX4_init mlX7_131 rfl rfl (kn99 (ekN e3) rfl) (okX4_init (d := d) e4) rfl rfl [.ref (sz h + 1)] rfl rfl ?_
  cases H
  exact J_aret dX7_ownMachine_20 rfl (Or.inl ⟨_, rfl⟩)
noncomputable def MX7_ownMachine_43 (h : Hp) (v0 : Nat) (v1 : Int32) : Option (Nat × Hp) :=
  gg (β := (Nat × Hp)) (kd h v0 = 6) <|
  gg (β := (Nat × Hp)) (kd h (gP h v0 8) = 27) <|
  gg (β := (Nat × Hp)) (inB v1 (ln h (gP h v0 8)) = true) <|
  some ((gP h (gP h v0 8) v1.toNatClampNeg), h)
set_option maxRecDepth 100000 in
set_option maxHeartbeats 8000000 in
theorem kX7_ownMachine_43 {d : Nat} {h : Hp} {v0 : Nat} {v1 : Int32} {r : Nat} {h9 : Hp} (H : MX7_ownMachine_43 h v0 v1 = some (r, h9)) : J (d + 1) YX7_ownMachine 43 [.ref v0, .int v1] [] h (oA r) h9 := by
  unfold MX7_ownMachine_43 at H
  refine J_aload_n 0 dX7_ownMachine_43 rfl rfl ?_
  obtain ⟨g11, H⟩ := gd H
  refine J_gP 6 8 dX7_ownMachine_44 g11 flX7_47 rfl rfl ?_
  refine J_iload_n 1 dX7_ownMachine_47 rfl rfl ?_
  obtain ⟨g12, H⟩ := gd H
  obtain ⟨g13, H⟩ := gd H
  refine J_lP 27 dX7_ownMachine_48 g12 rfl (inB_ok g13) rfl ?_
  cases H
  exact J_aret dX7_ownMachine_49 rfl (Or.inl ⟨_, rfl⟩)
noncomputable def MX7_ownMachine (h : Hp) (v0 : Nat) (v1 : Int32) : Option (Nat × Hp) :=
  if v1 < 0 then
    MX7_ownMachine_13 h
  else
    gg (β := (Nat × Hp)) (kd h v0 = 6) <|
    gg (β := (Nat × Hp)) (kd h (gP h v0 8) = 27) <|
    if v1 < (nI (ln h (gP h v0 8))) then
      gg (β := (Nat × Hp)) (inB v1 (ln h (gP h v0 8)) = true) <|
      if (gP h (gP h v0 8) v1.toNatClampNeg) = 0 then
        lt (α := Hp) (β := Option (Nat × Hp)) (alc h 3 11) fun (h14 : Hp) =>
        Option.bind (α := Hp) (β := (Nat × Hp)) (MX4_init h14 (sz h + 1)) fun (h17 : Hp) =>
        gg (β := (Nat × Hp)) (kd h17 (gP h v0 8) = 27) <|
        gg (β := (Nat × Hp)) (kd h17 (sz h + 1) = 3) <|
        gg (β := (Nat × Hp)) (inB v1 (ln h17 (gP h v0 8)) = true) <|
        lt (α := Hp) (β := Option (Nat × Hp)) (sP h17 (gP h v0 8) v1.toNatClampNeg (sz h + 1)) fun (h21 : Hp) =>
        MX7_ownMachine_43 h21 v0 v1
      else
        MX7_ownMachine_43 h v0 v1
    else
      MX7_ownMachine_13 h
set_option maxRecDepth 100000 in
set_option maxHeartbeats 8000000 in
theorem eX7_ownMachine {d : Nat} {h : Hp} {v0 : Nat} {v1 : Int32} {r : Nat} {h9 : Hp} (H : MX7_ownMachine h v0 v1 = some (r, h9)) : J (d + 1) YX7_ownMachine 0 [.ref v0, .int v1] [] h (oA r) h9 := by
  unfold MX7_ownMachine at H
  refine J_iload_n 1 dX7_ownMachine_0 rfl rfl ?_
  refine J_if_lt 13 dX7_ownMachine_1 rfl (fun q1 => ?_) (fun q1 => ?_)
  · replace H := br1 q1 H
    exact J_dr (kX7_ownMachine_13 H ) trivial
  · replace H := br0 q1 H
    refine J_iload_n 1 dX7_ownMachine_4 rfl rfl ?_
    refine J_aload_n 0 dX7_ownMachine_5 rfl rfl ?_
    obtain ⟨g6, H⟩ := gd H
    refine J_gP 6 8 dX7_ownMachine_6 g6 flX7_47 rfl rfl ?_
    obtain ⟨g7, H⟩ := gd H
    refine J_len 27 dX7_ownMachine_9 g7 rfl ?_
    refine J_icmp_lt 21 dX7_ownMachine_10 rfl (fun q8 => ?_) (fun q8 => ?_)
    · replace H := br1 q8 H
      refine J_aload_n 0 dX7_ownMachine_21 rfl rfl ?_
      refine J_gP 6 8 dX7_ownMachine_22 g6 flX7_47 rfl rfl ?_
      refine J_iload_n 1 dX7_ownMachine_25 rfl rfl ?_
      obtain ⟨g9, H⟩ := gd H
      refine J_lP 27 dX7_ownMachine_26 g7 rfl (inB_ok g9) rfl ?_
      refine J_ifnonnull 43 dX7_ownMachine_27 rfl (fun q10 => ?_) (fun q10 => ?_)
      · replace H := br0 q10 H
        exact J_dr (kX7_ownMachine_43 H ) ⟨rfl, ⟨rfl, trivial⟩⟩
      · replace H := br1 q10 H
        refine J_aload_n 0 dX7_ownMachine_30 rfl rfl ?_
        refine J_gP 6 8 dX7_ownMachine_31 g6 flX7_47 rfl rfl ?_
        refine J_iload_n 1 dX7_ownMachine_34 rfl rfl ?_
        obtain ⟨h14, e15, H⟩ := lt_el H
        refine J_nO 3 11 dX7_ownMachine_35 rfl rfl clX7_45 in3 ini3 e15 ?_
        refine J_dup dX7_ownMachine_38 rfl ?_
        obtain ⟨h17, e16, H⟩ := bd H
        refine J_cIN (as := []) YX4_init "LeadRoom" 0 dX7_ownMachine_39 moX4_init miX4_init mlX7_131 rfl rfl (kn99 (ekN e15) rfl) (okX4_init (d := d) e16) rfl rfl [.ref (sz h + 1), .int v1, .ref (gP h v0 8)] rfl rfl ?_
        obtain ⟨g18, H⟩ := gd H
        obtain ⟨g19, H⟩ := gd H
        obtain ⟨g20, H⟩ := gd H
        obtain ⟨h21, e22, H⟩ := lt_el H
        refine J_sA 27 dX7_ownMachine_42 g18 rfl g19 (inB_ok g20) e22 ?_
        have c23 := ekP e22
        have c24 := elP e22
        exact J_dr (kX7_ownMachine_43 H ) ⟨rfl, ⟨rfl, trivial⟩⟩
    · replace H := br0 q8 H
      exact J_dr (kX7_ownMachine_13 H ) trivial
theorem okX7_ownMachine {d : Nat} {h : Hp} {v0 : Nat} {v1 : Int32} {r : Nat} {h9 : Hp} (H : MX7_ownMachine h v0 v1 = some (r, h9)) : CT (d + 1) YX7_ownMachine [.ref v0, .int v1] h (oA r) h9 := CT_of (by decide +kernel) (Nat.le_of_ble_eq_true rfl) (eX7_ownMachine H)
noncomputable def BX7_canRun_2 (h : Hp) (v0 : Nat) (v1 : Int32) : Option ((Int32 × Hp) ⊕ (Int32 × Hp)) :=
  gg (β := ((Int32 × Hp) ⊕ (Int32 × Hp))) (kd h v0 = 6) <|
  if (gI h v0 9) ≤ v1 then
    some (.inr (((0 : Int32), h)))
  else
    b2 (α := Nat) (β := Hp) (γ := ((Int32 × Hp) ⊕ (Int32 × Hp))) (MX7_ownMachine h v0 v1) fun (t5 : Nat) (h4 : Hp) =>
    gg (β := ((Int32 × Hp) ⊕ (Int32 × Hp))) (kd h4 t5 = 3) <|
    if (gI h4 t5 2) = 0 then
      if (gI h4 t5 3) ≤ 0 then
        some (.inl ((v1 + (1 : Int32)), h4))
      else
        some (.inr (((1 : Int32), h4)))
    else
      some (.inl ((v1 + (1 : Int32)), h4))
set_option maxRecDepth 100000 in
set_option maxHeartbeats 8000000 in
theorem bX7_canRun_2 {d : Nat} {h : Hp} {v0 : Nat} {v1 : Int32} {r : Int32} {h9 : Hp} {x : ((Int32 × Hp) ⊕ (Int32 × Hp))} (H : BX7_canRun_2 h v0 v1 = some x) (hb0 : ∀ s : Int32 × Hp, x = .inl s → J (d + 2) YX7_canRun 2 [.ref v0, .int s.1, Value.null] [] s.2 (oI r) h9) (hx : ∀ z : (Int32 × Hp), x = .inr (z) → z = (r, h9)) : J (d + 2) YX7_canRun 2 [.ref v0, .int v1, Value.null] [] h (oI r) h9 := by
  unfold BX7_canRun_2 at H
  refine J_iload_n 1 dX7_canRun_2 rfl rfl ?_
  refine J_aload_n 0 dX7_canRun_3 rfl rfl ?_
  obtain ⟨g1, H⟩ := gd H
  refine J_getI 6 9 dX7_canRun_4 g1 flX7_51 rfl ?_
  refine J_icmp_ge 38 dX7_canRun_7 rfl (fun q2 => ?_) (fun q2 => ?_)
  · replace H := br1 q2 H
    refine J_iconst (0 : Int32) dX7_canRun_38 kc_0 ?_
    cases H
    cases hx _ rfl
    exact J_rZ dX7_canRun_39 rfl rfl
  · replace H := br0 q2 H
    refine J_aload_n 0 dX7_canRun_10 rfl rfl ?_
    refine J_iload_n 1 dX7_canRun_11 rfl rfl ?_
    obtain ⟨t5, h4, e3, H⟩ := b2_el H
    refine J_cV (as := [.int v1]) 6 YX7_ownMachine 1 dX7_canRun_12 moX7_ownMachine mvX7_ownMachine mlX7_106 g1 rfl rfl (okX7_ownMachine (d := d) e3) rfl rfl [] rfl rfl (st2 := [.ref t5]) rfl ?_
    refine J_astore_n 2 dX7_canRun_15 rfl (by decide) (ls' := [.ref v0, .int v1, .ref t5]) rfl ?_
    refine J_aload_n 2 dX7_canRun_16 rfl rfl ?_
    obtain ⟨g6, H⟩ := gd H
    refine J_getI 3 2 dX7_canRun_17 g6 flX7_199 rfl ?_
    refine J_if_ne 32 dX7_canRun_20 rfl (fun q7 => ?_) (fun q7 => ?_)
    · replace H := br0 q7 H
      refine J_iinc (v1 + (1 : Int32)) dX7_canRun_32 rfl (congrArg (HAdd.hAdd v1) kc_1) (by decide) (ls' := [.ref v0, .int (v1 + (1 : Int32)), .ref t5]) rfl ?_
      refine J_goto 2 dX7_canRun_35 rfl ?_
      cases H
      exact J_dr (hb0 _ rfl) ⟨rfl, ⟨rfl, trivial⟩⟩
    · replace H := br1 q7 H
      refine J_aload_n 2 dX7_canRun_23 rfl rfl ?_
      refine J_getI 3 3 dX7_canRun_24 g6 flX7_202 rfl ?_
      refine J_if_le 32 dX7_canRun_27 rfl (fun q8 => ?_) (fun q8 => ?_)
      · replace H := br1 q8 H
        refine J_iinc (v1 + (1 : Int32)) dX7_canRun_32 rfl (congrArg (HAdd.hAdd v1) kc_1) (by decide) (ls' := [.ref v0, .int (v1 + (1 : Int32)), .ref t5]) rfl ?_
        refine J_goto 2 dX7_canRun_35 rfl ?_
        cases H
        exact J_dr (hb0 _ rfl) ⟨rfl, ⟨rfl, trivial⟩⟩
      · replace H := br0 q8 H
        refine J_iconst (1 : Int32) dX7_canRun_30 kc_1 ?_
        cases H
        cases hx _ rfl
        exact J_rZ dX7_canRun_31 rfl rfl
noncomputable def MX7_canRun_2 (h : Hp) (v0 : Nat) (v1 : Int32) : Option (Int32 × Hp) := it (fun q : Int32 × Hp => BX7_canRun_2 q.2 v0 q.1) (v1, h)
set_option maxRecDepth 100000 in
set_option maxHeartbeats 8000000 in
theorem kX7_canRun_2 {d : Nat} {h : Hp} {v0 : Nat} {v1 : Int32} {r : Int32} {h9 : Hp} (H : MX7_canRun_2 h v0 v1 = some (r, h9)) : J (d + 2) YX7_canRun 2 [.ref v0, .int v1, Value.null] [] h (oI r) h9 := by
  unfold MX7_canRun_2 at H
  refine it_J (G := (fun q : Int32 × Hp => J (d + 2) YX7_canRun 2 [.ref v0, .int q.1, Value.null] [] q.2 (oI r) h9)) (Q := (fun y : (Int32 × Hp) => y = (r, h9))) (fun q x Hq hm => ?_) H rfl
  exact bX7_canRun_2 Hq (fun s hs => by subst hs; exact hm) (fun z hz => by subst hz; exact hm)
noncomputable def MX7_canRun (h : Hp) (v0 : Nat) : Option (Int32 × Hp) :=
  MX7_canRun_2 h v0 (0 : Int32)
set_option maxRecDepth 100000 in
set_option maxHeartbeats 8000000 in
theorem eX7_canRun {d : Nat} {h : Hp} {v0 : Nat} {r : Int32} {h9 : Hp} (H : MX7_canRun h v0 = some (r, h9)) : J (d + 2) YX7_canRun 0 [.ref v0, Value.null, Value.null] [] h (oI r) h9 := by
  unfold MX7_canRun at H
  refine J_iconst (0 : Int32) dX7_canRun_0 kc_0 ?_
  refine J_istore_n 1 dX7_canRun_1 rfl (by decide) (ls' := [.ref v0, .int (0 : Int32), Value.null]) rfl ?_
  exact J_dr (kX7_canRun_2 H ) ⟨rfl, ⟨rfl, trivial⟩⟩
theorem okX7_canRun {d : Nat} {h : Hp} {v0 : Nat} {r : Int32} {h9 : Hp} (H : MX7_canRun h v0 = some (r, h9)) : CT (d + 2) YX7_canRun [.ref v0] h (oI r) h9 := CT_of (by decide +kernel) (Nat.le_of_ble_eq_true rfl) (eX7_canRun H)
noncomputable def BX7_countJobs_4 (h : Hp) (v0 : Nat) (v1 : Int32) (v2 : Int32) : Option ((Int32 × Int32 × Hp) ⊕ (Int32 × Hp)) :=
  gg (β := ((Int32 × Int32 × Hp) ⊕ (Int32 × Hp))) (kd h v0 = 6) <|
  if (gI h v0 9) ≤ v2 then
    some (.inr ((v1, h)))
  else
    b2 (α := Nat) (β := Hp) (γ := ((Int32 × Int32 × Hp) ⊕ (Int32 × Hp))) (MX7_ownMachine h v0 v2) fun (t5 : Nat) (h4 : Hp) =>
    gg (β := ((Int32 × Int32 × Hp) ⊕ (Int32 × Hp))) (kd h4 t5 = 3) <|
    some (.inl ((v1 + (gI h4 t5 3)), (v2 + (1 : Int32)), h4))
set_option maxRecDepth 100000 in
set_option maxHeartbeats 8000000 in
theorem bX7_countJobs_4 {d : Nat} {h : Hp} {v0 : Nat} {v1 : Int32} {v2 : Int32} {r : Int32} {h9 : Hp} {x : ((Int32 × Int32 × Hp) ⊕ (Int32 × Hp))} (H : BX7_countJobs_4 h v0 v1 v2 = some x) (hb0 : ∀ s : Int32 × Int32 × Hp, x = .inl s → J (d + 2) YX7_countJobs 4 [.ref v0, .int s.1, .int s.2.1] [] s.2.2 (oI r) h9) (hx : ∀ z : (Int32 × Hp), x = .inr (z) → z = (r, h9)) : J (d + 2) YX7_countJobs 4 [.ref v0, .int v1, .int v2] [] h (oI r) h9 := by
  unfold BX7_countJobs_4 at H
  refine J_iload_n 2 dX7_countJobs_4 rfl rfl ?_
  refine J_aload_n 0 dX7_countJobs_5 rfl rfl ?_
  obtain ⟨g1, H⟩ := gd H
  refine J_getI 6 9 dX7_countJobs_6 g1 flX7_51 rfl ?_
  refine J_icmp_ge 29 dX7_countJobs_9 rfl (fun q2 => ?_) (fun q2 => ?_)
  · replace H := br1 q2 H
    refine J_iload_n 1 dX7_countJobs_29 rfl rfl ?_
    cases H
    cases hx _ rfl
    exact J_iretI dX7_countJobs_30 rfl
  · replace H := br0 q2 H
    refine J_iload_n 1 dX7_countJobs_12 rfl rfl ?_
    refine J_aload_n 0 dX7_countJobs_13 rfl rfl ?_
    refine J_iload_n 2 dX7_countJobs_14 rfl rfl ?_
    obtain ⟨t5, h4, e3, H⟩ := b2_el H
    refine J_cV (as := [.int v2]) 6 YX7_ownMachine 1 dX7_countJobs_15 moX7_ownMachine mvX7_ownMachine mlX7_106 g1 rfl rfl (okX7_ownMachine (d := d) e3) rfl rfl [.int v1] rfl rfl (st2 := [.ref t5, .int v1]) rfl ?_
    obtain ⟨g6, H⟩ := gd H
    refine J_getI 3 3 dX7_countJobs_18 g6 flX7_202 rfl ?_
    refine J_iadd dX7_countJobs_21 ?_
    refine J_istore_n 1 dX7_countJobs_22 rfl (by decide) (ls' := [.ref v0, .int (v1 + (gI h4 t5 3)), .int v2]) rfl ?_
    refine J_iinc (v2 + (1 : Int32)) dX7_countJobs_23 rfl (congrArg (HAdd.hAdd v2) kc_1) (by decide) (ls' := [.ref v0, .int (v1 + (gI h4 t5 3)), .int (v2 + (1 : Int32))]) rfl ?_
    refine J_goto 4 dX7_countJobs_26 rfl ?_
    cases H
    exact J_dr (hb0 _ rfl) ⟨rfl, ⟨rfl, ⟨rfl, trivial⟩⟩⟩
noncomputable def MX7_countJobs_4 (h : Hp) (v0 : Nat) (v1 : Int32) (v2 : Int32) : Option (Int32 × Hp) := it (fun q : Int32 × Int32 × Hp => BX7_countJobs_4 q.2.2 v0 q.1 q.2.1) (v1, v2, h)
set_option maxRecDepth 100000 in
set_option maxHeartbeats 8000000 in
theorem kX7_countJobs_4 {d : Nat} {h : Hp} {v0 : Nat} {v1 : Int32} {v2 : Int32} {r : Int32} {h9 : Hp} (H : MX7_countJobs_4 h v0 v1 v2 = some (r, h9)) : J (d + 2) YX7_countJobs 4 [.ref v0, .int v1, .int v2] [] h (oI r) h9 := by
  unfold MX7_countJobs_4 at H
  refine it_J (G := (fun q : Int32 × Int32 × Hp => J (d + 2) YX7_countJobs 4 [.ref v0, .int q.1, .int q.2.1] [] q.2.2 (oI r) h9)) (Q := (fun y : (Int32 × Hp) => y = (r, h9))) (fun q x Hq hm => ?_) H rfl
  exact bX7_countJobs_4 Hq (fun s hs => by subst hs; exact hm) (fun z hz => by subst hz; exact hm)
noncomputable def MX7_countJobs (h : Hp) (v0 : Nat) : Option (Int32 × Hp) :=
  MX7_countJobs_4 h v0 (0 : Int32) (0 : Int32)
set_option maxRecDepth 100000 in
set_option maxHeartbeats 8000000 in
theorem eX7_countJobs {d : Nat} {h : Hp} {v0 : Nat} {r : Int32} {h9 : Hp} (H : MX7_countJobs h v0 = some (r, h9)) : J (d + 2) YX7_countJobs 0 [.ref v0, Value.null, Value.null] [] h (oI r) h9 := by
  unfold MX7_countJobs at H
  refine J_iconst (0 : Int32) dX7_countJobs_0 kc_0 ?_
  refine J_istore_n 1 dX7_countJobs_1 rfl (by decide) (ls' := [.ref v0, .int (0 : Int32), Value.null]) rfl ?_
  refine J_iconst (0 : Int32) dX7_countJobs_2 kc_0 ?_
  refine J_istore_n 2 dX7_countJobs_3 rfl (by decide) (ls' := [.ref v0, .int (0 : Int32), .int (0 : Int32)]) rfl ?_
  exact J_dr (kX7_countJobs_4 H ) ⟨rfl, ⟨rfl, ⟨rfl, trivial⟩⟩⟩
theorem okX7_countJobs {d : Nat} {h : Hp} {v0 : Nat} {r : Int32} {h9 : Hp} (H : MX7_countJobs h v0 = some (r, h9)) : CT (d + 2) YX7_countJobs [.ref v0] h (oI r) h9 := CT_of (by decide +kernel) (Nat.le_of_ble_eq_true rfl) (eX7_countJobs H)
noncomputable def BX4_cannotCast_2 (h : Hp) (v0 : Nat) (v1 : Nat) (v2 : Int32) : Option ((Int32) ⊕ Int32) :=
  if (27 : Int32) ≤ v2 then
    some (.inr ((0 : Int32)))
  else
    gg (β := ((Int32) ⊕ Int32)) (kd h v1 = 20) <|
    gg (β := ((Int32) ⊕ Int32)) (inB v2 (ln h v1) = true) <|
    gg (β := ((Int32) ⊕ Int32)) (kd h v0 = 3) <|
    gg (β := ((Int32) ⊕ Int32)) (kd h (gP h v0 0) = 20) <|
    gg (β := ((Int32) ⊕ Int32)) (inB v2 (ln h (gP h v0 0)) = true) <|
    if (gI h v1 v2.toNatClampNeg) ≤ (gI h (gP h v0 0) v2.toNatClampNeg) then
      some (.inl (v2 + (1 : Int32)))
    else
      some (.inr ((1 : Int32)))
set_option maxRecDepth 100000 in
set_option maxHeartbeats 8000000 in
theorem bX4_cannotCast_2 {d : Nat} {h : Hp} {v0 : Nat} {v1 : Nat} {v2 : Int32} {r : Int32} {x : ((Int32) ⊕ Int32)} (H : BX4_cannotCast_2 h v0 v1 v2 = some x) (hb0 : ∀ s : Int32, x = .inl s → J (d) YX4_cannotCast 2 [.ref v0, .ref v1, .int s] [] h (oI r) h) (hx : ∀ z : Int32, x = .inr (z) → z = r) : J (d) YX4_cannotCast 2 [.ref v0, .ref v1, .int v2] [] h (oI r) h := by
  unfold BX4_cannotCast_2 at H
  refine J_iload_n 2 dX4_cannotCast_2 rfl rfl ?_
  refine J_bipush (27 : Int32) dX4_cannotCast_3 kb_27 ?_
  refine J_icmp_ge 28 dX4_cannotCast_5 rfl (fun q1 => ?_) (fun q1 => ?_)
  · replace H := br1 q1 H
    refine J_iconst (0 : Int32) dX4_cannotCast_28 kc_0 ?_
    cases H
    cases hx _ rfl
    exact J_rZ dX4_cannotCast_29 rfl rfl
  · replace H := br0 q1 H
    refine J_aload_n 1 dX4_cannotCast_8 rfl rfl ?_
    refine J_iload_n 2 dX4_cannotCast_9 rfl rfl ?_
    obtain ⟨g2, H⟩ := gd H
    obtain ⟨g3, H⟩ := gd H
    refine J_iald dX4_cannotCast_10 g2 (inB_ok g3) ?_
    refine J_aload_n 0 dX4_cannotCast_11 rfl rfl ?_
    obtain ⟨g4, H⟩ := gd H
    refine J_gP 3 0 dX4_cannotCast_12 g4 flX4_9 rfl rfl ?_
    refine J_iload_n 2 dX4_cannotCast_15 rfl rfl ?_
    obtain ⟨g5, H⟩ := gd H
    obtain ⟨g6, H⟩ := gd H
    refine J_iald dX4_cannotCast_16 g5 (inB_ok g6) ?_
    refine J_icmp_le 22 dX4_cannotCast_17 rfl (fun q7 => ?_) (fun q7 => ?_)
    · replace H := br1 q7 H
      refine J_iinc (v2 + (1 : Int32)) dX4_cannotCast_22 rfl (congrArg (HAdd.hAdd v2) kc_1) (by decide) (ls' := [.ref v0, .ref v1, .int (v2 + (1 : Int32))]) rfl ?_
      refine J_goto 2 dX4_cannotCast_25 rfl ?_
      cases H
      exact J_dr (hb0 _ rfl) ⟨rfl, ⟨rfl, ⟨rfl, trivial⟩⟩⟩
    · replace H := br0 q7 H
      refine J_iconst (1 : Int32) dX4_cannotCast_20 kc_1 ?_
      cases H
      cases hx _ rfl
      exact J_rZ dX4_cannotCast_21 rfl rfl
noncomputable def MX4_cannotCast_2 (h : Hp) (v0 : Nat) (v1 : Nat) (v2 : Int32) : Option Int32 := it (fun q : Int32 => BX4_cannotCast_2 h v0 v1 q) (v2)
set_option maxRecDepth 100000 in
set_option maxHeartbeats 8000000 in
theorem kX4_cannotCast_2 {d : Nat} {h : Hp} {v0 : Nat} {v1 : Nat} {v2 : Int32} {r : Int32} (H : MX4_cannotCast_2 h v0 v1 v2 = some r) : J (d) YX4_cannotCast 2 [.ref v0, .ref v1, .int v2] [] h (oI r) h := by
  unfold MX4_cannotCast_2 at H
  refine it_J (G := (fun q : Int32 => J (d) YX4_cannotCast 2 [.ref v0, .ref v1, .int q] [] h (oI r) h)) (Q := (fun y : Int32 => y = r)) (fun q x Hq hm => ?_) H rfl
  exact bX4_cannotCast_2 Hq (fun s hs => by subst hs; exact hm) (fun z hz => by subst hz; exact hm)
noncomputable def MX4_cannotCast (h : Hp) (v0 : Nat) (v1 : Nat) : Option Int32 :=
  MX4_cannotCast_2 h v0 v1 (0 : Int32)
set_option maxRecDepth 100000 in
set_option maxHeartbeats 8000000 in
theorem eX4_cannotCast {d : Nat} {h : Hp} {v0 : Nat} {v1 : Nat} {r : Int32} (H : MX4_cannotCast h v0 v1 = some r) : J (d) YX4_cannotCast 0 [.ref v0, .ref v1, Value.null] [] h (oI r) h := by
  unfold MX4_cannotCast at H
  refine J_iconst (0 : Int32) dX4_cannotCast_0 kc_0 ?_
  refine J_istore_n 2 dX4_cannotCast_1 rfl (by decide) (ls' := [.ref v0, .ref v1, .int (0 : Int32)]) rfl ?_
  exact J_dr (kX4_cannotCast_2 H ) ⟨rfl, ⟨rfl, ⟨rfl, trivial⟩⟩⟩
theorem okX4_cannotCast {d : Nat} {h : Hp} {v0 : Nat} {v1 : Nat} {r : Int32} (H : MX4_cannotCast h v0 v1 = some r) : CT (d) YX4_cannotCast [.ref v0, .ref v1] h (oI r) h := CT_of (by decide +kernel) (Nat.le_of_ble_eq_true rfl) (eX4_cannotCast H)
noncomputable def BX4_isShort_2 (h : Hp) (v0 : Nat) (v1 : Nat) (v2 : Nat) (v3 : Int32) : Option ((Int32) ⊕ Int32) :=
  if (27 : Int32) ≤ v3 then
    some (.inr ((0 : Int32)))
  else
    gg (β := ((Int32) ⊕ Int32)) (kd h v1 = 20) <|
    gg (β := ((Int32) ⊕ Int32)) (inB v3 (ln h v1) = true) <|
    gg (β := ((Int32) ⊕ Int32)) (kd h v0 = 3) <|
    gg (β := ((Int32) ⊕ Int32)) (kd h (gP h v0 0) = 20) <|
    gg (β := ((Int32) ⊕ Int32)) (inB v3 (ln h (gP h v0 0)) = true) <|
    gg (β := ((Int32) ⊕ Int32)) (kd h v2 = 20) <|
    gg (β := ((Int32) ⊕ Int32)) (inB v3 (ln h v2) = true) <|
    if (gI h v1 v3.toNatClampNeg) ≤ (jmax (0 : Int32) ((gI h (gP h v0 0) v3.toNatClampNeg) - (gI h v2 v3.toNatClampNeg))) then
      some (.inl (v3 + (1 : Int32)))
    else
      some (.inr ((1 : Int32)))
set_option maxRecDepth 100000 in
set_option maxHeartbeats 8000000 in
theorem bX4_isShort_2 {d : Nat} {h : Hp} {v0 : Nat} {v1 : Nat} {v2 : Nat} {v3 : Int32} {r : Int32} {x : ((Int32) ⊕ Int32)} (H : BX4_isShort_2 h v0 v1 v2 v3 = some x) (hb0 : ∀ s : Int32, x = .inl s → J (d) YX4_isShort 2 [.ref v0, .ref v1, .ref v2, .int s] [] h (oI r) h) (hx : ∀ z : Int32, x = .inr (z) → z = r) : J (d) YX4_isShort 2 [.ref v0, .ref v1, .ref v2, .int v3] [] h (oI r) h := by
  unfold BX4_isShort_2 at H
  refine J_iload_n 3 dX4_isShort_2 rfl rfl ?_
  refine J_bipush (27 : Int32) dX4_isShort_3 kb_27 ?_
  refine J_icmp_ge 36 dX4_isShort_5 rfl (fun q1 => ?_) (fun q1 => ?_)
  · replace H := br1 q1 H
    refine J_iconst (0 : Int32) dX4_isShort_36 kc_0 ?_
    cases H
    cases hx _ rfl
    exact J_rZ dX4_isShort_37 rfl rfl
  · replace H := br0 q1 H
    refine J_aload_n 1 dX4_isShort_8 rfl rfl ?_
    refine J_iload_n 3 dX4_isShort_9 rfl rfl ?_
    obtain ⟨g2, H⟩ := gd H
    obtain ⟨g3, H⟩ := gd H
    refine J_iald dX4_isShort_10 g2 (inB_ok g3) ?_
    refine J_iconst (0 : Int32) dX4_isShort_11 kc_0 ?_
    refine J_aload_n 0 dX4_isShort_12 rfl rfl ?_
    obtain ⟨g4, H⟩ := gd H
    refine J_gP 3 0 dX4_isShort_13 g4 flX4_9 rfl rfl ?_
    refine J_iload_n 3 dX4_isShort_16 rfl rfl ?_
    obtain ⟨g5, H⟩ := gd H
    obtain ⟨g6, H⟩ := gd H
    refine J_iald dX4_isShort_17 g5 (inB_ok g6) ?_
    refine J_aload_n 2 dX4_isShort_18 rfl rfl ?_
    refine J_iload_n 3 dX4_isShort_19 rfl rfl ?_
    obtain ⟨g7, H⟩ := gd H
    obtain ⟨g8, H⟩ := gd H
    refine J_iald dX4_isShort_20 g7 (inB_ok g8) ?_
    refine J_isub dX4_isShort_21 ?_
    refine J_mx dX4_isShort_22 mlX4_58 rfl ?_
    refine J_icmp_le 30 dX4_isShort_25 rfl (fun q9 => ?_) (fun q9 => ?_)
    · replace H := br1 q9 H
      refine J_iinc (v3 + (1 : Int32)) dX4_isShort_30 rfl (congrArg (HAdd.hAdd v3) kc_1) (by decide) (ls' := [.ref v0, .ref v1, .ref v2, .int (v3 + (1 : Int32))]) rfl ?_
      refine J_goto 2 dX4_isShort_33 rfl ?_
      cases H
      exact J_dr (hb0 _ rfl) ⟨rfl, ⟨rfl, ⟨rfl, ⟨rfl, trivial⟩⟩⟩⟩
    · replace H := br0 q9 H
      refine J_iconst (1 : Int32) dX4_isShort_28 kc_1 ?_
      cases H
      cases hx _ rfl
      exact J_rZ dX4_isShort_29 rfl rfl
noncomputable def MX4_isShort_2 (h : Hp) (v0 : Nat) (v1 : Nat) (v2 : Nat) (v3 : Int32) : Option Int32 := it (fun q : Int32 => BX4_isShort_2 h v0 v1 v2 q) (v3)
set_option maxRecDepth 100000 in
set_option maxHeartbeats 8000000 in
theorem kX4_isShort_2 {d : Nat} {h : Hp} {v0 : Nat} {v1 : Nat} {v2 : Nat} {v3 : Int32} {r : Int32} (H : MX4_isShort_2 h v0 v1 v2 v3 = some r) : J (d) YX4_isShort 2 [.ref v0, .ref v1, .ref v2, .int v3] [] h (oI r) h := by
  unfold MX4_isShort_2 at H
  refine it_J (G := (fun q : Int32 => J (d) YX4_isShort 2 [.ref v0, .ref v1, .ref v2, .int q] [] h (oI r) h)) (Q := (fun y : Int32 => y = r)) (fun q x Hq hm => ?_) H rfl
  exact bX4_isShort_2 Hq (fun s hs => by subst hs; exact hm) (fun z hz => by subst hz; exact hm)
noncomputable def MX4_isShort (h : Hp) (v0 : Nat) (v1 : Nat) (v2 : Nat) : Option Int32 :=
  MX4_isShort_2 h v0 v1 v2 (0 : Int32)
set_option maxRecDepth 100000 in
set_option maxHeartbeats 8000000 in
theorem eX4_isShort {d : Nat} {h : Hp} {v0 : Nat} {v1 : Nat} {v2 : Nat} {r : Int32} (H : MX4_isShort h v0 v1 v2 = some r) : J (d) YX4_isShort 0 [.ref v0, .ref v1, .ref v2, Value.null] [] h (oI r) h := by
  unfold MX4_isShort at H
  refine J_iconst (0 : Int32) dX4_isShort_0 kc_0 ?_
  refine J_istore_n 3 dX4_isShort_1 rfl (by decide) (ls' := [.ref v0, .ref v1, .ref v2, .int (0 : Int32)]) rfl ?_
  exact J_dr (kX4_isShort_2 H ) ⟨rfl, ⟨rfl, ⟨rfl, ⟨rfl, trivial⟩⟩⟩⟩
theorem okX4_isShort {d : Nat} {h : Hp} {v0 : Nat} {v1 : Nat} {v2 : Nat} {r : Int32} (H : MX4_isShort h v0 v1 v2 = some r) : CT (d) YX4_isShort [.ref v0, .ref v1, .ref v2] h (oI r) h := CT_of (by decide +kernel) (Nat.le_of_ble_eq_true rfl) (eX4_isShort H)
noncomputable def MX4_dropJob_72 (h : Hp) (v0 : Nat) : Option Hp :=
  gg (β := Hp) (kd h v0 = 3) <|
  lt (α := Hp) (β := Option Hp) (sI h v0 3 (jmax (0 : Int32) ((gI h v0 3) - (1 : Int32)))) fun (h4 : Hp) =>
  some h4
set_option maxRecDepth 100000 in
set_option maxHeartbeats 8000000 in
theorem kX4_dropJob_72 {d : Nat} {h : Hp} {v0 : Nat} {h9 : Hp} (H : MX4_dropJob_72 h v0 = some h9) : J (d) YX4_dropJob 72 [.ref v0, Value.null] [] h oV h9 := by
  unfold MX4_dropJob_72 at H
  refine J_aload_n 0 dX4_dropJob_72 rfl rfl ?_
  refine J_iconst (0 : Int32) dX4_dropJob_73 kc_0 ?_
  refine J_aload_n 0 dX4_dropJob_74 rfl rfl ?_
  obtain ⟨g3, H⟩ := gd H
  refine J_getI 3 3 dX4_dropJob_75 g3 flX4_23 rfl ?_
  refine J_iconst (1 : Int32) dX4_dropJob_78 kc_1 ?_
  refine J_isub dX4_dropJob_79 ?_
  refine J_mx dX4_dropJob_80 mlX4_58 rfl ?_
  obtain ⟨h4, e5, H⟩ := lt_el H
  refine J_pI 3 3 dX4_dropJob_83 g3 flX4_23 rfl rfl e5 ?_
  have c6 := ekI e5
  have c7 := elI e5
  have c8 := epI e5
  cases H
  exact J_ret dX4_dropJob_86 rfl
noncomputable def BX4_dropJob_2 (h : Hp) (v0 : Nat) (v1 : Int32) : Option ((Int32 × Hp) ⊕ Hp) :=
  gg (β := ((Int32 × Hp) ⊕ Hp)) (kd h v0 = 3) <|
  if (gI h v0 3) ≤ v1 then
    up1 (MX4_dropJob_72 h v0)
  else
    gg (β := ((Int32 × Hp) ⊕ Hp)) (kd h (gP h v0 7) = 20) <|
    gg (β := ((Int32 × Hp) ⊕ Hp)) (inB v1 (ln h (gP h v0 7)) = true) <|
    gg (β := ((Int32 × Hp) ⊕ Hp)) (inB (v1 - (1 : Int32)) (ln h (gP h v0 7)) = true) <|
    lt (α := Hp) (β := Option ((Int32 × Hp) ⊕ Hp)) (sI h (gP h v0 7) (v1 - (1 : Int32)).toNatClampNeg (gI h (gP h v0 7) v1.toNatClampNeg)) fun (h12 : Hp) =>
    gg (β := ((Int32 × Hp) ⊕ Hp)) (kd h (gP h v0 8) = 20) <|
    gg (β := ((Int32 × Hp) ⊕ Hp)) (inB v1 (ln h (gP h v0 8)) = true) <|
    gg (β := ((Int32 × Hp) ⊕ Hp)) (inB (v1 - (1 : Int32)) (ln h (gP h v0 8)) = true) <|
    lt (α := Hp) (β := Option ((Int32 × Hp) ⊕ Hp)) (sI h12 (gP h v0 8) (v1 - (1 : Int32)).toNatClampNeg (gI h12 (gP h v0 8) v1.toNatClampNeg)) fun (h20 : Hp) =>
    gg (β := ((Int32 × Hp) ⊕ Hp)) (kd h (gP h v0 9) = 20) <|
    gg (β := ((Int32 × Hp) ⊕ Hp)) (inB v1 (ln h (gP h v0 9)) = true) <|
    gg (β := ((Int32 × Hp) ⊕ Hp)) (inB (v1 - (1 : Int32)) (ln h (gP h v0 9)) = true) <|
    lt (α := Hp) (β := Option ((Int32 × Hp) ⊕ Hp)) (sI h20 (gP h v0 9) (v1 - (1 : Int32)).toNatClampNeg (gI h20 (gP h v0 9) v1.toNatClampNeg)) fun (h28 : Hp) =>
    gg (β := ((Int32 × Hp) ⊕ Hp)) (kd h (gP h v0 10) = 22) <|
    gg (β := ((Int32 × Hp) ⊕ Hp)) (inB v1 (ln h (gP h v0 10)) = true) <|
    gg (β := ((Int32 × Hp) ⊕ Hp)) (inB (v1 - (1 : Int32)) (ln h (gP h v0 10)) = true) <|
    lt (α := Hp) (β := Option ((Int32 × Hp) ⊕ Hp)) (sI h28 (gP h v0 10) (v1 - (1 : Int32)).toNatClampNeg (vp_nar .boolean (gI h28 (gP h v0 10) v1.toNatClampNeg))) fun (h36 : Hp) =>
    some (.inl ((v1 + (1 : Int32)), h36))
set_option maxRecDepth 100000 in
set_option maxHeartbeats 8000000 in
theorem bX4_dropJob_2 {d : Nat} {h : Hp} {v0 : Nat} {v1 : Int32} {h9 : Hp} {x : ((Int32 × Hp) ⊕ Hp)} (H : BX4_dropJob_2 h v0 v1 = some x) (hb0 : ∀ s : Int32 × Hp, x = .inl s → J (d) YX4_dropJob 2 [.ref v0, .int s.1] [] s.2 oV h9) (hx : ∀ z : Hp, x = .inr (z) → z = h9) : J (d) YX4_dropJob 2 [.ref v0, .int v1] [] h oV h9 := by
  unfold BX4_dropJob_2 at H
  refine J_iload_n 1 dX4_dropJob_2 rfl rfl ?_
  refine J_aload_n 0 dX4_dropJob_3 rfl rfl ?_
  obtain ⟨g1, H⟩ := gd H
  refine J_getI 3 3 dX4_dropJob_4 g1 flX4_23 rfl ?_
  refine J_icmp_ge 72 dX4_dropJob_7 rfl (fun q2 => ?_) (fun q2 => ?_)
  · replace H := br1 q2 H
    obtain ⟨y0, H90, rfl⟩ := up1_el H
    replace H := H90
    obtain rfl := hx _ rfl
    exact J_dr (kX4_dropJob_72 H ) ⟨rfl, trivial⟩
  · replace H := br0 q2 H
    refine J_aload_n 0 dX4_dropJob_10 rfl rfl ?_
    refine J_gP 3 7 dX4_dropJob_11 g1 flX4_35 rfl rfl ?_
    refine J_iload_n 1 dX4_dropJob_14 rfl rfl ?_
    refine J_iconst (1 : Int32) dX4_dropJob_15 kc_1 ?_
    refine J_isub dX4_dropJob_16 ?_
    refine J_aload_n 0 dX4_dropJob_17 rfl rfl ?_
    refine J_gP 3 7 dX4_dropJob_18 g1 flX4_35 rfl rfl ?_
    refine J_iload_n 1 dX4_dropJob_21 rfl rfl ?_
    obtain ⟨g9, H⟩ := gd H
    obtain ⟨g10, H⟩ := gd H
    refine J_iald dX4_dropJob_22 g9 (inB_ok g10) ?_
    obtain ⟨g11, H⟩ := gd H
    obtain ⟨h12, e13, H⟩ := lt_el H
    refine J_sI dX4_dropJob_23 g9 (inB_ok g11) e13 ?_
    have c14 := ekI e13
    have c15 := elI e13
    have c16 := epI e13
    refine J_aload_n 0 dX4_dropJob_24 rfl rfl ?_
    refine J_gP 3 8 dX4_dropJob_25 (kq c14 g1) flX4_38 rfl (congrFun (congrFun c16 v0) 8) ?_
    refine J_iload_n 1 dX4_dropJob_28 rfl rfl ?_
    refine J_iconst (1 : Int32) dX4_dropJob_29 kc_1 ?_
    refine J_isub dX4_dropJob_30 ?_
    refine J_aload_n 0 dX4_dropJob_31 rfl rfl ?_
    refine J_gP 3 8 dX4_dropJob_32 (kq c14 g1) flX4_38 rfl (congrFun (congrFun c16 v0) 8) ?_
    refine J_iload_n 1 dX4_dropJob_35 rfl rfl ?_
    obtain ⟨g17, H⟩ := gd H
    obtain ⟨g18, H⟩ := gd H
    refine J_iald dX4_dropJob_36 (kq c14 g17) (lq c15 g18) ?_
    obtain ⟨g19, H⟩ := gd H
    obtain ⟨h20, e21, H⟩ := lt_el H
    refine J_sI dX4_dropJob_37 (kq c14 g17) (lq c15 g19) e21 ?_
    have c22 := (ekI e21).trans c14
    have c23 := (elI e21).trans c15
    have c24 := (epI e21).trans c16
    refine J_aload_n 0 dX4_dropJob_38 rfl rfl ?_
    refine J_gP 3 9 dX4_dropJob_39 (kq c22 g1) flX4_41 rfl (congrFun (congrFun c24 v0) 9) ?_
    refine J_iload_n 1 dX4_dropJob_42 rfl rfl ?_
    refine J_iconst (1 : Int32) dX4_dropJob_43 kc_1 ?_
    refine J_isub dX4_dropJob_44 ?_
    refine J_aload_n 0 dX4_dropJob_45 rfl rfl ?_
    refine J_gP 3 9 dX4_dropJob_46 (kq c22 g1) flX4_41 rfl (congrFun (congrFun c24 v0) 9) ?_
    refine J_iload_n 1 dX4_dropJob_49 rfl rfl ?_
    obtain ⟨g25, H⟩ := gd H
    obtain ⟨g26, H⟩ := gd H
    refine J_iald dX4_dropJob_50 (kq c22 g25) (lq c23 g26) ?_
    obtain ⟨g27, H⟩ := gd H
    obtain ⟨h28, e29, H⟩ := lt_el H
    refine J_sI dX4_dropJob_51 (kq c22 g25) (lq c23 g27) e29 ?_
    have c30 := (ekI e29).trans c22
    have c31 := (elI e29).trans c23
    have c32 := (epI e29).trans c24
    refine J_aload_n 0 dX4_dropJob_52 rfl rfl ?_
    refine J_gP 3 10 dX4_dropJob_53 (kq c30 g1) flX4_44 rfl (congrFun (congrFun c32 v0) 10) ?_
    refine J_iload_n 1 dX4_dropJob_56 rfl rfl ?_
    refine J_iconst (1 : Int32) dX4_dropJob_57 kc_1 ?_
    refine J_isub dX4_dropJob_58 ?_
    refine J_aload_n 0 dX4_dropJob_59 rfl rfl ?_
    refine J_gP 3 10 dX4_dropJob_60 (kq c30 g1) flX4_44 rfl (congrFun (congrFun c32 v0) 10) ?_
    refine J_iload_n 1 dX4_dropJob_63 rfl rfl ?_
    obtain ⟨g33, H⟩ := gd H
    obtain ⟨g34, H⟩ := gd H
    refine J_zald dX4_dropJob_64 (kq c30 g33) (lq c31 g34) ?_
    obtain ⟨g35, H⟩ := gd H
    obtain ⟨h36, e37, H⟩ := lt_el H
    refine J_sZ dX4_dropJob_65 (kq c30 g33) (lq c31 g35) e37 ?_
    have c38 := (ekI e37).trans c30
    have c39 := (elI e37).trans c31
    have c40 := (epI e37).trans c32
    refine J_iinc (v1 + (1 : Int32)) dX4_dropJob_66 rfl (congrArg (HAdd.hAdd v1) kc_1) (by decide) (ls' := [.ref v0, .int (v1 + (1 : Int32))]) rfl ?_
    refine J_goto 2 dX4_dropJob_69 rfl ?_
    cases H
    exact J_dr (hb0 _ rfl) ⟨rfl, ⟨rfl, trivial⟩⟩
noncomputable def MX4_dropJob_2 (h : Hp) (v0 : Nat) (v1 : Int32) : Option Hp := it (fun q : Int32 × Hp => BX4_dropJob_2 q.2 v0 q.1) (v1, h)
set_option maxRecDepth 100000 in
set_option maxHeartbeats 8000000 in
theorem kX4_dropJob_2 {d : Nat} {h : Hp} {v0 : Nat} {v1 : Int32} {h9 : Hp} (H : MX4_dropJob_2 h v0 v1 = some h9) : J (d) YX4_dropJob 2 [.ref v0, .int v1] [] h oV h9 := by
  unfold MX4_dropJob_2 at H
  refine it_J (G := (fun q : Int32 × Hp => J (d) YX4_dropJob 2 [.ref v0, .int q.1] [] q.2 oV h9)) (Q := (fun y : Hp => y = h9)) (fun q x Hq hm => ?_) H rfl
  exact bX4_dropJob_2 Hq (fun s hs => by subst hs; exact hm) (fun z hz => by subst hz; exact hm)
noncomputable def MX4_dropJob (h : Hp) (v0 : Nat) : Option Hp :=
  MX4_dropJob_2 h v0 (1 : Int32)
set_option maxRecDepth 100000 in
set_option maxHeartbeats 8000000 in
theorem eX4_dropJob {d : Nat} {h : Hp} {v0 : Nat} {h9 : Hp} (H : MX4_dropJob h v0 = some h9) : J (d) YX4_dropJob 0 [.ref v0, Value.null] [] h oV h9 := by
  unfold MX4_dropJob at H
  refine J_iconst (1 : Int32) dX4_dropJob_0 kc_1 ?_
  refine J_istore_n 1 dX4_dropJob_1 rfl (by decide) (ls' := [.ref v0, .int (1 : Int32)]) rfl ?_
  exact J_dr (kX4_dropJob_2 H ) ⟨rfl, ⟨rfl, trivial⟩⟩
theorem okX4_dropJob {d : Nat} {h : Hp} {v0 : Nat} {h9 : Hp} (H : MX4_dropJob h v0 = some h9) : CT (d) YX4_dropJob [.ref v0] h oV h9 := CT_of (by decide +kernel) (Nat.le_of_ble_eq_true rfl) (eX4_dropJob H)
noncomputable def MX4_spike (h : Hp) (v0 : Nat) : Option Hp :=
  gg (β := Hp) (kd h v0 = 3) <|
  Option.bind (α := Hp) (β := Hp) (MX4_dropJob h v0) fun (h3 : Hp) =>
  gg (β := Hp) (kd h3 v0 = 3) <|
  lt (α := Hp) (β := Option Hp) (sI h3 v0 6 ((gI h3 v0 6) + (1 : Int32))) fun (h5 : Hp) =>
  some h5
set_option maxRecDepth 100000 in
set_option maxHeartbeats 8000000 in
theorem eX4_spike {d : Nat} {h : Hp} {v0 : Nat} {h9 : Hp} (H : MX4_spike h v0 = some h9) : J (d + 1) YX4_spike 0 [.ref v0] [] h oV h9 := by
  unfold MX4_spike at H
  refine J_aload_n 0 dX4_spike_0 rfl rfl ?_
  obtain ⟨g2, H⟩ := gd H
  obtain ⟨h3, e1, H⟩ := bd H
  refine J_cV (as := []) 3 YX4_dropJob 0 dX4_spike_1 moX4_dropJob mvX4_dropJob mlX4_64 g2 rfl rfl (okX4_dropJob (d := d) e1) rfl rfl [] rfl rfl (st2 := []) rfl ?_
  refine J_aload_n 0 dX4_spike_4 rfl rfl ?_
  refine J_dup dX4_spike_5 rfl ?_
  obtain ⟨g4, H⟩ := gd H
  refine J_getI 3 6 dX4_spike_6 g4 flX4_32 rfl ?_
  refine J_iconst (1 : Int32) dX4_spike_9 kc_1 ?_
  refine J_iadd dX4_spike_10 ?_
  obtain ⟨h5, e6, H⟩ := lt_el H
  refine J_pI 3 6 dX4_spike_11 g4 flX4_32 rfl rfl e6 ?_
  have c7 := ekI e6
  have c8 := elI e6
  have c9 := epI e6
  cases H
  exact J_ret dX4_spike_14 rfl
theorem okX4_spike {d : Nat} {h : Hp} {v0 : Nat} {h9 : Hp} (H : MX4_spike h v0 = some h9) : CT (d + 1) YX4_spike [.ref v0] h oV h9 := CT_of (by decide +kernel) (Nat.le_of_ble_eq_true rfl) (eX4_spike H)
noncomputable def MX5_firstBitOfLine (h : Hp) (v0 : Nat) (v1 : Int32) : Option Int32 :=
  if v1 ≤ 0 then
    some (0 : Int32)
  else
    gg (β := Int32) (kd h v0 = 4) <|
    if (gI h v0 9) < v1 then
      some (0 : Int32)
    else
      gg (β := Int32) (kd h (gP h v0 3) = 20) <|
      gg (β := Int32) (inB (v1 - (1 : Int32)) (ln h (gP h v0 3)) = true) <|
      some ((gI h (gP h v0 3) (v1 - (1 : Int32)).toNatClampNeg) + (1 : Int32))
set_option maxRecDepth 100000 in
set_option maxHeartbeats 8000000 in
theorem eX5_firstBitOfLine {d : Nat} {h : Hp} {v0 : Nat} {v1 : Int32} {r : Int32} (H : MX5_firstBitOfLine h v0 v1 = some r) : J (d) YX5_firstBitOfLine 0 [.ref v0, .int v1] [] h (oI r) h := by
  unfold MX5_firstBitOfLine at H
  refine J_iload_n 1 dX5_firstBitOfLine_0 rfl rfl ?_
  refine J_if_le 25 dX5_firstBitOfLine_1 rfl (fun q1 => ?_) (fun q1 => ?_)
  · replace H := br1 q1 H
    refine J_iconst (0 : Int32) dX5_firstBitOfLine_25 kc_0 ?_
    cases H
    exact J_iretI dX5_firstBitOfLine_26 rfl
  · replace H := br0 q1 H
    refine J_iload_n 1 dX5_firstBitOfLine_4 rfl rfl ?_
    refine J_aload_n 0 dX5_firstBitOfLine_5 rfl rfl ?_
    obtain ⟨g2, H⟩ := gd H
    refine J_getI 4 9 dX5_firstBitOfLine_6 g2 flX5_42 rfl ?_
    refine J_icmp_gt 25 dX5_firstBitOfLine_9 rfl (fun q3 => ?_) (fun q3 => ?_)
    · replace H := br1 q3 H
      refine J_iconst (0 : Int32) dX5_firstBitOfLine_25 kc_0 ?_
      cases H
      exact J_iretI dX5_firstBitOfLine_26 rfl
    · replace H := br0 q3 H
      refine J_aload_n 0 dX5_firstBitOfLine_12 rfl rfl ?_
      refine J_gP 4 3 dX5_firstBitOfLine_13 g2 flX5_23 rfl rfl ?_
      refine J_iload_n 1 dX5_firstBitOfLine_16 rfl rfl ?_
      refine J_iconst (1 : Int32) dX5_firstBitOfLine_17 kc_1 ?_
      refine J_isub dX5_firstBitOfLine_18 ?_
      obtain ⟨g4, H⟩ := gd H
      obtain ⟨g5, H⟩ := gd H
      refine J_iald dX5_firstBitOfLine_19 g4 (inB_ok g5) ?_
      refine J_iconst (1 : Int32) dX5_firstBitOfLine_20 kc_1 ?_
      refine J_iadd dX5_firstBitOfLine_21 ?_
      refine J_goto 26 dX5_firstBitOfLine_22 rfl ?_
      cases H
      exact J_iretI dX5_firstBitOfLine_26 rfl
theorem okX5_firstBitOfLine {d : Nat} {h : Hp} {v0 : Nat} {v1 : Int32} {r : Int32} (H : MX5_firstBitOfLine h v0 v1 = some r) : CT (d) YX5_firstBitOfLine [.ref v0, .int v1] h (oI r) h := CT_of (by decide +kernel) (Nat.le_of_ble_eq_true rfl) (eX5_firstBitOfLine H)
noncomputable def MX5_spell_174 (h : Hp) (v0 : Nat) (v2 : Nat) (v3 : Int32) (v4 : Int32) (v5 : Int32) (s0 : Nat) (s1 : Int32) (s2 : Int32) : Option ((Int32 × Int32 × Hp) ⊕ (Int32 × Hp)) :=
  gg (β := ((Int32 × Int32 × Hp) ⊕ (Int32 × Hp))) (kd h s0 = 21) <|
  gg (β := ((Int32 × Int32 × Hp) ⊕ (Int32 × Hp))) (inB s1 (ln h s0) = true) <|
  lt (α := Hp) (β := Option ((Int32 × Int32 × Hp) ⊕ (Int32 × Hp))) (sI h s0 s1.toNatClampNeg (vp_nar .byte s2.toInt8.toInt32)) fun (h25 : Hp) =>
  some (.inl ((v4 + (1 : Int32)), (v5 + (1 : Int32)), h25))
set_option maxRecDepth 100000 in
set_option maxHeartbeats 8000000 in
theorem kX5_spell_174 {d : Nat} {h : Hp} {v0 : Nat} {v2 : Nat} {v3 : Int32} {v4 : Int32} {v5 : Int32} {s0 : Nat} {s1 : Int32} {s2 : Int32} {r : Int32} {h9 : Hp} {x : ((Int32 × Int32 × Hp) ⊕ (Int32 × Hp))} (H : MX5_spell_174 h v0 v2 v3 v4 v5 s0 s1 s2 = some x) (hb0 : ∀ s : Int32 × Int32 × Hp, x = .inl s → J (d + 1) YX5_spell 36 [.ref v0, Value.null, .ref v2, .int v3, .int s.1, .int s.2.1, Value.null, Value.null] [] s.2.2 (oI r) h9) (hx : ∀ z : (Int32 × Hp), x = .inr (z) → z = (r, h9)) : J (d + 1) YX5_spell 174 [.ref v0, Value.null, .ref v2, .int v3, .int v4, .int v5, Value.null, Value.null] [.int s2, .int s1, .ref s0] h (oI r) h9 := by
  unfold MX5_spell_174 at H
  refine J_i2b dX5_spell_174 ?_
  obtain ⟨g23, H⟩ := gd H
  obtain ⟨g24, H⟩ := gd H
  obtain ⟨h25, e26, H⟩ := lt_el H
  refine J_sB dX5_spell_175 g23 (inB_ok g24) e26 ?_
  have c27 := ekI e26
  have c28 := elI e26
  have c29 := epI e26
  refine J_iinc (v4 + (1 : Int32)) dX5_spell_176 rfl (congrArg (HAdd.hAdd v4) kc_1) (by decide) (ls' := [.ref v0, Value.null, .ref v2, .int v3, .int (v4 + (1 : Int32)), .int v5, Value.null, Value.null]) rfl ?_
  refine J_iinc (v5 + (1 : Int32)) dX5_spell_179 rfl (congrArg (HAdd.hAdd v5) kc_1) (by decide) (ls' := [.ref v0, Value.null, .ref v2, .int v3, .int (v4 + (1 : Int32)), .int (v5 + (1 : Int32)), Value.null, Value.null]) rfl ?_
  refine J_goto 36 dX5_spell_182 rfl ?_
  cases H
  exact J_dr (hb0 _ rfl) ⟨rfl, ⟨rfl, ⟨rfl, ⟨rfl, ⟨rfl, trivial⟩⟩⟩⟩⟩
noncomputable def MX5_spell_152 (h : Hp) (v0 : Nat) (v2 : Nat) (v3 : Int32) (v4 : Int32) (v5 : Int32) (v6 : Int32) : Option ((Int32 × Int32 × Hp) ⊕ (Int32 × Hp)) :=
  gg (β := ((Int32 × Int32 × Hp) ⊕ (Int32 × Hp))) (kd h v2 = 21) <|
  if (nI (ln h v2)) ≤ v4 then
    some (.inl (v4, (v5 + (1 : Int32)), h))
  else
    if v6 = 0 then
      MX5_spell_174 h v0 v2 v3 v4 v5 v2 v4 (45 : Int32)
    else
      MX5_spell_174 h v0 v2 v3 v4 v5 v2 v4 (32 : Int32)
set_option maxRecDepth 100000 in
set_option maxHeartbeats 8000000 in
theorem kX5_spell_152 {d : Nat} {h : Hp} {v0 : Nat} {v2 : Nat} {v3 : Int32} {v4 : Int32} {v5 : Int32} {v6 : Int32} {r : Int32} {h9 : Hp} {x : ((Int32 × Int32 × Hp) ⊕ (Int32 × Hp))} (H : MX5_spell_152 h v0 v2 v3 v4 v5 v6 = some x) (hb0 : ∀ s : Int32 × Int32 × Hp, x = .inl s → J (d + 1) YX5_spell 36 [.ref v0, Value.null, .ref v2, .int v3, .int s.1, .int s.2.1, Value.null, Value.null] [] s.2.2 (oI r) h9) (hx : ∀ z : (Int32 × Hp), x = .inr (z) → z = (r, h9)) : J (d + 1) YX5_spell 152 [.ref v0, Value.null, .ref v2, .int v3, .int v4, .int v5, .int v6, Value.null] [] h (oI r) h9 := by
  unfold MX5_spell_152 at H
  refine J_iload dX5_spell_152 rfl ?_
  refine J_aload_n 2 dX5_spell_154 rfl rfl ?_
  obtain ⟨g20, H⟩ := gd H
  refine J_len 21 dX5_spell_155 g20 rfl ?_
  refine J_icmp_ge 179 dX5_spell_156 rfl (fun q21 => ?_) (fun q21 => ?_)
  · replace H := br1 q21 H
    refine J_iinc (v5 + (1 : Int32)) dX5_spell_179 rfl (congrArg (HAdd.hAdd v5) kc_1) (by decide) (ls' := [.ref v0, Value.null, .ref v2, .int v3, .int v4, .int (v5 + (1 : Int32)), .int v6, Value.null]) rfl ?_
    refine J_goto 36 dX5_spell_182 rfl ?_
    cases H
    exact J_dr (hb0 _ rfl) ⟨rfl, ⟨rfl, ⟨rfl, ⟨rfl, ⟨rfl, trivial⟩⟩⟩⟩⟩
  · replace H := br0 q21 H
    refine J_aload_n 2 dX5_spell_159 rfl rfl ?_
    refine J_iload dX5_spell_160 rfl ?_
    refine J_iload dX5_spell_162 rfl ?_
    refine J_if_eq 172 dX5_spell_164 rfl (fun q22 => ?_) (fun q22 => ?_)
    · replace H := br1 q22 H
      refine J_bipush (45 : Int32) dX5_spell_172 kb_45 ?_
      exact J_dr (kX5_spell_174 H hb0 hx) ⟨rfl, ⟨rfl, ⟨rfl, ⟨rfl, ⟨rfl, trivial⟩⟩⟩⟩⟩
    · replace H := br0 q22 H
      refine J_bipush (32 : Int32) dX5_spell_167 kb_32 ?_
      refine J_goto 174 dX5_spell_169 rfl ?_
      exact J_dr (kX5_spell_174 H hb0 hx) ⟨rfl, ⟨rfl, ⟨rfl, ⟨rfl, ⟨rfl, trivial⟩⟩⟩⟩⟩
noncomputable def MX5_spell_140 (h : Hp) (v0 : Nat) (v2 : Nat) (v3 : Int32) (v4 : Int32) (v5 : Int32) (v6 : Int32) (s0 : Int32) : Option ((Int32 × Int32 × Hp) ⊕ (Int32 × Hp)) :=
  if v6 = 0 then
    if s0 = 0 then
      some (.inl (v4, (v5 + (1 : Int32)), h))
    else
      MX5_spell_152 h v0 v2 v3 v4 v5 v6
  else
    MX5_spell_152 h v0 v2 v3 v4 v5 v6
set_option maxRecDepth 100000 in
set_option maxHeartbeats 8000000 in
theorem kX5_spell_140 {d : Nat} {h : Hp} {v0 : Nat} {v2 : Nat} {v3 : Int32} {v4 : Int32} {v5 : Int32} {v6 : Int32} {s0 : Int32} {r : Int32} {h9 : Hp} {x : ((Int32 × Int32 × Hp) ⊕ (Int32 × Hp))} (H : MX5_spell_140 h v0 v2 v3 v4 v5 v6 s0 = some x) (hb0 : ∀ s : Int32 × Int32 × Hp, x = .inl s → J (d + 1) YX5_spell 36 [.ref v0, Value.null, .ref v2, .int v3, .int s.1, .int s.2.1, Value.null, Value.null] [] s.2.2 (oI r) h9) (hx : ∀ z : (Int32 × Hp), x = .inr (z) → z = (r, h9)) : J (d + 1) YX5_spell 140 [.ref v0, Value.null, .ref v2, .int v3, .int v4, .int v5, .int v6, Value.null] [.int s0] h (oI r) h9 := by
  unfold MX5_spell_140 at H
  refine J_istore dX5_spell_140 (by decide) (ls' := [.ref v0, Value.null, .ref v2, .int v3, .int v4, .int v5, .int v6, .int s0]) rfl ?_
  refine J_iload dX5_spell_142 rfl ?_
  refine J_if_ne 152 dX5_spell_144 rfl (fun q19 => ?_) (fun q19 => ?_)
  · replace H := br0 q19 H
    exact J_dr (kX5_spell_152 H hb0 hx) ⟨rfl, ⟨rfl, ⟨rfl, ⟨rfl, ⟨rfl, ⟨rfl, trivial⟩⟩⟩⟩⟩⟩
  · replace H := br1 q19 H
    refine J_iload dX5_spell_147 rfl ?_
    refine J_if_eq 179 dX5_spell_149 rfl (fun q30 => ?_) (fun q30 => ?_)
    · replace H := br1 q30 H
      refine J_iinc (v5 + (1 : Int32)) dX5_spell_179 rfl (congrArg (HAdd.hAdd v5) kc_1) (by decide) (ls' := [.ref v0, Value.null, .ref v2, .int v3, .int v4, .int (v5 + (1 : Int32)), .int v6, .int s0]) rfl ?_
      refine J_goto 36 dX5_spell_182 rfl ?_
      cases H
      exact J_dr (hb0 _ rfl) ⟨rfl, ⟨rfl, ⟨rfl, ⟨rfl, ⟨rfl, trivial⟩⟩⟩⟩⟩
    · replace H := br0 q30 H
      exact J_dr (kX5_spell_152 H hb0 hx) ⟨rfl, ⟨rfl, ⟨rfl, ⟨rfl, ⟨rfl, ⟨rfl, trivial⟩⟩⟩⟩⟩⟩
noncomputable def MX5_spell_139 (h : Hp) (v0 : Nat) (v2 : Nat) (v3 : Int32) (v4 : Int32) (v5 : Int32) (v6 : Int32) : Option ((Int32 × Int32 × Hp) ⊕ (Int32 × Hp)) :=
  MX5_spell_140 h v0 v2 v3 v4 v5 v6 (0 : Int32)
set_option maxRecDepth 100000 in
set_option maxHeartbeats 8000000 in
theorem kX5_spell_139 {d : Nat} {h : Hp} {v0 : Nat} {v2 : Nat} {v3 : Int32} {v4 : Int32} {v5 : Int32} {v6 : Int32} {r : Int32} {h9 : Hp} {x : ((Int32 × Int32 × Hp) ⊕ (Int32 × Hp))} (H : MX5_spell_139 h v0 v2 v3 v4 v5 v6 = some x) (hb0 : ∀ s : Int32 × Int32 × Hp, x = .inl s → J (d + 1) YX5_spell 36 [.ref v0, Value.null, .ref v2, .int v3, .int s.1, .int s.2.1, Value.null, Value.null] [] s.2.2 (oI r) h9) (hx : ∀ z : (Int32 × Hp), x = .inr (z) → z = (r, h9)) : J (d + 1) YX5_spell 139 [.ref v0, Value.null, .ref v2, .int v3, .int v4, .int v5, .int v6, Value.null] [] h (oI r) h9 := by
  unfold MX5_spell_139 at H
  refine J_iconst (0 : Int32) dX5_spell_139 kc_0 ?_
  exact J_dr (kX5_spell_140 H hb0 hx) ⟨rfl, ⟨rfl, ⟨rfl, ⟨rfl, ⟨rfl, ⟨rfl, trivial⟩⟩⟩⟩⟩⟩
noncomputable def MX5_spell_117 (h : Hp) (v0 : Nat) (v2 : Nat) (v3 : Int32) (v4 : Int32) (v5 : Int32) (s0 : Int32) : Option ((Int32 × Int32 × Hp) ⊕ (Int32 × Hp)) :=
  if v5 = v3 then
    gg (β := ((Int32 × Int32 × Hp) ⊕ (Int32 × Hp))) (kd h v0 = 4) <|
    gg (β := ((Int32 × Int32 × Hp) ⊕ (Int32 × Hp))) (kd h (gP h v0 2) = 22) <|
    gg (β := ((Int32 × Int32 × Hp) ⊕ (Int32 × Hp))) (inB v5 (ln h (gP h v0 2)) = true) <|
    if (gI h (gP h v0 2) v5.toNatClampNeg) = 0 then
      MX5_spell_140 h v0 v2 v3 v4 v5 s0 (1 : Int32)
    else
      MX5_spell_139 h v0 v2 v3 v4 v5 s0
  else
    MX5_spell_139 h v0 v2 v3 v4 v5 s0
set_option maxRecDepth 100000 in
set_option maxHeartbeats 8000000 in
theorem kX5_spell_117 {d : Nat} {h : Hp} {v0 : Nat} {v2 : Nat} {v3 : Int32} {v4 : Int32} {v5 : Int32} {s0 : Int32} {r : Int32} {h9 : Hp} {x : ((Int32 × Int32 × Hp) ⊕ (Int32 × Hp))} (H : MX5_spell_117 h v0 v2 v3 v4 v5 s0 = some x) (hb0 : ∀ s : Int32 × Int32 × Hp, x = .inl s → J (d + 1) YX5_spell 36 [.ref v0, Value.null, .ref v2, .int v3, .int s.1, .int s.2.1, Value.null, Value.null] [] s.2.2 (oI r) h9) (hx : ∀ z : (Int32 × Hp), x = .inr (z) → z = (r, h9)) : J (d + 1) YX5_spell 117 [.ref v0, Value.null, .ref v2, .int v3, .int v4, .int v5, Value.null, Value.null] [.int s0] h (oI r) h9 := by
  unfold MX5_spell_117 at H
  refine J_istore dX5_spell_117 (by decide) (ls' := [.ref v0, Value.null, .ref v2, .int v3, .int v4, .int v5, .int s0, Value.null]) rfl ?_
  refine J_iload dX5_spell_119 rfl ?_
  refine J_iload_n 3 dX5_spell_121 rfl rfl ?_
  refine J_icmp_ne 139 dX5_spell_122 rfl (fun q18 => ?_) (fun q18 => ?_)
  · replace H := br0 q18 H
    exact J_dr (kX5_spell_139 H hb0 hx) ⟨rfl, ⟨rfl, ⟨rfl, ⟨rfl, ⟨rfl, ⟨rfl, trivial⟩⟩⟩⟩⟩⟩
  · replace H := br1 q18 H
    refine J_aload_n 0 dX5_spell_125 rfl rfl ?_
    obtain ⟨g31, H⟩ := gd H
    refine J_gP 4 2 dX5_spell_126 g31 flX5_19 rfl rfl ?_
    refine J_iload dX5_spell_129 rfl ?_
    obtain ⟨g32, H⟩ := gd H
    obtain ⟨g33, H⟩ := gd H
    refine J_zald dX5_spell_131 g32 (inB_ok g33) ?_
    refine J_if_ne 139 dX5_spell_132 rfl (fun q34 => ?_) (fun q34 => ?_)
    · replace H := br0 q34 H
      exact J_dr (kX5_spell_139 H hb0 hx) ⟨rfl, ⟨rfl, ⟨rfl, ⟨rfl, ⟨rfl, ⟨rfl, trivial⟩⟩⟩⟩⟩⟩
    · replace H := br1 q34 H
      refine J_iconst (1 : Int32) dX5_spell_135 kc_1 ?_
      refine J_goto 140 dX5_spell_136 rfl ?_
      exact J_dr (kX5_spell_140 H hb0 hx) ⟨rfl, ⟨rfl, ⟨rfl, ⟨rfl, ⟨rfl, ⟨rfl, trivial⟩⟩⟩⟩⟩⟩
noncomputable def MX5_spell_116 (h : Hp) (v0 : Nat) (v2 : Nat) (v3 : Int32) (v4 : Int32) (v5 : Int32) : Option ((Int32 × Int32 × Hp) ⊕ (Int32 × Hp)) :=
  MX5_spell_117 h v0 v2 v3 v4 v5 (0 : Int32)
set_option maxRecDepth 100000 in
set_option maxHeartbeats 8000000 in
theorem kX5_spell_116 {d : Nat} {h : Hp} {v0 : Nat} {v2 : Nat} {v3 : Int32} {v4 : Int32} {v5 : Int32} {r : Int32} {h9 : Hp} {x : ((Int32 × Int32 × Hp) ⊕ (Int32 × Hp))} (H : MX5_spell_116 h v0 v2 v3 v4 v5 = some x) (hb0 : ∀ s : Int32 × Int32 × Hp, x = .inl s → J (d + 1) YX5_spell 36 [.ref v0, Value.null, .ref v2, .int v3, .int s.1, .int s.2.1, Value.null, Value.null] [] s.2.2 (oI r) h9) (hx : ∀ z : (Int32 × Hp), x = .inr (z) → z = (r, h9)) : J (d + 1) YX5_spell 116 [.ref v0, Value.null, .ref v2, .int v3, .int v4, .int v5, Value.null, Value.null] [] h (oI r) h9 := by
  unfold MX5_spell_116 at H
  refine J_iconst (0 : Int32) dX5_spell_116 kc_0 ?_
  exact J_dr (kX5_spell_117 H hb0 hx) ⟨rfl, ⟨rfl, ⟨rfl, ⟨rfl, ⟨rfl, trivial⟩⟩⟩⟩⟩
noncomputable def MX5_spell_96 (h : Hp) (v0 : Nat) (v2 : Nat) (v3 : Int32) (v4 : Int32) (v5 : Int32) : Option ((Int32 × Int32 × Hp) ⊕ (Int32 × Hp)) :=
  if v3 ≤ v5 then
    MX5_spell_116 h v0 v2 v3 v4 v5
  else
    gg (β := ((Int32 × Int32 × Hp) ⊕ (Int32 × Hp))) (kd h v0 = 4) <|
    gg (β := ((Int32 × Int32 × Hp) ⊕ (Int32 × Hp))) (kd h (gP h v0 2) = 22) <|
    gg (β := ((Int32 × Int32 × Hp) ⊕ (Int32 × Hp))) (inB v5 (ln h (gP h v0 2)) = true) <|
    if (gI h (gP h v0 2) v5.toNatClampNeg) = 0 then
      MX5_spell_116 h v0 v2 v3 v4 v5
    else
      MX5_spell_117 h v0 v2 v3 v4 v5 (1 : Int32)
set_option maxRecDepth 100000 in
set_option maxHeartbeats 8000000 in
theorem kX5_spell_96 {d : Nat} {h : Hp} {v0 : Nat} {v2 : Nat} {v3 : Int32} {v4 : Int32} {v5 : Int32} {r : Int32} {h9 : Hp} {x : ((Int32 × Int32 × Hp) ⊕ (Int32 × Hp))} (H : MX5_spell_96 h v0 v2 v3 v4 v5 = some x) (hb0 : ∀ s : Int32 × Int32 × Hp, x = .inl s → J (d + 1) YX5_spell 36 [.ref v0, Value.null, .ref v2, .int v3, .int s.1, .int s.2.1, Value.null, Value.null] [] s.2.2 (oI r) h9) (hx : ∀ z : (Int32 × Hp), x = .inr (z) → z = (r, h9)) : J (d + 1) YX5_spell 96 [.ref v0, Value.null, .ref v2, .int v3, .int v4, .int v5, Value.null, Value.null] [] h (oI r) h9 := by
  unfold MX5_spell_96 at H
  refine J_iload dX5_spell_96 rfl ?_
  refine J_iload_n 3 dX5_spell_98 rfl rfl ?_
  refine J_icmp_ge 116 dX5_spell_99 rfl (fun q17 => ?_) (fun q17 => ?_)
  · replace H := br1 q17 H
    exact J_dr (kX5_spell_116 H hb0 hx) ⟨rfl, ⟨rfl, ⟨rfl, ⟨rfl, ⟨rfl, trivial⟩⟩⟩⟩⟩
  · replace H := br0 q17 H
    refine J_aload_n 0 dX5_spell_102 rfl rfl ?_
    obtain ⟨g35, H⟩ := gd H
    refine J_gP 4 2 dX5_spell_103 g35 flX5_19 rfl rfl ?_
    refine J_iload dX5_spell_106 rfl ?_
    obtain ⟨g36, H⟩ := gd H
    obtain ⟨g37, H⟩ := gd H
    refine J_zald dX5_spell_108 g36 (inB_ok g37) ?_
    refine J_if_eq 116 dX5_spell_109 rfl (fun q38 => ?_) (fun q38 => ?_)
    · replace H := br1 q38 H
      exact J_dr (kX5_spell_116 H hb0 hx) ⟨rfl, ⟨rfl, ⟨rfl, ⟨rfl, ⟨rfl, trivial⟩⟩⟩⟩⟩
    · replace H := br0 q38 H
      refine J_iconst (1 : Int32) dX5_spell_112 kc_1 ?_
      refine J_goto 117 dX5_spell_113 rfl ?_
      exact J_dr (kX5_spell_117 H hb0 hx) ⟨rfl, ⟨rfl, ⟨rfl, ⟨rfl, ⟨rfl, trivial⟩⟩⟩⟩⟩
noncomputable def BX5_spell_51 (h : Hp) (v0 : Nat) (v2 : Nat) (v3 : Int32) (v4 : Int32) (v5 : Int32) (v6 : Int32) : Option ((Int32 × Int32 × Hp) ⊕ ((Int32 × Int32 × Hp) ⊕ (Int32 × Hp))) :=
  gg (β := ((Int32 × Int32 × Hp) ⊕ ((Int32 × Int32 × Hp) ⊕ (Int32 × Hp)))) (kd h v0 = 4) <|
  gg (β := ((Int32 × Int32 × Hp) ⊕ ((Int32 × Int32 × Hp) ⊕ (Int32 × Hp)))) (kd h (gP h v0 1) = 20) <|
  gg (β := ((Int32 × Int32 × Hp) ⊕ ((Int32 × Int32 × Hp) ⊕ (Int32 × Hp)))) (inB (v5 + (1 : Int32)) (ln h (gP h v0 1)) = true) <|
  if (gI h (gP h v0 1) (v5 + (1 : Int32)).toNatClampNeg) ≤ v6 then
    up1 (MX5_spell_96 h v0 v2 v3 v4 v5)
  else
    gg (β := ((Int32 × Int32 × Hp) ⊕ ((Int32 × Int32 × Hp) ⊕ (Int32 × Hp)))) (kd h v2 = 21) <|
    if (nI (ln h v2)) ≤ v4 then
      up1 (MX5_spell_96 h v0 v2 v3 v4 v5)
    else
      gg (β := ((Int32 × Int32 × Hp) ⊕ ((Int32 × Int32 × Hp) ⊕ (Int32 × Hp)))) (kd h (gP h v0 0) = 21) <|
      gg (β := ((Int32 × Int32 × Hp) ⊕ ((Int32 × Int32 × Hp) ⊕ (Int32 × Hp)))) (inB v6 (ln h (gP h v0 0)) = true) <|
      gg (β := ((Int32 × Int32 × Hp) ⊕ ((Int32 × Int32 × Hp) ⊕ (Int32 × Hp)))) (inB v4 (ln h v2) = true) <|
      lt (α := Hp) (β := Option ((Int32 × Int32 × Hp) ⊕ ((Int32 × Int32 × Hp) ⊕ (Int32 × Hp)))) (sI h v2 v4.toNatClampNeg (vp_nar .byte (((97 : Int32) + (gI h (gP h v0 0) v6.toNatClampNeg)).toInt8.toInt32))) fun (h44 : Hp) =>
      some (.inl ((v4 + (1 : Int32)), (v6 + (1 : Int32)), h44))
set_option maxRecDepth 100000 in
set_option maxHeartbeats 8000000 in
theorem bX5_spell_51 {d : Nat} {h : Hp} {v0 : Nat} {v2 : Nat} {v3 : Int32} {v4 : Int32} {v5 : Int32} {v6 : Int32} {r : Int32} {h9 : Hp} {x : ((Int32 × Int32 × Hp) ⊕ ((Int32 × Int32 × Hp) ⊕ (Int32 × Hp)))} (H : BX5_spell_51 h v0 v2 v3 v4 v5 v6 = some x) (hb0 : ∀ s : Int32 × Int32 × Hp, x = .inl s → J (d + 1) YX5_spell 51 [.ref v0, Value.null, .ref v2, .int v3, .int s.1, .int v5, .int s.2.1, Value.null] [] s.2.2 (oI r) h9) (hb1 : ∀ s : Int32 × Int32 × Hp, x = .inr (.inl s) → J (d + 1) YX5_spell 36 [.ref v0, Value.null, .ref v2, .int v3, .int s.1, .int s.2.1, Value.null, Value.null] [] s.2.2 (oI r) h9) (hx : ∀ z : (Int32 × Hp), x = .inr (.inr (z)) → z = (r, h9)) : J (d + 1) YX5_spell 51 [.ref v0, Value.null, .ref v2, .int v3, .int v4, .int v5, .int v6, Value.null] [] h (oI r) h9 := by
  unfold BX5_spell_51 at H
  refine J_iload dX5_spell_51 rfl ?_
  refine J_aload_n 0 dX5_spell_53 rfl rfl ?_
  obtain ⟨g13, H⟩ := gd H
  refine J_gP 4 1 dX5_spell_54 g13 flX5_15 rfl rfl ?_
  refine J_iload dX5_spell_57 rfl ?_
  refine J_iconst (1 : Int32) dX5_spell_59 kc_1 ?_
  refine J_iadd dX5_spell_60 ?_
  obtain ⟨g14, H⟩ := gd H
  obtain ⟨g15, H⟩ := gd H
  refine J_iald dX5_spell_61 g14 (inB_ok g15) ?_
  refine J_icmp_ge 96 dX5_spell_62 rfl (fun q16 => ?_) (fun q16 => ?_)
  · replace H := br1 q16 H
    obtain ⟨y0, H90, rfl⟩ := up1_el H
    replace H := H90
    exact J_dr (kX5_spell_96 H (fun s hs => hb1 s (congrArg Sum.inr hs)) (fun s hs => hx s (congrArg Sum.inr hs))) ⟨rfl, ⟨rfl, ⟨rfl, ⟨rfl, ⟨rfl, trivial⟩⟩⟩⟩⟩
  · replace H := br0 q16 H
    refine J_iload dX5_spell_65 rfl ?_
    refine J_aload_n 2 dX5_spell_67 rfl rfl ?_
    obtain ⟨g39, H⟩ := gd H
    refine J_len 21 dX5_spell_68 g39 rfl ?_
    refine J_icmp_ge 96 dX5_spell_69 rfl (fun q40 => ?_) (fun q40 => ?_)
    · replace H := br1 q40 H
      obtain ⟨y0, H90, rfl⟩ := up1_el H
      replace H := H90
      exact J_dr (kX5_spell_96 H (fun s hs => hb1 s (congrArg Sum.inr hs)) (fun s hs => hx s (congrArg Sum.inr hs))) ⟨rfl, ⟨rfl, ⟨rfl, ⟨rfl, ⟨rfl, trivial⟩⟩⟩⟩⟩
    · replace H := br0 q40 H
      refine J_aload_n 2 dX5_spell_72 rfl rfl ?_
      refine J_iload dX5_spell_73 rfl ?_
      refine J_bipush (97 : Int32) dX5_spell_75 kb_97 ?_
      refine J_aload_n 0 dX5_spell_77 rfl rfl ?_
      refine J_gP 4 0 dX5_spell_78 g13 flX5_9 rfl rfl ?_
      refine J_iload dX5_spell_81 rfl ?_
      obtain ⟨g41, H⟩ := gd H
      obtain ⟨g42, H⟩ := gd H
      refine J_bald dX5_spell_83 g41 (inB_ok g42) ?_
      refine J_iadd dX5_spell_84 ?_
      refine J_i2b dX5_spell_85 ?_
      obtain ⟨g43, H⟩ := gd H
      obtain ⟨h44, e45, H⟩ := lt_el H
      refine J_sB dX5_spell_86 g39 (inB_ok g43) e45 ?_
      have c46 := ekI e45
      have c47 := elI e45
      have c48 := epI e45
      refine J_iinc (v4 + (1 : Int32)) dX5_spell_87 rfl (congrArg (HAdd.hAdd v4) kc_1) (by decide) (ls' := [.ref v0, Value.null, .ref v2, .int v3, .int (v4 + (1 : Int32)), .int v5, .int v6, Value.null]) rfl ?_
      refine J_iinc (v6 + (1 : Int32)) dX5_spell_90 rfl (congrArg (HAdd.hAdd v6) kc_1) (by decide) (ls' := [.ref v0, Value.null, .ref v2, .int v3, .int (v4 + (1 : Int32)), .int v5, .int (v6 + (1 : Int32)), Value.null]) rfl ?_
      refine J_goto 51 dX5_spell_93 rfl ?_
      cases H
      exact J_dr (hb0 _ rfl) ⟨rfl, ⟨rfl, ⟨rfl, ⟨rfl, ⟨rfl, ⟨rfl, trivial⟩⟩⟩⟩⟩⟩
noncomputable def MX5_spell_51 (h : Hp) (v0 : Nat) (v2 : Nat) (v3 : Int32) (v4 : Int32) (v5 : Int32) (v6 : Int32) : Option ((Int32 × Int32 × Hp) ⊕ (Int32 × Hp)) := it (fun q : Int32 × Int32 × Hp => BX5_spell_51 q.2.2 v0 v2 v3 q.1 v5 q.2.1) (v4, v6, h)
set_option maxRecDepth 100000 in
set_option maxHeartbeats 8000000 in
theorem kX5_spell_51 {d : Nat} {h : Hp} {v0 : Nat} {v2 : Nat} {v3 : Int32} {v4 : Int32} {v5 : Int32} {v6 : Int32} {r : Int32} {h9 : Hp} {x : ((Int32 × Int32 × Hp) ⊕ (Int32 × Hp))} (H : MX5_spell_51 h v0 v2 v3 v4 v5 v6 = some x) (hb0 : ∀ s : Int32 × Int32 × Hp, x = .inl s → J (d + 1) YX5_spell 36 [.ref v0, Value.null, .ref v2, .int v3, .int s.1, .int s.2.1, Value.null, Value.null] [] s.2.2 (oI r) h9) (hx : ∀ z : (Int32 × Hp), x = .inr (z) → z = (r, h9)) : J (d + 1) YX5_spell 51 [.ref v0, Value.null, .ref v2, .int v3, .int v4, .int v5, .int v6, Value.null] [] h (oI r) h9 := by
  unfold MX5_spell_51 at H
  refine it_J (G := (fun q : Int32 × Int32 × Hp => J (d + 1) YX5_spell 51 [.ref v0, Value.null, .ref v2, .int v3, .int q.1, .int v5, .int q.2.1, Value.null] [] q.2.2 (oI r) h9)) (Q := (fun y : ((Int32 × Int32 × Hp) ⊕ (Int32 × Hp)) => (∀ s : Int32 × Int32 × Hp, y = .inl s → J (d + 1) YX5_spell 36 [.ref v0, Value.null, .ref v2, .int v3, .int s.1, .int s.2.1, Value.null, Value.null] [] s.2.2 (oI r) h9) ∧ (∀ z : (Int32 × Hp), y = .inr (z) → z = (r, h9)))) (fun q x Hq hm => ?_) H ⟨hb0, hx⟩
  exact bX5_spell_51 Hq (fun s hs => by subst hs; exact hm) (fun s hs => by subst hs; exact (hm.1) s rfl) (fun z hz => by subst hz; exact (hm.2) z rfl)
noncomputable def BX5_spell_36 (h : Hp) (v0 : Nat) (v2 : Nat) (v3 : Int32) (v4 : Int32) (v5 : Int32) : Option ((Int32 × Int32 × Hp) ⊕ (Int32 × Hp)) :=
  if v3 < v5 then
    some (.inr ((v4, h)))
  else
    gg (β := ((Int32 × Int32 × Hp) ⊕ (Int32 × Hp))) (kd h v0 = 4) <|
    gg (β := ((Int32 × Int32 × Hp) ⊕ (Int32 × Hp))) (kd h (gP h v0 1) = 20) <|
    gg (β := ((Int32 × Int32 × Hp) ⊕ (Int32 × Hp))) (inB v5 (ln h (gP h v0 1)) = true) <|
    MX5_spell_51 h v0 v2 v3 v4 v5 (gI h (gP h v0 1) v5.toNatClampNeg)
set_option maxRecDepth 100000 in
set_option maxHeartbeats 8000000 in
theorem bX5_spell_36 {d : Nat} {h : Hp} {v0 : Nat} {v2 : Nat} {v3 : Int32} {v4 : Int32} {v5 : Int32} {r : Int32} {h9 : Hp} {x : ((Int32 × Int32 × Hp) ⊕ (Int32 × Hp))} (H : BX5_spell_36 h v0 v2 v3 v4 v5 = some x) (hb0 : ∀ s : Int32 × Int32 × Hp, x = .inl s → J (d + 1) YX5_spell 36 [.ref v0, Value.null, .ref v2, .int v3, .int s.1, .int s.2.1, Value.null, Value.null] [] s.2.2 (oI r) h9) (hx : ∀ z : (Int32 × Hp), x = .inr (z) → z = (r, h9)) : J (d + 1) YX5_spell 36 [.ref v0, Value.null, .ref v2, .int v3, .int v4, .int v5, Value.null, Value.null] [] h (oI r) h9 := by
  unfold BX5_spell_36 at H
  refine J_iload dX5_spell_36 rfl ?_
  refine J_iload_n 3 dX5_spell_38 rfl rfl ?_
  refine J_icmp_gt 185 dX5_spell_39 rfl (fun q9 => ?_) (fun q9 => ?_)
  · replace H := br1 q9 H
    refine J_iload dX5_spell_185 rfl ?_
    cases H
    cases hx _ rfl
    exact J_iretI dX5_spell_187 rfl
  · replace H := br0 q9 H
    refine J_aload_n 0 dX5_spell_42 rfl rfl ?_
    obtain ⟨g10, H⟩ := gd H
    refine J_gP 4 1 dX5_spell_43 g10 flX5_15 rfl rfl ?_
    refine J_iload dX5_spell_46 rfl ?_
    obtain ⟨g11, H⟩ := gd H
    obtain ⟨g12, H⟩ := gd H
    refine J_iald dX5_spell_48 g11 (inB_ok g12) ?_
    refine J_istore dX5_spell_49 (by decide) (ls' := [.ref v0, Value.null, .ref v2, .int v3, .int v4, .int v5, .int (gI h (gP h v0 1) v5.toNatClampNeg), Value.null]) rfl ?_
    exact J_dr (kX5_spell_51 H hb0 hx) ⟨rfl, ⟨rfl, ⟨rfl, ⟨rfl, ⟨rfl, ⟨rfl, trivial⟩⟩⟩⟩⟩⟩
noncomputable def MX5_spell_36 (h : Hp) (v0 : Nat) (v2 : Nat) (v3 : Int32) (v4 : Int32) (v5 : Int32) : Option (Int32 × Hp) := it (fun q : Int32 × Int32 × Hp => BX5_spell_36 q.2.2 v0 v2 v3 q.1 q.2.1) (v4, v5, h)
set_option maxRecDepth 100000 in
set_option maxHeartbeats 8000000 in
theorem kX5_spell_36 {d : Nat} {h : Hp} {v0 : Nat} {v2 : Nat} {v3 : Int32} {v4 : Int32} {v5 : Int32} {r : Int32} {h9 : Hp} (H : MX5_spell_36 h v0 v2 v3 v4 v5 = some (r, h9)) : J (d + 1) YX5_spell 36 [.ref v0, Value.null, .ref v2, .int v3, .int v4, .int v5, Value.null, Value.null] [] h (oI r) h9 := by
  unfold MX5_spell_36 at H
  refine it_J (G := (fun q : Int32 × Int32 × Hp => J (d + 1) YX5_spell 36 [.ref v0, Value.null, .ref v2, .int v3, .int q.1, .int q.2.1, Value.null, Value.null] [] q.2.2 (oI r) h9)) (Q := (fun y : (Int32 × Hp) => y = (r, h9))) (fun q x Hq hm => ?_) H rfl
  exact bX5_spell_36 Hq (fun s hs => by subst hs; exact hm) (fun z hz => by subst hz; exact hm)
noncomputable def MX5_spell (h : Hp) (v0 : Nat) (v1 : Int32) (v2 : Nat) : Option (Int32 × Hp) :=
  gg (β := (Int32 × Hp)) (kd h v0 = 4) <|
  Option.bind (α := Int32) (β := (Int32 × Hp)) (MX5_hasLine h v0 v1) fun (t3 : Int32) =>
  if t3 = 0 then
    some ((0 : Int32), h)
  else
    gg (β := (Int32 × Hp)) (kd h (gP h v0 3) = 20) <|
    gg (β := (Int32 × Hp)) (inB v1 (ln h (gP h v0 3)) = true) <|
    Option.bind (α := Int32) (β := (Int32 × Hp)) (MX5_firstBitOfLine h v0 v1) fun (t8 : Int32) =>
    MX5_spell_36 h v0 v2 (jmin (gI h (gP h v0 3) v1.toNatClampNeg) ((gI h v0 5) - (1 : Int32))) (0 : Int32) t8
set_option maxRecDepth 100000 in
set_option maxHeartbeats 8000000 in
theorem eX5_spell {d : Nat} {h : Hp} {v0 : Nat} {v1 : Int32} {v2 : Nat} {r : Int32} {h9 : Hp} (H : MX5_spell h v0 v1 v2 = some (r, h9)) : J (d + 1) YX5_spell 0 [.ref v0, .int v1, .ref v2, Value.null, Value.null, Value.null, Value.null, Value.null] [] h (oI r) h9 := by
  unfold MX5_spell at H
  refine J_aload_n 0 dX5_spell_0 rfl rfl ?_
  refine J_iload_n 1 dX5_spell_1 rfl rfl ?_
  obtain ⟨g2, H⟩ := gd H
  obtain ⟨t3, e1, H⟩ := bd H
  refine J_cV (as := [.int v1]) 4 YX5_hasLine 1 dX5_spell_2 moX5_hasLine mvX5_hasLine mlX5_98 g2 rfl rfl (okX5_hasLine (d := d) e1) rfl rfl [] rfl rfl (st2 := [.int t3]) rfl ?_
  refine J_if_ne 10 dX5_spell_5 rfl (fun q4 => ?_) (fun q4 => ?_)
  · replace H := br0 q4 H
    refine J_aload_n 0 dX5_spell_10 rfl rfl ?_
    refine J_gP 4 3 dX5_spell_11 g2 flX5_23 rfl rfl ?_
    refine J_iload_n 1 dX5_spell_14 rfl rfl ?_
    obtain ⟨g5, H⟩ := gd H
    obtain ⟨g6, H⟩ := gd H
    refine J_iald dX5_spell_15 g5 (inB_ok g6) ?_
    refine J_aload_n 0 dX5_spell_16 rfl rfl ?_
    refine J_getI 4 5 dX5_spell_17 g2 flX5_29 rfl ?_
    refine J_iconst (1 : Int32) dX5_spell_20 kc_1 ?_
    refine J_isub dX5_spell_21 ?_
    refine J_mn dX5_spell_22 mlX5_101 rfl ?_
    refine J_istore_n 3 dX5_spell_25 rfl (by decide) (ls' := [.ref v0, .int v1, .ref v2, .int (jmin (gI h (gP h v0 3) v1.toNatClampNeg) ((gI h v0 5) - (1 : Int32))), Value.null, Value.null, Value.null, Value.null]) rfl ?_
    refine J_iconst (0 : Int32) dX5_spell_26 kc_0 ?_
    refine J_istore dX5_spell_27 (by decide) (ls' := [.ref v0, .int v1, .ref v2, .int (jmin (gI h (gP h v0 3) v1.toNatClampNeg) ((gI h v0 5) - (1 : Int32))), .int (0 : Int32), Value.null, Value.null, Value.null]) rfl ?_
    refine J_aload_n 0 dX5_spell_29 rfl rfl ?_
    refine J_iload_n 1 dX5_spell_30 rfl rfl ?_
    obtain ⟨t8, e7, H⟩ := bd H
    refine J_cV (as := [.int v1]) 4 YX5_firstBitOfLine 1 dX5_spell_31 moX5_firstBitOfLine mvX5_firstBitOfLine mlX5_107 g2 rfl rfl (okX5_firstBitOfLine (d := d) e7) rfl rfl [] rfl rfl (st2 := [.int t8]) rfl ?_
    refine J_istore dX5_spell_34 (by decide) (ls' := [.ref v0, .int v1, .ref v2, .int (jmin (gI h (gP h v0 3) v1.toNatClampNeg) ((gI h v0 5) - (1 : Int32))), .int (0 : Int32), .int t8, Value.null, Value.null]) rfl ?_
    exact J_dr (kX5_spell_36 H ) ⟨rfl, ⟨rfl, ⟨rfl, ⟨rfl, ⟨rfl, trivial⟩⟩⟩⟩⟩
  · replace H := br1 q4 H
    refine J_iconst (0 : Int32) dX5_spell_8 kc_0 ?_
    cases H
    exact J_iretI dX5_spell_9 rfl
theorem okX5_spell {d : Nat} {h : Hp} {v0 : Nat} {v1 : Int32} {v2 : Nat} {r : Int32} {h9 : Hp} (H : MX5_spell h v0 v1 v2 = some (r, h9)) : CT (d + 1) YX5_spell [.ref v0, .int v1, .ref v2] h (oI r) h9 := CT_of (by decide +kernel) (Nat.le_of_ble_eq_true rfl) (eX5_spell H)
noncomputable def MX7_findSlug (h : Hp) (v0 : Nat) (v1 : Int32) : Option Nat :=
  if v1 < 0 then
    some 0
  else
    gg (β := Nat) (kd h v0 = 6) <|
    if v1 < (gI h v0 11) then
      gg (β := Nat) (kd h (gP h v0 10) = 28) <|
      gg (β := Nat) (inB v1 (ln h (gP h v0 10)) = true) <|
      some (gP h (gP h v0 10) v1.toNatClampNeg)
    else
      some 0
set_option maxRecDepth 100000 in
set_option maxHeartbeats 8000000 in
theorem eX7_findSlug {d : Nat} {h : Hp} {v0 : Nat} {v1 : Int32} {r : Nat} (H : MX7_findSlug h v0 v1 = some r) : J (d) YX7_findSlug 0 [.ref v0, .int v1] [] h (oA r) h := by
  unfold MX7_findSlug at H
  refine J_iload_n 1 dX7_findSlug_0 rfl rfl ?_
  refine J_if_lt 12 dX7_findSlug_1 rfl (fun q1 => ?_) (fun q1 => ?_)
  · replace H := br1 q1 H
    refine J_null dX7_findSlug_12 ?_
    refine J_goto 22 dX7_findSlug_13 rfl ?_
    cases H
    exact J_aret dX7_findSlug_22 rfl (Or.inl ⟨_, rfl⟩)
  · replace H := br0 q1 H
    refine J_iload_n 1 dX7_findSlug_4 rfl rfl ?_
    refine J_aload_n 0 dX7_findSlug_5 rfl rfl ?_
    obtain ⟨g2, H⟩ := gd H
    refine J_getI 6 11 dX7_findSlug_6 g2 flX7_60 rfl ?_
    refine J_icmp_lt 16 dX7_findSlug_9 rfl (fun q3 => ?_) (fun q3 => ?_)
    · replace H := br1 q3 H
      refine J_aload_n 0 dX7_findSlug_16 rfl rfl ?_
      refine J_gP 6 10 dX7_findSlug_17 g2 flX7_56 rfl rfl ?_
      refine J_iload_n 1 dX7_findSlug_20 rfl rfl ?_
      obtain ⟨g4, H⟩ := gd H
      obtain ⟨g5, H⟩ := gd H
      refine J_lP 28 dX7_findSlug_21 g4 rfl (inB_ok g5) rfl ?_
      cases H
      exact J_aret dX7_findSlug_22 rfl (Or.inl ⟨_, rfl⟩)
    · replace H := br0 q3 H
      refine J_null dX7_findSlug_12 ?_
      refine J_goto 22 dX7_findSlug_13 rfl ?_
      cases H
      exact J_aret dX7_findSlug_22 rfl (Or.inl ⟨_, rfl⟩)
theorem okX7_findSlug {d : Nat} {h : Hp} {v0 : Nat} {v1 : Int32} {r : Nat} (H : MX7_findSlug h v0 v1 = some r) : CT (d) YX7_findSlug [.ref v0, .int v1] h (oA r) h := CT_of (by decide +kernel) (Nat.le_of_ble_eq_true rfl) (eX7_findSlug H)
noncomputable def MX7_layAt (h : Hp) (v0 : Nat) (v1 : Int32) (v2 : Int32) (v3 : Int32) : Option Hp :=
  gg (β := Hp) (kd h v0 = 6) <|
  Option.bind (α := Nat) (β := Hp) (MX7_findSlug h v0 v1) fun (t3 : Nat) =>
  Option.bind (α := Nat) (β := Hp) (MX7_findPart h v0 v2) fun (t5 : Nat) =>
  if t3 = 0 then
    some h
  else
    if t5 = 0 then
      some h
    else
      gg (β := Hp) (kd h t5 = 4) <|
      Option.bind (α := Int32) (β := Hp) (MX5_hasLine h t5 v3) fun (t10 : Int32) =>
      if t10 = 0 then
        some h
      else
        gg (β := Hp) (kd h t3 = 7) <|
        lt (α := Hp) (β := Option Hp) (sI h t3 10 (0 : Int32)) fun (h13 : Hp) =>
        lt (α := Hp) (β := Option Hp) (sI h13 t3 12 v2) fun (h18 : Hp) =>
        lt (α := Hp) (β := Option Hp) (sI h18 t3 11 v3) fun (h23 : Hp) =>
        gg (β := Hp) (kd h (gP h t5 4) = 20) <|
        gg (β := Hp) (inB v3 (ln h (gP h t5 4)) = true) <|
        lt (α := Hp) (β := Option Hp) (sI h23 (gP h t5 4) v3.toNatClampNeg v1) fun (h30 : Hp) =>
        some h30
set_option maxRecDepth 100000 in
set_option maxHeartbeats 8000000 in
theorem eX7_layAt {d : Nat} {h : Hp} {v0 : Nat} {v1 : Int32} {v2 : Int32} {v3 : Int32} {h9 : Hp} (H : MX7_layAt h v0 v1 v2 v3 = some h9) : J (d + 1) YX7_layAt 0 [.ref v0, .int v1, .int v2, .int v3, Value.null, Value.null] [] h oV h9 := by
  unfold MX7_layAt at H
  refine J_aload_n 0 dX7_layAt_0 rfl rfl ?_
  refine J_iload_n 1 dX7_layAt_1 rfl rfl ?_
  obtain ⟨g2, H⟩ := gd H
  obtain ⟨t3, e1, H⟩ := bd H
  refine J_cV (as := [.int v1]) 6 YX7_findSlug 1 dX7_layAt_2 moX7_findSlug mvX7_findSlug mlX7_315 g2 rfl rfl (okX7_findSlug (d := d) e1) rfl rfl [] rfl rfl (st2 := [.ref t3]) rfl ?_
  refine J_astore dX7_layAt_5 (by decide) (ls' := [.ref v0, .int v1, .int v2, .int v3, .ref t3, Value.null]) rfl ?_
  refine J_aload_n 0 dX7_layAt_7 rfl rfl ?_
  refine J_iload_n 2 dX7_layAt_8 rfl rfl ?_
  obtain ⟨t5, e4, H⟩ := bd H
  refine J_cV (as := [.int v2]) 6 YX7_findPart 1 dX7_layAt_9 moX7_findPart mvX7_findPart mlX7_120 g2 rfl rfl (okX7_findPart (d := d) e4) rfl rfl [] rfl rfl (st2 := [.ref t5]) rfl ?_
  refine J_astore dX7_layAt_12 (by decide) (ls' := [.ref v0, .int v1, .int v2, .int v3, .ref t3, .ref t5]) rfl ?_
  refine J_aload dX7_layAt_14 rfl ?_
  refine J_ifnull 33 dX7_layAt_16 rfl (fun q6 => ?_) (fun q6 => ?_)
  · replace H := br1 q6 H
    cases H
    exact J_ret dX7_layAt_33 rfl
  · replace H := br0 q6 H
    refine J_aload dX7_layAt_19 rfl ?_
    refine J_ifnull 33 dX7_layAt_21 rfl (fun q7 => ?_) (fun q7 => ?_)
    · replace H := br1 q7 H
      cases H
      exact J_ret dX7_layAt_33 rfl
    · replace H := br0 q7 H
      refine J_aload dX7_layAt_24 rfl ?_
      refine J_iload_n 3 dX7_layAt_26 rfl rfl ?_
      obtain ⟨g9, H⟩ := gd H
      obtain ⟨t10, e8, H⟩ := bd H
      refine J_cV (as := [.int v3]) 4 YX5_hasLine 1 dX7_layAt_27 moX5_hasLine mvX5_hasLine mlX7_284 g9 rfl rfl (okX5_hasLine (d := d) e8) rfl rfl [] rfl rfl (st2 := [.int t10]) rfl ?_
      refine J_if_ne 34 dX7_layAt_30 rfl (fun q11 => ?_) (fun q11 => ?_)
      · replace H := br0 q11 H
        refine J_aload dX7_layAt_34 rfl ?_
        refine J_iconst (0 : Int32) dX7_layAt_36 kc_0 ?_
        obtain ⟨g12, H⟩ := gd H
        obtain ⟨h13, e14, H⟩ := lt_el H
        refine J_pI 7 10 dX7_layAt_37 g12 flX7_318 rfl rfl e14 ?_
        have c15 := ekI e14
        have c16 := elI e14
        have c17 := epI e14
        refine J_aload dX7_layAt_40 rfl ?_
        refine J_iload_n 2 dX7_layAt_42 rfl rfl ?_
        obtain ⟨h18, e19, H⟩ := lt_el H
        refine J_pI 7 12 dX7_layAt_43 (kq c15 g12) flX7_321 rfl rfl e19 ?_
        have c20 := (ekI e19).trans c15
        have c21 := (elI e19).trans c16
        have c22 := (epI e19).trans c17
        refine J_aload dX7_layAt_46 rfl ?_
        refine J_iload_n 3 dX7_layAt_48 rfl rfl ?_
        obtain ⟨h23, e24, H⟩ := lt_el H
        refine J_pI 7 11 dX7_layAt_49 (kq c20 g12) flX7_324 rfl rfl e24 ?_
        have c25 := (ekI e24).trans c20
        have c26 := (elI e24).trans c21
        have c27 := (epI e24).trans c22
        refine J_aload dX7_layAt_52 rfl ?_
        refine J_gP 4 4 dX7_layAt_54 (kq c25 g9) flX7_327 rfl (congrFun (congrFun c27 t5) 4) ?_
        refine J_iload_n 3 dX7_layAt_57 rfl rfl ?_
        refine J_iload_n 1 dX7_layAt_58 rfl rfl ?_
        obtain ⟨g28, H⟩ := gd H
        obtain ⟨g29, H⟩ := gd H
        obtain ⟨h30, e31, H⟩ := lt_el H
        refine J_sI dX7_layAt_59 (kq c25 g28) (lq c26 g29) e31 ?_
        have c32 := (ekI e31).trans c25
        have c33 := (elI e31).trans c26
        have c34 := (epI e31).trans c27
        cases H
        exact J_ret dX7_layAt_60 rfl
      · replace H := br1 q11 H
        cases H
        exact J_ret dX7_layAt_33 rfl
theorem okX7_layAt {d : Nat} {h : Hp} {v0 : Nat} {v1 : Int32} {v2 : Int32} {v3 : Int32} {h9 : Hp} (H : MX7_layAt h v0 v1 v2 v3 = some h9) : CT (d + 1) YX7_layAt [.ref v0, .int v1, .int v2, .int v3] h oV h9 := CT_of (by decide +kernel) (Nat.le_of_ble_eq_true rfl) (eX7_layAt H)
noncomputable def MX8_init (h : Hp) (v0 : Nat) : Option Hp :=
  gn (β := Hp) (v0 = 0) <|
  lt (α := Hp) (β := Option Hp) (alc h 21 (32)) fun (h2 : Hp) =>
  gg (β := Hp) (kd h2 v0 = 7) <|
  lt (α := Hp) (β := Option Hp) (sP h2 v0 0 (sz h + 1)) fun (h5 : Hp) =>
  lt (α := Hp) (β := Option Hp) (alc h5 21 (32)) fun (h9 : Hp) =>
  gg (β := Hp) (kd h9 v0 = 7) <|
  lt (α := Hp) (β := Option Hp) (sP h9 v0 1 (sz h5 + 1)) fun (h12 : Hp) =>
  lt (α := Hp) (β := Option Hp) (sI h12 v0 2 (0 : Int32)) fun (h16 : Hp) =>
  lt (α := Hp) (β := Option Hp) (sI h16 v0 3 (0 : Int32)) fun (h21 : Hp) =>
  lt (α := Hp) (β := Option Hp) (sI h21 v0 4 (0 : Int32)) fun (h26 : Hp) =>
  lt (α := Hp) (β := Option Hp) (sI h26 v0 5 (-1 : Int32)) fun (h31 : Hp) =>
  lt (α := Hp) (β := Option Hp) (sI h31 v0 6 (0 : Int32)) fun (h36 : Hp) =>
  lt (α := Hp) (β := Option Hp) (sI h36 v0 7 (0 : Int32)) fun (h41 : Hp) =>
  lt (α := Hp) (β := Option Hp) (sI h41 v0 8 (0 : Int32)) fun (h46 : Hp) =>
  lt (α := Hp) (β := Option Hp) (sI h46 v0 9 (0 : Int32)) fun (h51 : Hp) =>
  lt (α := Hp) (β := Option Hp) (sI h51 v0 10 (0 : Int32)) fun (h56 : Hp) =>
  lt (α := Hp) (β := Option Hp) (sI h56 v0 11 (-1 : Int32)) fun (h61 : Hp) =>
  lt (α := Hp) (β := Option Hp) (sI h61 v0 12 (-1 : Int32)) fun (h66 : Hp) =>
  lt (α := Hp) (β := Option Hp) (sI h66 v0 13 (0 : Int32)) fun (h71 : Hp) =>
  lt (α := Hp) (β := Option Hp) (sI h71 v0 14 (0 : Int32)) fun (h76 : Hp) =>
  some h76
set_option maxRecDepth 100000 in
set_option maxHeartbeats 8000000 in
theorem eX8_init {d : Nat} {h : Hp} {v0 : Nat} {h9 : Hp} (H : MX8_init h v0 = some h9) : J (d) YX8_init 0 [.ref v0] [] h oV h9 := by
  unfold MX8_init at H
  refine J_aload_n 0 dX8_init_0 rfl rfl ?_
  obtain ⟨g1, H⟩ := gdn H
  refine J_objI dX8_init_1 mlX8_3 ob_i ob_c g1 (Nat.le_of_ble_eq_true rfl) ?_
  refine J_aload_n 0 dX8_init_4 rfl rfl ?_
  refine J_bipush (32 : Int32) dX8_init_5 kb_32 ?_
  obtain ⟨h2, e3, H⟩ := lt_el H
  refine J_nB (32) dX8_init_7 (by decide) (by decide) (by decide) e3 ?_
  obtain ⟨g4, H⟩ := gd H
  obtain ⟨h5, e6, H⟩ := lt_el H
  refine J_pP 7 0 dX8_init_9 g4 flX8_9 rfl rfl e6 ?_
  have c7 := ekP e6
  have c8 := elP e6
  refine J_aload_n 0 dX8_init_12 rfl rfl ?_
  refine J_bipush (32 : Int32) dX8_init_13 kb_32 ?_
  obtain ⟨h9, e10, H⟩ := lt_el H
  refine J_nB (32) dX8_init_15 (by decide) (by decide) (by decide) e10 ?_
  obtain ⟨g11, H⟩ := gd H
  obtain ⟨h12, e13, H⟩ := lt_el H
  refine J_pP 7 1 dX8_init_17 g11 flX8_15 rfl rfl e13 ?_
  have c14 := ekP e13
  have c15 := elP e13
  refine J_aload_n 0 dX8_init_20 rfl rfl ?_
  refine J_iconst (0 : Int32) dX8_init_21 kc_0 ?_
  obtain ⟨h16, e17, H⟩ := lt_el H
  refine J_pI 7 2 dX8_init_22 (kq c14 g11) flX8_18 rfl rfl e17 ?_
  have c18 := (ekI e17).trans c14
  have c19 := (elI e17).trans c15
  have c20 := epI e17
  refine J_aload_n 0 dX8_init_25 rfl rfl ?_
  refine J_iconst (0 : Int32) dX8_init_26 kc_0 ?_
  obtain ⟨h21, e22, H⟩ := lt_el H
  refine J_pI 7 3 dX8_init_27 (kq c18 g11) flX8_22 rfl rfl e22 ?_
  have c23 := (ekI e22).trans c18
  have c24 := (elI e22).trans c19
  have c25 := (epI e22).trans c20
  refine J_aload_n 0 dX8_init_30 rfl rfl ?_
  refine J_iconst (0 : Int32) dX8_init_31 kc_0 ?_
  obtain ⟨h26, e27, H⟩ := lt_el H
  refine J_pI 7 4 dX8_init_32 (kq c23 g11) flX8_25 rfl rfl e27 ?_
  have c28 := (ekI e27).trans c23
  have c29 := (elI e27).trans c24
  have c30 := (epI e27).trans c25
  refine J_aload_n 0 dX8_init_35 rfl rfl ?_
  refine J_iconst (-1 : Int32) dX8_init_36 kc_m1 ?_
  obtain ⟨h31, e32, H⟩ := lt_el H
  refine J_pI 7 5 dX8_init_37 (kq c28 g11) flX8_28 rfl rfl e32 ?_
  have c33 := (ekI e32).trans c28
  have c34 := (elI e32).trans c29
  have c35 := (epI e32).trans c30
  refine J_aload_n 0 dX8_init_40 rfl rfl ?_
  refine J_iconst (0 : Int32) dX8_init_41 kc_0 ?_
  obtain ⟨h36, e37, H⟩ := lt_el H
  refine J_pI 7 6 dX8_init_42 (kq c33 g11) flX8_31 rfl rfl e37 ?_
  have c38 := (ekI e37).trans c33
  have c39 := (elI e37).trans c34
  have c40 := (epI e37).trans c35
  refine J_aload_n 0 dX8_init_45 rfl rfl ?_
  refine J_iconst (0 : Int32) dX8_init_46 kc_0 ?_
  obtain ⟨h41, e42, H⟩ := lt_el H
  refine J_pI 7 7 dX8_init_47 (kq c38 g11) flX8_34 rfl rfl e42 ?_
  have c43 := (ekI e42).trans c38
  have c44 := (elI e42).trans c39
  have c45 := (epI e42).trans c40
  refine J_aload_n 0 dX8_init_50 rfl rfl ?_
  refine J_iconst (0 : Int32) dX8_init_51 kc_0 ?_
  obtain ⟨h46, e47, H⟩ := lt_el H
  refine J_pI 7 8 dX8_init_52 (kq c43 g11) flX8_37 rfl rfl e47 ?_
  have c48 := (ekI e47).trans c43
  have c49 := (elI e47).trans c44
  have c50 := (epI e47).trans c45
  refine J_aload_n 0 dX8_init_55 rfl rfl ?_
  refine J_iconst (0 : Int32) dX8_init_56 kc_0 ?_
  obtain ⟨h51, e52, H⟩ := lt_el H
  refine J_pI 7 9 dX8_init_57 (kq c48 g11) flX8_40 rfl rfl e52 ?_
  have c53 := (ekI e52).trans c48
  have c54 := (elI e52).trans c49
  have c55 := (epI e52).trans c50
  refine J_aload_n 0 dX8_init_60 rfl rfl ?_
  refine J_iconst (0 : Int32) dX8_init_61 kc_0 ?_
  obtain ⟨h56, e57, H⟩ := lt_el H
  refine J_pI 7 10 dX8_init_62 (kq c53 g11) flX8_43 rfl rfl e57 ?_
  have c58 := (ekI e57).trans c53
  have c59 := (elI e57).trans c54
  have c60 := (epI e57).trans c55
  refine J_aload_n 0 dX8_init_65 rfl rfl ?_
  refine J_iconst (-1 : Int32) dX8_init_66 kc_m1 ?_
  obtain ⟨h61, e62, H⟩ := lt_el H
  refine J_pI 7 11 dX8_init_67 (kq c58 g11) flX8_46 rfl rfl e62 ?_
  have c63 := (ekI e62).trans c58
  have c64 := (elI e62).trans c59
  have c65 := (epI e62).trans c60
  refine J_aload_n 0 dX8_init_70 rfl rfl ?_
  refine J_iconst (-1 : Int32) dX8_init_71 kc_m1 ?_
  obtain ⟨h66, e67, H⟩ := lt_el H
  refine J_pI 7 12 dX8_init_72 (kq c63 g11) flX8_49 rfl rfl e67 ?_
  have c68 := (ekI e67).trans c63
  have c69 := (elI e67).trans c64
  have c70 := (epI e67).trans c65
  refine J_aload_n 0 dX8_init_75 rfl rfl ?_
  refine J_iconst (0 : Int32) dX8_init_76 kc_0 ?_
  obtain ⟨h71, e72, H⟩ := lt_el H
  refine J_pI 7 13 dX8_init_77 (kq c68 g11) flX8_52 rfl rfl e72 ?_
  have c73 := (ekI e72).trans c68
  have c74 := (elI e72).trans c69
  have c75 := (epI e72).trans c70
  refine J_aload_n 0 dX8_init_80 rfl rfl ?_
  refine J_iconst (0 : Int32) dX8_init_81 kc_0 ?_
  obtain ⟨h76, e77, H⟩ := lt_el H
  refine J_pZ 7 14 dX8_init_82 (kq c73 g11) flX8_55 rfl rfl rfl e77 ?_
  have c78 := (ekI e77).trans c73
  have c79 := (elI e77).trans c74
  have c80 := (epI e77).trans c75
  cases H
  exact J_ret dX8_init_85 rfl
theorem okX8_init {d : Nat} {h : Hp} {v0 : Nat} {h9 : Hp} (H : MX8_init h v0 = some h9) : CT (d) YX8_init [.ref v0] h oV h9 := CT_of (by decide +kernel) (Nat.le_of_ble_eq_true rfl) (eX8_init H)
