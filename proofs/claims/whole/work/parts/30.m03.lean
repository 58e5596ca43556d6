noncomputable def BX12_minute_130 (h : Hp) (v0 : Nat) (v2 : Int32) : Option ((Int32 × Hp) ⊕ Hp) :=
  gg (β := ((Int32 × Hp) ⊕ Hp)) (kd h v0 = 11) <|
  gg (β := ((Int32 × Hp) ⊕ Hp)) (kd h (gP h v0 1) = 20) <|
  gg (β := ((Int32 × Hp) ⊕ Hp)) (inB (3 : Int32) (ln h (gP h v0 1)) = true) <|
  if (gI h (gP h v0 1) (3 : Int32).toNatClampNeg) ≤ v2 then
    some (.inr (h))
  else
    Option.bind (α := Int32) (β := ((Int32 × Hp) ⊕ Hp)) (MX12_machine0 h v2) fun (t37 : Int32) =>
    gg (β := ((Int32 × Hp) ⊕ Hp)) (inB (t37 + (28 : Int32)) (ln h (gP h v0 1)) = true) <|
    if (gI h (gP h v0 1) (t37 + (28 : Int32)).toNatClampNeg) = 0 then
      Option.bind (α := Int32) (β := ((Int32 × Hp) ⊕ Hp)) (MX12_machine0 h v2) fun (t41 : Int32) =>
      gg (β := ((Int32 × Hp) ⊕ Hp)) (inB (t41 + (29 : Int32)) (ln h (gP h v0 1)) = true) <|
      if (gI h (gP h v0 1) (t41 + (29 : Int32)).toNatClampNeg) ≤ 0 then
        some (.inl ((v2 + (1 : Int32)), h))
      else
        Option.bind (α := Hp) (β := ((Int32 × Hp) ⊕ Hp)) (MX12_runsOn h v0 v2) fun (h45 : Hp) =>
        some (.inl ((v2 + (1 : Int32)), h45))
    else
      some (.inl ((v2 + (1 : Int32)), h))
set_option maxRecDepth 100000 in
set_option maxHeartbeats 8000000 in
theorem bX12_minute_130 {d : Nat} {h : Hp} {v0 : Nat} {v2 : Int32} {h9 : Hp} {x : ((Int32 × Hp) ⊕ Hp)} (H : BX12_minute_130 h v0 v2 = some x) (hb0 : ∀ s : Int32 × Hp, x = .inl s → J (d + 6) YX12_minute 130 [.ref v0, Value.null, .int s.1] [] s.2 oV h9) (hx : ∀ z : Hp, x = .inr (z) → z = h9) : J (d + 6) YX12_minute 130 [.ref v0, Value.null, .int v2] [] h oV h9 := by
  unfold BX12_minute_130 at H
  refine J_iload_n 2 dX12_minute_130 rfl rfl ?_
  refine J_aload_n 0 dX12_minute_131 rfl rfl ?_
  obtain ⟨g32, H⟩ := gd H
  refine J_gP 11 1 dX12_minute_132 g32 flX12_8 rfl rfl ?_
  refine J_iconst (3 : Int32) dX12_minute_135 kc_3 ?_
  obtain ⟨g33, H⟩ := gd H
  obtain ⟨g34, H⟩ := gd H
  refine J_iald dX12_minute_136 g33 (inB_ok g34) ?_
  refine J_icmp_ge 181 dX12_minute_137 rfl (fun q35 => ?_) (fun q35 => ?_)
  · replace H := br1 q35 H
    cases H
    cases hx _ rfl
    exact J_ret dX12_minute_181 rfl
  · replace H := br0 q35 H
    refine J_aload_n 0 dX12_minute_140 rfl rfl ?_
    refine J_gP 11 1 dX12_minute_141 g32 flX12_8 rfl rfl ?_
    refine J_iload_n 2 dX12_minute_144 rfl rfl ?_
    obtain ⟨t37, e36, H⟩ := bd H
    refine J_cS (as := [.int v2]) YX12_machine0 1 dX12_minute_145 moX12_machine0 msX12_machine0 mlX12_360 (okX12_machine0 (d := d + 5) e36) rfl rfl [.ref (gP h v0 1)] rfl rfl (st2 := [.int t37, .ref (gP h v0 1)]) rfl ?_
    refine J_bipush (28 : Int32) dX12_minute_148 kb_28 ?_
    refine J_iadd dX12_minute_150 ?_
    obtain ⟨g38, H⟩ := gd H
    refine J_iald dX12_minute_151 g33 (inB_ok g38) ?_
    refine J_if_ne 175 dX12_minute_152 rfl (fun q39 => ?_) (fun q39 => ?_)
    · replace H := br0 q39 H
      refine J_iinc (v2 + (1 : Int32)) dX12_minute_175 rfl (congrArg (HAdd.hAdd v2) kc_1) (by decide) (ls' := [.ref v0, Value.null, .int (v2 + (1 : Int32))]) rfl ?_
      refine J_goto 130 dX12_minute_178 rfl ?_
      cases H
      exact J_dr (hb0 _ rfl) ⟨rfl, ⟨rfl, trivial⟩⟩
    · replace H := br1 q39 H
      refine J_aload_n 0 dX12_minute_155 rfl rfl ?_
      refine J_gP 11 1 dX12_minute_156 g32 flX12_8 rfl rfl ?_
      refine J_iload_n 2 dX12_minute_159 rfl rfl ?_
      obtain ⟨t41, e40, H⟩ := bd H
      refine J_cS (as := [.int v2]) YX12_machine0 1 dX12_minute_160 moX12_machine0 msX12_machine0 mlX12_360 (okX12_machine0 (d := d + 5) e40) rfl rfl [.ref (gP h v0 1)] rfl rfl (st2 := [.int t41, .ref (gP h v0 1)]) rfl ?_
      refine J_bipush (29 : Int32) dX12_minute_163 kb_29 ?_
      refine J_iadd dX12_minute_165 ?_
      obtain ⟨g42, H⟩ := gd H
      refine J_iald dX12_minute_166 g33 (inB_ok g42) ?_
      refine J_if_le 175 dX12_minute_167 rfl (fun q43 => ?_) (fun q43 => ?_)
      · replace H := br1 q43 H
        refine J_iinc (v2 + (1 : Int32)) dX12_minute_175 rfl (congrArg (HAdd.hAdd v2) kc_1) (by decide) (ls' := [.ref v0, Value.null, .int (v2 + (1 : Int32))]) rfl ?_
        refine J_goto 130 dX12_minute_178 rfl ?_
        cases H
        exact J_dr (hb0 _ rfl) ⟨rfl, ⟨rfl, trivial⟩⟩
      · replace H := br0 q43 H
        refine J_aload_n 0 dX12_minute_170 rfl rfl ?_
        refine J_iload_n 2 dX12_minute_171 rfl rfl ?_
        obtain ⟨h45, e44, H⟩ := bd H
        refine J_cV (as := [.int v2]) 11 YX12_runsOn 1 dX12_minute_172 moX12_runsOn mvX12_runsOn mlX12_391 g32 rfl rfl (okX12_runsOn (d := d) e44) rfl rfl [] rfl rfl (st2 := []) rfl ?_
        refine J_iinc (v2 + (1 : Int32)) dX12_minute_175 rfl (congrArg (HAdd.hAdd v2) kc_1) (by decide) (ls' := [.ref v0, Value.null, .int (v2 + (1 : Int32))]) rfl ?_
        refine J_goto 130 dX12_minute_178 rfl ?_
        cases H
        exact J_dr (hb0 _ rfl) ⟨rfl, ⟨rfl, trivial⟩⟩
noncomputable def MX12_minute_130 (h : Hp) (v0 : Nat) (v2 : Int32) : Option Hp := it (fun q : Int32 × Hp => BX12_minute_130 q.2 v0 q.1) (v2, h)
set_option maxRecDepth 100000 in
set_option maxHeartbeats 8000000 in
theorem kX12_minute_130 {d : Nat} {h : Hp} {v0 : Nat} {v2 : Int32} {h9 : Hp} (H : MX12_minute_130 h v0 v2 = some h9) : J (d + 6) YX12_minute 130 [.ref v0, Value.null, .int v2] [] h oV h9 := by
  unfold MX12_minute_130 at H
  refine it_J (G := (fun q : Int32 × Hp => J (d + 6) YX12_minute 130 [.ref v0, Value.null, .int q.1] [] q.2 oV h9)) (Q := (fun y : Hp => y = h9)) (fun q x Hq hm => ?_) H rfl
  exact bX12_minute_130 Hq (fun s hs => by subst hs; exact hm) (fun z hz => by subst hz; exact hm)
noncomputable def MX12_minute_117 (h : Hp) (v0 : Nat) : Option Hp :=
  gg (β := Hp) (kd h v0 = 11) <|
  gg (β := Hp) (kd h (gP h v0 1) = 20) <|
  gg (β := Hp) (inB (7 : Int32) (ln h (gP h v0 1)) = true) <|
  lt (α := Hp) (β := Option Hp) (sI h (gP h v0 1) (7 : Int32).toNatClampNeg ((gI h (gP h v0 1) (7 : Int32).toNatClampNeg) + (1 : Int32))) fun (h27 : Hp) =>
  MX12_minute_130 h27 v0 (0 : Int32)
set_option maxRecDepth 100000 in
set_option maxHeartbeats 8000000 in
theorem kX12_minute_117 {d : Nat} {h : Hp} {v0 : Nat} {h9 : Hp} (H : MX12_minute_117 h v0 = some h9) : J (d + 6) YX12_minute 117 [.ref v0, Value.null, Value.null] [] h oV h9 := by
  unfold MX12_minute_117 at H
  refine J_aload_n 0 dX12_minute_117 rfl rfl ?_
  obtain ⟨g24, H⟩ := gd H
  refine J_gP 11 1 dX12_minute_118 g24 flX12_8 rfl rfl ?_
  refine J_bipush (7 : Int32) dX12_minute_121 kb_7 ?_
  refine J_dup2 dX12_minute_123 rfl rfl ?_
  obtain ⟨g25, H⟩ := gd H
  obtain ⟨g26, H⟩ := gd H
  refine J_iald dX12_minute_124 g25 (inB_ok g26) ?_
  refine J_iconst (1 : Int32) dX12_minute_125 kc_1 ?_
  refine J_iadd dX12_minute_126 ?_
  obtain ⟨h27, e28, H⟩ := lt_el H
  refine J_sI dX12_minute_127 g25 (inB_ok g26) e28 ?_
  have c29 := ekI e28
  have c30 := elI e28
  have c31 := epI e28
  refine J_iconst (0 : Int32) dX12_minute_128 kc_0 ?_
  refine J_istore_n 2 dX12_minute_129 rfl (by decide) (ls' := [.ref v0, Value.null, .int (0 : Int32)]) rfl ?_
  exact J_dr (kX12_minute_130 H ) ⟨rfl, ⟨rfl, trivial⟩⟩
noncomputable def BX12_minute_97 (h : Hp) (v0 : Nat) (v1 : Int32) (v2 : Int32) : Option ((Int32 × Hp) ⊕ Hp) :=
  if (5 : Int32) ≤ v2 then
    up1 (MX12_minute_117 h v0)
  else
    gg (β := ((Int32 × Hp) ⊕ Hp)) (kd h v0 = 11) <|
    gg (β := ((Int32 × Hp) ⊕ Hp)) (kd h (gP h v0 1) = 20) <|
    gg (β := ((Int32 × Hp) ⊕ Hp)) (inB (v1 + v2) (ln h (gP h v0 1)) = true) <|
    lt (α := Hp) (β := Option ((Int32 × Hp) ⊕ Hp)) (sI h (gP h v0 1) (v1 + v2).toNatClampNeg (-1 : Int32)) fun (h49 : Hp) =>
    some (.inl ((v2 + (1 : Int32)), h49))
set_option maxRecDepth 100000 in
set_option maxHeartbeats 8000000 in
theorem bX12_minute_97 {d : Nat} {h : Hp} {v0 : Nat} {v1 : Int32} {v2 : Int32} {h9 : Hp} {x : ((Int32 × Hp) ⊕ Hp)} (H : BX12_minute_97 h v0 v1 v2 = some x) (hb0 : ∀ s : Int32 × Hp, x = .inl s → J (d + 6) YX12_minute 97 [.ref v0, .int v1, .int s.1] [] s.2 oV h9) (hx : ∀ z : Hp, x = .inr (z) → z = h9) : J (d + 6) YX12_minute 97 [.ref v0, .int v1, .int v2] [] h oV h9 := by
  unfold BX12_minute_97 at H
  refine J_iload_n 2 dX12_minute_97 rfl rfl ?_
  refine J_iconst (5 : Int32) dX12_minute_98 kc_5 ?_
  refine J_icmp_ge 117 dX12_minute_99 rfl (fun q23 => ?_) (fun q23 => ?_)
  · replace H := br1 q23 H
    obtain ⟨y0, H90, rfl⟩ := up1_el H
    replace H := H90
    obtain rfl := hx _ rfl
    exact J_dr (kX12_minute_117 H ) ⟨rfl, trivial⟩
  · replace H := br0 q23 H
    refine J_aload_n 0 dX12_minute_102 rfl rfl ?_
    obtain ⟨g46, H⟩ := gd H
    refine J_gP 11 1 dX12_minute_103 g46 flX12_8 rfl rfl ?_
    refine J_iload_n 1 dX12_minute_106 rfl rfl ?_
    refine J_iload_n 2 dX12_minute_107 rfl rfl ?_
    refine J_iadd dX12_minute_108 ?_
    refine J_iconst (-1 : Int32) dX12_minute_109 kc_m1 ?_
    obtain ⟨g47, H⟩ := gd H
    obtain ⟨g48, H⟩ := gd H
    obtain ⟨h49, e50, H⟩ := lt_el H
    refine J_sI dX12_minute_110 g47 (inB_ok g48) e50 ?_
    have c51 := ekI e50
    have c52 := elI e50
    have c53 := epI e50
    refine J_iinc (v2 + (1 : Int32)) dX12_minute_111 rfl (congrArg (HAdd.hAdd v2) kc_1) (by decide) (ls' := [.ref v0, .int v1, .int (v2 + (1 : Int32))]) rfl ?_
    refine J_goto 97 dX12_minute_114 rfl ?_
    cases H
    exact J_dr (hb0 _ rfl) ⟨rfl, ⟨rfl, ⟨rfl, trivial⟩⟩⟩
noncomputable def MX12_minute_97 (h : Hp) (v0 : Nat) (v1 : Int32) (v2 : Int32) : Option Hp := it (fun q : Int32 × Hp => BX12_minute_97 q.2 v0 v1 q.1) (v2, h)
set_option maxRecDepth 100000 in
set_option maxHeartbeats 8000000 in
theorem kX12_minute_97 {d : Nat} {h : Hp} {v0 : Nat} {v1 : Int32} {v2 : Int32} {h9 : Hp} (H : MX12_minute_97 h v0 v1 v2 = some h9) : J (d + 6) YX12_minute 97 [.ref v0, .int v1, .int v2] [] h oV h9 := by
  unfold MX12_minute_97 at H
  refine it_J (G := (fun q : Int32 × Hp => J (d + 6) YX12_minute 97 [.ref v0, .int v1, .int q.1] [] q.2 oV h9)) (Q := (fun y : Hp => y = h9)) (fun q x Hq hm => ?_) H rfl
  exact bX12_minute_97 Hq (fun s hs => by subst hs; exact hm) (fun z hz => by subst hz; exact hm)
noncomputable def MX12_minute_69 (h : Hp) (v0 : Nat) : Option Hp :=
  gg (β := Hp) (kd h v0 = 11) <|
  gg (β := Hp) (kd h (gP h v0 1) = 20) <|
  gg (β := Hp) (inB (7 : Int32) (ln h (gP h v0 1)) = true) <|
  lt (α := Int32) (β := Option Hp) ((337180 : Int32) + ((5 : Int32) * (gI h (gP h v0 1) (7 : Int32).toNatClampNeg))) fun (w14 : Int32) =>
  gg (β := Hp) (inB (0 : Int32) (ln h (gP h v0 1)) = true) <|
  gg (β := Hp) (inB w14 (ln h (gP h v0 1)) = true) <|
  lt (α := Hp) (β := Option Hp) (sI h (gP h v0 1) w14.toNatClampNeg (gI h (gP h v0 1) (0 : Int32).toNatClampNeg)) fun (h18 : Hp) =>
  MX12_minute_97 h18 v0 w14 (1 : Int32)
set_option maxRecDepth 100000 in
set_option maxHeartbeats 8000000 in
theorem kX12_minute_69 {d : Nat} {h : Hp} {v0 : Nat} {h9 : Hp} (H : MX12_minute_69 h v0 = some h9) : J (d + 6) YX12_minute 69 [.ref v0, Value.null, Value.null] [] h oV h9 := by
  unfold MX12_minute_69 at H
  refine J_ldcw (337180 : Int32) coX12_390 dX12_minute_69 ?_
  refine J_iconst (5 : Int32) dX12_minute_72 kc_5 ?_
  refine J_aload_n 0 dX12_minute_73 rfl rfl ?_
  obtain ⟨g11, H⟩ := gd H
  refine J_gP 11 1 dX12_minute_74 g11 flX12_8 rfl rfl ?_
  refine J_bipush (7 : Int32) dX12_minute_77 kb_7 ?_
  obtain ⟨g12, H⟩ := gd H
  obtain ⟨g13, H⟩ := gd H
  refine J_iald dX12_minute_79 g12 (inB_ok g13) ?_
  refine J_imul dX12_minute_80 ?_
  refine J_iadd dX12_minute_81 ?_
  obtain ⟨w14, e15, H⟩ := lt_el H
  refine J_nmI e15 ?_
  refine J_istore_n 1 dX12_minute_82 rfl (by decide) (ls' := [.ref v0, .int w14, Value.null]) rfl ?_
  refine J_aload_n 0 dX12_minute_83 rfl rfl ?_
  refine J_gP 11 1 dX12_minute_84 g11 flX12_8 rfl rfl ?_
  refine J_iload_n 1 dX12_minute_87 rfl rfl ?_
  refine J_aload_n 0 dX12_minute_88 rfl rfl ?_
  refine J_gP 11 1 dX12_minute_89 g11 flX12_8 rfl rfl ?_
  refine J_iconst (0 : Int32) dX12_minute_92 kc_0 ?_
  obtain ⟨g16, H⟩ := gd H
  refine J_iald dX12_minute_93 g12 (inB_ok g16) ?_
  obtain ⟨g17, H⟩ := gd H
  obtain ⟨h18, e19, H⟩ := lt_el H
  refine J_sI dX12_minute_94 g12 (inB_ok g17) e19 ?_
  have c20 := ekI e19
  have c21 := elI e19
  have c22 := epI e19
  refine J_iconst (1 : Int32) dX12_minute_95 kc_1 ?_
  refine J_istore_n 2 dX12_minute_96 rfl (by decide) (ls' := [.ref v0, .int w14, .int (1 : Int32)]) rfl ?_
  exact J_dr (kX12_minute_97 H ) ⟨rfl, ⟨rfl, ⟨rfl, trivial⟩⟩⟩
noncomputable def MX12_minute_58 (h : Hp) (v0 : Nat) : Option Hp :=
  gg (β := Hp) (kd h v0 = 11) <|
  gg (β := Hp) (kd h (gP h v0 1) = 20) <|
  gg (β := Hp) (inB (7 : Int32) (ln h (gP h v0 1)) = true) <|
  lt (α := Hp) (β := Option Hp) (sI h (gP h v0 1) (7 : Int32).toNatClampNeg ((gI h (gP h v0 1) (7 : Int32).toNatClampNeg) - (1 : Int32))) fun (h58 : Hp) =>
  MX12_minute_69 h58 v0
set_option maxRecDepth 100000 in
set_option maxHeartbeats 8000000 in
theorem kX12_minute_58 {d : Nat} {h : Hp} {v0 : Nat} {h9 : Hp} (H : MX12_minute_58 h v0 = some h9) : J (d + 6) YX12_minute 58 [.ref v0, Value.null, Value.null] [] h oV h9 := by
  unfold MX12_minute_58 at H
  refine J_aload_n 0 dX12_minute_58 rfl rfl ?_
  obtain ⟨g55, H⟩ := gd H
  refine J_gP 11 1 dX12_minute_59 g55 flX12_8 rfl rfl ?_
  refine J_bipush (7 : Int32) dX12_minute_62 kb_7 ?_
  refine J_dup2 dX12_minute_64 rfl rfl ?_
  obtain ⟨g56, H⟩ := gd H
  obtain ⟨g57, H⟩ := gd H
  refine J_iald dX12_minute_65 g56 (inB_ok g57) ?_
  refine J_iconst (1 : Int32) dX12_minute_66 kc_1 ?_
  refine J_isub dX12_minute_67 ?_
  obtain ⟨h58, e59, H⟩ := lt_el H
  refine J_sI dX12_minute_68 g56 (inB_ok g57) e59 ?_
  have c60 := ekI e59
  have c61 := elI e59
  have c62 := epI e59
  exact J_dr (kX12_minute_69 H ) ⟨rfl, trivial⟩
noncomputable def BX12_minute_24 (h : Hp) (v0 : Nat) (v1 : Int32) : Option ((Int32 × Hp) ⊕ Hp) :=
  if (35 : Int32) ≤ v1 then
    up1 (MX12_minute_58 h v0)
  else
    gg (β := ((Int32 × Hp) ⊕ Hp)) (kd h v0 = 11) <|
    gg (β := ((Int32 × Hp) ⊕ Hp)) (kd h (gP h v0 1) = 20) <|
    gg (β := ((Int32 × Hp) ⊕ Hp)) (inB (((337180 : Int32) + v1) + (5 : Int32)) (ln h (gP h v0 1)) = true) <|
    gg (β := ((Int32 × Hp) ⊕ Hp)) (inB ((337180 : Int32) + v1) (ln h (gP h v0 1)) = true) <|
    lt (α := Hp) (β := Option ((Int32 × Hp) ⊕ Hp)) (sI h (gP h v0 1) ((337180 : Int32) + v1).toNatClampNeg (gI h (gP h v0 1) (((337180 : Int32) + v1) + (5 : Int32)).toNatClampNeg)) fun (h67 : Hp) =>
    some (.inl ((v1 + (1 : Int32)), h67))
set_option maxRecDepth 100000 in
set_option maxHeartbeats 8000000 in
theorem bX12_minute_24 {d : Nat} {h : Hp} {v0 : Nat} {v1 : Int32} {h9 : Hp} {x : ((Int32 × Hp) ⊕ Hp)} (H : BX12_minute_24 h v0 v1 = some x) (hb0 : ∀ s : Int32 × Hp, x = .inl s → J (d + 6) YX12_minute 24 [.ref v0, .int s.1, Value.null] [] s.2 oV h9) (hx : ∀ z : Hp, x = .inr (z) → z = h9) : J (d + 6) YX12_minute 24 [.ref v0, .int v1, Value.null] [] h oV h9 := by
  unfold BX12_minute_24 at H
  refine J_iload_n 1 dX12_minute_24 rfl rfl ?_
  refine J_bipush (35 : Int32) dX12_minute_25 kb_35 ?_
  refine J_icmp_ge 58 dX12_minute_27 rfl (fun q54 => ?_) (fun q54 => ?_)
  · replace H := br1 q54 H
    obtain ⟨y0, H90, rfl⟩ := up1_el H
    replace H := H90
    obtain rfl := hx _ rfl
    exact J_dr (kX12_minute_58 H ) ⟨rfl, trivial⟩
  · replace H := br0 q54 H
    refine J_aload_n 0 dX12_minute_30 rfl rfl ?_
    obtain ⟨g63, H⟩ := gd H
    refine J_gP 11 1 dX12_minute_31 g63 flX12_8 rfl rfl ?_
    refine J_ldcw (337180 : Int32) coX12_390 dX12_minute_34 ?_
    refine J_iload_n 1 dX12_minute_37 rfl rfl ?_
    refine J_iadd dX12_minute_38 ?_
    refine J_aload_n 0 dX12_minute_39 rfl rfl ?_
    refine J_gP 11 1 dX12_minute_40 g63 flX12_8 rfl rfl ?_
    refine J_ldcw (337180 : Int32) coX12_390 dX12_minute_43 ?_
    refine J_iload_n 1 dX12_minute_46 rfl rfl ?_
    refine J_iadd dX12_minute_47 ?_
    refine J_iconst (5 : Int32) dX12_minute_48 kc_5 ?_
    refine J_iadd dX12_minute_49 ?_
    obtain ⟨g64, H⟩ := gd H
    obtain ⟨g65, H⟩ := gd H
    refine J_iald dX12_minute_50 g64 (inB_ok g65) ?_
    obtain ⟨g66, H⟩ := gd H
    obtain ⟨h67, e68, H⟩ := lt_el H
    refine J_sI dX12_minute_51 g64 (inB_ok g66) e68 ?_
    have c69 := ekI e68
    have c70 := elI e68
    have c71 := epI e68
    refine J_iinc (v1 + (1 : Int32)) dX12_minute_52 rfl (congrArg (HAdd.hAdd v1) kc_1) (by decide) (ls' := [.ref v0, .int (v1 + (1 : Int32)), Value.null]) rfl ?_
    refine J_goto 24 dX12_minute_55 rfl ?_
    cases H
    exact J_dr (hb0 _ rfl) ⟨rfl, ⟨rfl, trivial⟩⟩
noncomputable def MX12_minute_24 (h : Hp) (v0 : Nat) (v1 : Int32) : Option Hp := it (fun q : Int32 × Hp => BX12_minute_24 q.2 v0 q.1) (v1, h)
set_option maxRecDepth 100000 in
set_option maxHeartbeats 8000000 in
theorem kX12_minute_24 {d : Nat} {h : Hp} {v0 : Nat} {v1 : Int32} {h9 : Hp} (H : MX12_minute_24 h v0 v1 = some h9) : J (d + 6) YX12_minute 24 [.ref v0, .int v1, Value.null] [] h oV h9 := by
  unfold MX12_minute_24 at H
  refine it_J (G := (fun q : Int32 × Hp => J (d + 6) YX12_minute 24 [.ref v0, .int q.1, Value.null] [] q.2 oV h9)) (Q := (fun y : Hp => y = h9)) (fun q x Hq hm => ?_) H rfl
  exact bX12_minute_24 Hq (fun s hs => by subst hs; exact hm) (fun z hz => by subst hz; exact hm)
noncomputable def MX12_minute (h : Hp) (v0 : Nat) : Option Hp :=
  gg (β := Hp) (kd h v0 = 11) <|
  gg (β := Hp) (kd h (gP h v0 1) = 20) <|
  gg (β := Hp) (inB (0 : Int32) (ln h (gP h v0 1)) = true) <|
  lt (α := Hp) (β := Option Hp) (sI h (gP h v0 1) (0 : Int32).toNatClampNeg ((gI h (gP h v0 1) (0 : Int32).toNatClampNeg) + (1 : Int32))) fun (h4 : Hp) =>
  gg (β := Hp) (inB (7 : Int32) (ln h (gP h v0 1)) = true) <|
  if (gI h4 (gP h v0 1) (7 : Int32).toNatClampNeg) = (8 : Int32) then
    MX12_minute_24 h4 v0 (0 : Int32)
  else
    MX12_minute_69 h4 v0
set_option maxRecDepth 100000 in
set_option maxHeartbeats 8000000 in
theorem eX12_minute {d : Nat} {h : Hp} {v0 : Nat} {h9 : Hp} (H : MX12_minute h v0 = some h9) : J (d + 6) YX12_minute 0 [.ref v0, Value.null, Value.null] [] h oV h9 := by
  unfold MX12_minute at H
  refine J_aload_n 0 dX12_minute_0 rfl rfl ?_
  obtain ⟨g1, H⟩ := gd H
  refine J_gP 11 1 dX12_minute_1 g1 flX12_8 rfl rfl ?_
  refine J_iconst (0 : Int32) dX12_minute_4 kc_0 ?_
  refine J_dup2 dX12_minute_5 rfl rfl ?_
  obtain ⟨g2, H⟩ := gd H
  obtain ⟨g3, H⟩ := gd H
  refine J_iald dX12_minute_6 g2 (inB_ok g3) ?_
  refine J_iconst (1 : Int32) dX12_minute_7 kc_1 ?_
  refine J_iadd dX12_minute_8 ?_
  obtain ⟨h4, e5, H⟩ := lt_el H
  refine J_sI dX12_minute_9 g2 (inB_ok g3) e5 ?_
  have c6 := ekI e5
  have c7 := elI e5
  have c8 := epI e5
  refine J_aload_n 0 dX12_minute_10 rfl rfl ?_
  refine J_gP 11 1 dX12_minute_11 (kq c6 g1) flX12_8 rfl (congrFun (congrFun c8 v0) 1) ?_
  refine J_bipush (7 : Int32) dX12_minute_14 kb_7 ?_
  obtain ⟨g9, H⟩ := gd H
  refine J_iald dX12_minute_16 (kq c6 g2) (lq c7 g9) ?_
  refine J_bipush (8 : Int32) dX12_minute_17 kb_8 ?_
  refine J_icmp_ne 69 dX12_minute_19 rfl (fun q10 => ?_) (fun q10 => ?_)
  · replace H := br0 q10 H
    exact J_dr (kX12_minute_69 H ) ⟨rfl, trivial⟩
  · replace H := br1 q10 H
    refine J_iconst (0 : Int32) dX12_minute_22 kc_0 ?_
    refine J_istore_n 1 dX12_minute_23 rfl (by decide) (ls' := [.ref v0, .int (0 : Int32), Value.null]) rfl ?_
    exact J_dr (kX12_minute_24 H ) ⟨rfl, ⟨rfl, trivial⟩⟩
theorem okX12_minute {d : Nat} {h : Hp} {v0 : Nat} {h9 : Hp} (H : MX12_minute h v0 = some h9) : CT (d + 6) YX12_minute [.ref v0] h oV h9 := CT_of (by decide +kernel) (Nat.le_of_ble_eq_true rfl) (eX12_minute H)
noncomputable def MX12_ahead_107 (h : Hp) (v0 : Nat) (s0 : Int32) : Option (Int32 × Hp) :=
  gg (β := (Int32 × Hp)) (kd h v0 = 11) <|
  gg (β := (Int32 × Hp)) (kd h (gP h v0 3) = 20) <|
  gg (β := (Int32 × Hp)) (kd h (gP h v0 1) = 20) <|
  gg (β := (Int32 × Hp)) (cpB (0 : Int32) (0 : Int32) (337220 : Int32) (ln h (gP h v0 3)) (ln h (gP h v0 1)) = true) <|
  lt (α := Hp) (β := Option (Int32 × Hp)) (rI h (gP h v0 1) (va_cpy (gI h (gP h v0 3)) (gI h (gP h v0 1)) (0 : Int32).toNatClampNeg (0 : Int32).toNatClampNeg (337220 : Int32).toNatClampNeg)) fun (h33 : Hp) =>
  some (s0, h33)
set_option maxRecDepth 100000 in
set_option maxHeartbeats 8000000 in
theorem kX12_ahead_107 {d : Nat} {h : Hp} {v0 : Nat} {s0 : Int32} {r : Int32} {h9 : Hp} (H : MX12_ahead_107 h v0 s0 = some (r, h9)) : J (d + 7) YX12_ahead 107 [.ref v0, Value.null, Value.null] [.int s0] h (oI r) h9 := by
  unfold MX12_ahead_107 at H
  refine J_istore_n 2 dX12_ahead_107 rfl (by decide) (ls' := [.ref v0, Value.null, .int s0]) rfl ?_
  refine J_aload_n 0 dX12_ahead_108 rfl rfl ?_
  obtain ⟨g29, H⟩ := gd H
  refine J_gP 11 3 dX12_ahead_109 g29 flX12_17 rfl rfl ?_
  refine J_iconst (0 : Int32) dX12_ahead_112 kc_0 ?_
  refine J_aload_n 0 dX12_ahead_113 rfl rfl ?_
  refine J_gP 11 1 dX12_ahead_114 g29 flX12_8 rfl rfl ?_
  refine J_iconst (0 : Int32) dX12_ahead_117 kc_0 ?_
  refine J_ldc (337220 : Int32) coX12_7 dX12_ahead_118 ?_
  obtain ⟨g30, H⟩ := gd H
  obtain ⟨g31, H⟩ := gd H
  obtain ⟨g32, H⟩ := gd H
  obtain ⟨h33, e34, H⟩ := lt_el H
  refine J_cp 20 dX12_ahead_120 mlX12_467 (Or.inl rfl) g30 g31 g32 rfl e34 ?_
  have c35 := ekR e34
  have c36 := elR e34
  have c37 := epR e34
  refine J_iload_n 2 dX12_ahead_123 rfl rfl ?_
  cases H
  exact J_iretI dX12_ahead_124 rfl
noncomputable def MX12_ahead_90 (h : Hp) (v0 : Nat) : Option (Int32 × Hp) :=
  gg (β := (Int32 × Hp)) (kd h v0 = 11) <|
  Option.bind (α := Int32) (β := (Int32 × Hp)) (MX12_jobs h v0) fun (t25 : Int32) =>
  if t25 ≤ 0 then
    gg (β := (Int32 × Hp)) (kd h (gP h v0 1) = 20) <|
    gg (β := (Int32 × Hp)) (inB (0 : Int32) (ln h (gP h v0 1)) = true) <|
    MX12_ahead_107 h v0 (gI h (gP h v0 1) (0 : Int32).toNatClampNeg)
  else
    MX12_ahead_107 h v0 (-1 : Int32)
set_option maxRecDepth 100000 in
set_option maxHeartbeats 8000000 in
theorem kX12_ahead_90 {d : Nat} {h : Hp} {v0 : Nat} {r : Int32} {h9 : Hp} (H : MX12_ahead_90 h v0 = some (r, h9)) : J (d + 7) YX12_ahead 90 [.ref v0, Value.null, Value.null] [] h (oI r) h9 := by
  unfold MX12_ahead_90 at H
  refine J_aload_n 0 dX12_ahead_90 rfl rfl ?_
  obtain ⟨g24, H⟩ := gd H
  obtain ⟨t25, e23, H⟩ := bd H
  refine J_cV (as := []) 11 YX12_jobs 0 dX12_ahead_91 moX12_jobs mvX12_jobs mlX12_473 g24 rfl rfl (okX12_jobs (d := d + 5) e23) rfl rfl [] rfl rfl (st2 := [.int t25]) rfl ?_
  refine J_if_le 101 dX12_ahead_94 rfl (fun q26 => ?_) (fun q26 => ?_)
  · replace H := br1 q26 H
    refine J_aload_n 0 dX12_ahead_101 rfl rfl ?_
    refine J_gP 11 1 dX12_ahead_102 g24 flX12_8 rfl rfl ?_
    refine J_iconst (0 : Int32) dX12_ahead_105 kc_0 ?_
    obtain ⟨g27, H⟩ := gd H
    obtain ⟨g28, H⟩ := gd H
    refine J_iald dX12_ahead_106 g27 (inB_ok g28) ?_
    exact J_dr (kX12_ahead_107 H ) ⟨rfl, trivial⟩
  · replace H := br0 q26 H
    refine J_iconst (-1 : Int32) dX12_ahead_97 kc_m1 ?_
    refine J_goto 107 dX12_ahead_98 rfl ?_
    exact J_dr (kX12_ahead_107 H ) ⟨rfl, trivial⟩
noncomputable def BX12_ahead_64 (h : Hp) (v0 : Nat) : Option ((Hp) ⊕ (Int32 × Hp)) :=
  gg (β := ((Hp) ⊕ (Int32 × Hp))) (kd h v0 = 11) <|
  gg (β := ((Hp) ⊕ (Int32 × Hp))) (kd h (gP h v0 1) = 20) <|
  gg (β := ((Hp) ⊕ (Int32 × Hp))) (inB (0 : Int32) (ln h (gP h v0 1)) = true) <|
  if (600 : Int32) ≤ (gI h (gP h v0 1) (0 : Int32).toNatClampNeg) then
    up1 (MX12_ahead_90 h v0)
  else
    Option.bind (α := Int32) (β := ((Hp) ⊕ (Int32 × Hp))) (MX12_jobs h v0) fun (t39 : Int32) =>
    if t39 ≤ 0 then
      up1 (MX12_ahead_90 h v0)
    else
      Option.bind (α := Hp) (β := ((Hp) ⊕ (Int32 × Hp))) (MX12_minute h v0) fun (h42 : Hp) =>
      some (.inl h42)
set_option maxRecDepth 100000 in
set_option maxHeartbeats 8000000 in
theorem bX12_ahead_64 {d : Nat} {h : Hp} {v0 : Nat} {r : Int32} {h9 : Hp} {x : ((Hp) ⊕ (Int32 × Hp))} (H : BX12_ahead_64 h v0 = some x) (hb0 : ∀ s : Hp, x = .inl s → J (d + 7) YX12_ahead 64 [.ref v0, Value.null, Value.null] [] s (oI r) h9) (hx : ∀ z : (Int32 × Hp), x = .inr (z) → z = (r, h9)) : J (d + 7) YX12_ahead 64 [.ref v0, Value.null, Value.null] [] h (oI r) h9 := by
  unfold BX12_ahead_64 at H
  refine J_aload_n 0 dX12_ahead_64 rfl rfl ?_
  obtain ⟨g19, H⟩ := gd H
  refine J_gP 11 1 dX12_ahead_65 g19 flX12_8 rfl rfl ?_
  refine J_iconst (0 : Int32) dX12_ahead_68 kc_0 ?_
  obtain ⟨g20, H⟩ := gd H
  obtain ⟨g21, H⟩ := gd H
  refine J_iald dX12_ahead_69 g20 (inB_ok g21) ?_
  refine J_sipush (600 : Int32) dX12_ahead_70 ks_600 ?_
  refine J_icmp_ge 90 dX12_ahead_73 rfl (fun q22 => ?_) (fun q22 => ?_)
  · replace H := br1 q22 H
    obtain ⟨y0, H90, rfl⟩ := up1_el H
    replace H := H90
    obtain rfl := hx _ rfl
    exact J_dr (kX12_ahead_90 H ) ⟨rfl, trivial⟩
  · replace H := br0 q22 H
    refine J_aload_n 0 dX12_ahead_76 rfl rfl ?_
    obtain ⟨t39, e38, H⟩ := bd H
    refine J_cV (as := []) 11 YX12_jobs 0 dX12_ahead_77 moX12_jobs mvX12_jobs mlX12_473 g19 rfl rfl (okX12_jobs (d := d + 5) e38) rfl rfl [] rfl rfl (st2 := [.int t39]) rfl ?_
    refine J_if_le 90 dX12_ahead_80 rfl (fun q40 => ?_) (fun q40 => ?_)
    · replace H := br1 q40 H
      obtain ⟨y0, H90, rfl⟩ := up1_el H
      replace H := H90
      obtain rfl := hx _ rfl
      exact J_dr (kX12_ahead_90 H ) ⟨rfl, trivial⟩
    · replace H := br0 q40 H
      refine J_aload_n 0 dX12_ahead_83 rfl rfl ?_
      obtain ⟨h42, e41, H⟩ := bd H
      refine J_cV (as := []) 11 YX12_minute 0 dX12_ahead_84 moX12_minute mvX12_minute mlX12_394 g19 rfl rfl (okX12_minute (d := d) e41) rfl rfl [] rfl rfl (st2 := []) rfl ?_
      refine J_goto 64 dX12_ahead_87 rfl ?_
      cases H
      exact J_dr (hb0 _ rfl) ⟨rfl, trivial⟩
noncomputable def MX12_ahead_64 (h : Hp) (v0 : Nat) : Option (Int32 × Hp) := it (fun q : Hp => BX12_ahead_64 q v0) (h)
set_option maxRecDepth 100000 in
set_option maxHeartbeats 8000000 in
theorem kX12_ahead_64 {d : Nat} {h : Hp} {v0 : Nat} {r : Int32} {h9 : Hp} (H : MX12_ahead_64 h v0 = some (r, h9)) : J (d + 7) YX12_ahead 64 [.ref v0, Value.null, Value.null] [] h (oI r) h9 := by
  unfold MX12_ahead_64 at H
  refine it_J (G := (fun q : Hp => J (d + 7) YX12_ahead 64 [.ref v0, Value.null, Value.null] [] q (oI r) h9)) (Q := (fun y : (Int32 × Hp) => y = (r, h9))) (fun q x Hq hm => ?_) H rfl
  exact bX12_ahead_64 Hq (fun s hs => by subst hs; exact hm) (fun z hz => by subst hz; exact hm)
noncomputable def MX12_ahead_19 (h : Hp) (v0 : Nat) (v1 : Int32) (s0 : Nat) (s1 : Int32) : Option (Int32 × Hp) :=
  gg (β := (Int32 × Hp)) (kd h s0 = 11) <|
  lt (α := Hp) (β := Option (Int32 × Hp)) (sI h s0 0 s1) fun (h3 : Hp) =>
  gg (β := (Int32 × Hp)) (kd h v0 = 11) <|
  if (gI h3 v0 0) ≤ 0 then
    gg (β := (Int32 × Hp)) (kd h (gP h v0 1) = 20) <|
    gg (β := (Int32 × Hp)) (kd h (gP h v0 3) = 20) <|
    gg (β := (Int32 × Hp)) (cpB (0 : Int32) (0 : Int32) (337220 : Int32) (ln h3 (gP h v0 1)) (ln h3 (gP h v0 3)) = true) <|
    lt (α := Hp) (β := Option (Int32 × Hp)) (rI h3 (gP h v0 3) (va_cpy (gI h3 (gP h v0 1)) (gI h3 (gP h v0 3)) (0 : Int32).toNatClampNeg (0 : Int32).toNatClampNeg (337220 : Int32).toNatClampNeg)) fun (h13 : Hp) =>
    if v1 = (-1 : Int32) then
      MX12_ahead_64 h13 v0
    else
      Option.bind (α := Int32) (β := (Int32 × Hp)) (MX12_machine0 h13 v1) fun (t44 : Int32) =>
      gg (β := (Int32 × Hp)) (inB (t44 + (28 : Int32)) (ln h (gP h v0 1)) = true) <|
      lt (α := Hp) (β := Option (Int32 × Hp)) (sI h13 (gP h v0 1) (t44 + (28 : Int32)).toNatClampNeg (1 : Int32)) fun (h46 : Hp) =>
      MX12_ahead_64 h46 v0
  else
    some ((0 : Int32), h3)
set_option maxRecDepth 100000 in
set_option maxHeartbeats 8000000 in
theorem kX12_ahead_19 {d : Nat} {h : Hp} {v0 : Nat} {v1 : Int32} {s0 : Nat} {s1 : Int32} {r : Int32} {h9 : Hp} (H : MX12_ahead_19 h v0 v1 s0 s1 = some (r, h9)) : J (d + 7) YX12_ahead 19 [.ref v0, .int v1, Value.null] [.int s1, .ref s0] h (oI r) h9 := by
  unfold MX12_ahead_19 at H
  obtain ⟨g2, H⟩ := gd H
  obtain ⟨h3, e4, H⟩ := lt_el H
  refine J_pI 11 0 dX12_ahead_19 g2 flX12_122 rfl rfl e4 ?_
  have c5 := ekI e4
  have c6 := elI e4
  have c7 := epI e4
  refine J_aload_n 0 dX12_ahead_22 rfl rfl ?_
  obtain ⟨g8, H⟩ := gd H
  refine J_getI 11 0 dX12_ahead_23 (kq c5 g8) flX12_122 rfl ?_
  refine J_if_le 31 dX12_ahead_26 rfl (fun q9 => ?_) (fun q9 => ?_)
  · replace H := br1 q9 H
    refine J_aload_n 0 dX12_ahead_31 rfl rfl ?_
    refine J_gP 11 1 dX12_ahead_32 (kq c5 g8) flX12_8 rfl (congrFun (congrFun c7 v0) 1) ?_
    refine J_iconst (0 : Int32) dX12_ahead_35 kc_0 ?_
    refine J_aload_n 0 dX12_ahead_36 rfl rfl ?_
    refine J_gP 11 3 dX12_ahead_37 (kq c5 g8) flX12_17 rfl (congrFun (congrFun c7 v0) 3) ?_
    refine J_iconst (0 : Int32) dX12_ahead_40 kc_0 ?_
    refine J_ldc (337220 : Int32) coX12_7 dX12_ahead_41 ?_
    obtain ⟨g10, H⟩ := gd H
    obtain ⟨g11, H⟩ := gd H
    obtain ⟨g12, H⟩ := gd H
    obtain ⟨h13, e14, H⟩ := lt_el H
    refine J_cp 20 dX12_ahead_43 mlX12_467 (Or.inl rfl) (kq c5 g10) (kq c5 g11) g12 rfl e14 ?_
    have c15 := (ekR e14).trans c5
    have c16 := (elR e14).trans c6
    have c17 := (epR e14).trans c7
    refine J_iload_n 1 dX12_ahead_46 rfl rfl ?_
    refine J_iconst (-1 : Int32) dX12_ahead_47 kc_m1 ?_
    refine J_icmp_eq 64 dX12_ahead_48 rfl (fun q18 => ?_) (fun q18 => ?_)
    · replace H := br1 q18 H
      exact J_dr (kX12_ahead_64 H ) ⟨rfl, trivial⟩
    · replace H := br0 q18 H
      refine J_aload_n 0 dX12_ahead_51 rfl rfl ?_
      refine J_gP 11 1 dX12_ahead_52 (kq c15 g8) flX12_8 rfl (congrFun (congrFun c17 v0) 1) ?_
      refine J_iload_n 1 dX12_ahead_55 rfl rfl ?_
      obtain ⟨t44, e43, H⟩ := bd H
      refine J_cS (as := [.int v1]) YX12_machine0 1 dX12_ahead_56 moX12_machine0 msX12_machine0 mlX12_360 (okX12_machine0 (d := d + 6) e43) rfl rfl [.ref (gP h v0 1)] rfl rfl (st2 := [.int t44, .ref (gP h v0 1)]) rfl ?_
      refine J_bipush (28 : Int32) dX12_ahead_59 kb_28 ?_
      refine J_iadd dX12_ahead_61 ?_
      refine J_iconst (1 : Int32) dX12_ahead_62 kc_1 ?_
      obtain ⟨g45, H⟩ := gd H
      obtain ⟨h46, e47, H⟩ := lt_el H
      refine J_sI dX12_ahead_63 (kq c15 g10) (lq c16 g45) e47 ?_
      have c48 := (ekI e47).trans c15
      have c49 := (elI e47).trans c16
      have c50 := (epI e47).trans c17
      exact J_dr (kX12_ahead_64 H ) ⟨rfl, trivial⟩
  · replace H := br0 q9 H
    refine J_iconst (0 : Int32) dX12_ahead_29 kc_0 ?_
    cases H
    exact J_iretI dX12_ahead_30 rfl
noncomputable def MX12_ahead_18 (h : Hp) (v0 : Nat) (v1 : Int32) (s0 : Nat) : Option (Int32 × Hp) :=
  MX12_ahead_19 h v0 v1 s0 (0 : Int32)
set_option maxRecDepth 100000 in
set_option maxHeartbeats 8000000 in
theorem kX12_ahead_18 {d : Nat} {h : Hp} {v0 : Nat} {v1 : Int32} {s0 : Nat} {r : Int32} {h9 : Hp} (H : MX12_ahead_18 h v0 v1 s0 = some (r, h9)) : J (d + 7) YX12_ahead 18 [.ref v0, .int v1, Value.null] [.ref s0] h (oI r) h9 := by
  unfold MX12_ahead_18 at H
  refine J_iconst (0 : Int32) dX12_ahead_18 kc_0 ?_
  exact J_dr (kX12_ahead_19 H ) ⟨rfl, ⟨rfl, trivial⟩⟩
noncomputable def MX12_ahead (h : Hp) (v0 : Nat) (v1 : Int32) : Option (Int32 × Hp) :=
  if v1 = (-1 : Int32) then
    MX12_ahead_18 h v0 v1 v0
  else
    gg (β := (Int32 × Hp)) (kd h v0 = 11) <|
    Option.bind (α := Int32) (β := (Int32 × Hp)) (MX12_isMachine h v0 v1) fun (t53 : Int32) =>
    if t53 = 0 then
      MX12_ahead_19 h v0 v1 v0 (1 : Int32)
    else
      MX12_ahead_18 h v0 v1 v0
set_option maxRecDepth 100000 in
set_option maxHeartbeats 8000000 in
theorem eX12_ahead {d : Nat} {h : Hp} {v0 : Nat} {v1 : Int32} {r : Int32} {h9 : Hp} (H : MX12_ahead h v0 v1 = some (r, h9)) : J (d + 7) YX12_ahead 0 [.ref v0, .int v1, Value.null] [] h (oI r) h9 := by
  unfold MX12_ahead at H
  refine J_aload_n 0 dX12_ahead_0 rfl rfl ?_
  refine J_iload_n 1 dX12_ahead_1 rfl rfl ?_
  refine J_iconst (-1 : Int32) dX12_ahead_2 kc_m1 ?_
  refine J_icmp_eq 18 dX12_ahead_3 rfl (fun q1 => ?_) (fun q1 => ?_)
  · replace H := br1 q1 H
    exact J_dr (kX12_ahead_18 H ) ⟨rfl, ⟨rfl, trivial⟩⟩
  · replace H := br0 q1 H
    refine J_aload_n 0 dX12_ahead_6 rfl rfl ?_
    refine J_iload_n 1 dX12_ahead_7 rfl rfl ?_
    obtain ⟨g52, H⟩ := gd H
    obtain ⟨t53, e51, H⟩ := bd H
    refine J_cV (as := [.int v1]) 11 YX12_isMachine 1 dX12_ahead_8 moX12_isMachine mvX12_isMachine mlX12_363 g52 rfl rfl (okX12_isMachine (d := d + 6) e51) rfl rfl [.ref v0] rfl rfl (st2 := [.int t53, .ref v0]) rfl ?_
    refine J_if_ne 18 dX12_ahead_11 rfl (fun q54 => ?_) (fun q54 => ?_)
    · replace H := br0 q54 H
      exact J_dr (kX12_ahead_18 H ) ⟨rfl, ⟨rfl, trivial⟩⟩
    · replace H := br1 q54 H
      refine J_iconst (1 : Int32) dX12_ahead_14 kc_1 ?_
      refine J_goto 19 dX12_ahead_15 rfl ?_
      exact J_dr (kX12_ahead_19 H ) ⟨rfl, ⟨rfl, trivial⟩⟩
theorem okX12_ahead {d : Nat} {h : Hp} {v0 : Nat} {v1 : Int32} {r : Int32} {h9 : Hp} (H : MX12_ahead h v0 v1 = some (r, h9)) : CT (d + 7) YX12_ahead [.ref v0, .int v1] h (oI r) h9 := CT_of (by decide +kernel) (Nat.le_of_ble_eq_true rfl) (eX12_ahead H)
noncomputable def MX12_back_27 (h : Hp) (v0 : Nat) : Option (Int32 × Hp) :=
  gg (β := (Int32 × Hp)) (kd h v0 = 11) <|
  gg (β := (Int32 × Hp)) (zOk (gI h v0 4) = true) <|
  some ((gI h v0 4), h)
set_option maxRecDepth 100000 in
set_option maxHeartbeats 8000000 in
theorem kX12_back_27 {d : Nat} {h : Hp} {v0 : Nat} {r : Int32} {h9 : Hp} (H : MX12_back_27 h v0 = some (r, h9)) : J (d) YX12_back 27 [.ref v0] [] h (oI r) h9 := by
  unfold MX12_back_27 at H
  refine J_aload_n 0 dX12_back_27 rfl rfl ?_
  obtain ⟨g8, H⟩ := gd H
  refine J_getI 11 4 dX12_back_28 g8 flX12_484 rfl ?_
  obtain ⟨g9, H⟩ := gd H
  cases H
  exact J_rZ dX12_back_31 rfl g9
noncomputable def MX12_back (h : Hp) (v0 : Nat) : Option (Int32 × Hp) :=
  gg (β := (Int32 × Hp)) (kd h v0 = 11) <|
  lt (α := Hp) (β := Option (Int32 × Hp)) (sI h v0 0 (0 : Int32)) fun (h2 : Hp) =>
  if (gI h2 v0 4) = 0 then
    MX12_back_27 h2 v0
  else
    gg (β := (Int32 × Hp)) (kd h (gP h v0 2) = 20) <|
    gg (β := (Int32 × Hp)) (kd h (gP h v0 1) = 20) <|
    gg (β := (Int32 × Hp)) (cpB (0 : Int32) (0 : Int32) (337220 : Int32) (ln h2 (gP h v0 2)) (ln h2 (gP h v0 1)) = true) <|
    lt (α := Hp) (β := Option (Int32 × Hp)) (rI h2 (gP h v0 1) (va_cpy (gI h2 (gP h v0 2)) (gI h2 (gP h v0 1)) (0 : Int32).toNatClampNeg (0 : Int32).toNatClampNeg (337220 : Int32).toNatClampNeg)) fun (h13 : Hp) =>
    MX12_back_27 h13 v0
set_option maxRecDepth 100000 in
set_option maxHeartbeats 8000000 in
theorem eX12_back {d : Nat} {h : Hp} {v0 : Nat} {r : Int32} {h9 : Hp} (H : MX12_back h v0 = some (r, h9)) : J (d) YX12_back 0 [.ref v0] [] h (oI r) h9 := by
  unfold MX12_back at H
  refine J_aload_n 0 dX12_back_0 rfl rfl ?_
  refine J_iconst (0 : Int32) dX12_back_1 kc_0 ?_
  obtain ⟨g1, H⟩ := gd H
  obtain ⟨h2, e3, H⟩ := lt_el H
  refine J_pI 11 0 dX12_back_2 g1 flX12_122 rfl rfl e3 ?_
  have c4 := ekI e3
  have c5 := elI e3
  have c6 := epI e3
  refine J_aload_n 0 dX12_back_5 rfl rfl ?_
  refine J_getI 11 4 dX12_back_6 (kq c4 g1) flX12_484 rfl ?_
  refine J_if_eq 27 dX12_back_9 rfl (fun q7 => ?_) (fun q7 => ?_)
  · replace H := br1 q7 H
    exact J_dr (kX12_back_27 H ) ⟨rfl, trivial⟩
  · replace H := br0 q7 H
    refine J_aload_n 0 dX12_back_12 rfl rfl ?_
    refine J_gP 11 2 dX12_back_13 (kq c4 g1) flX12_14 rfl (congrFun (congrFun c6 v0) 2) ?_
    refine J_iconst (0 : Int32) dX12_back_16 kc_0 ?_
    refine J_aload_n 0 dX12_back_17 rfl rfl ?_
    refine J_gP 11 1 dX12_back_18 (kq c4 g1) flX12_8 rfl (congrFun (congrFun c6 v0) 1) ?_
    refine J_iconst (0 : Int32) dX12_back_21 kc_0 ?_
    refine J_ldc (337220 : Int32) coX12_7 dX12_back_22 ?_
    obtain ⟨g10, H⟩ := gd H
    obtain ⟨g11, H⟩ := gd H
    obtain ⟨g12, H⟩ := gd H
    obtain ⟨h13, e14, H⟩ := lt_el H
    refine J_cp 20 dX12_back_24 mlX12_467 (Or.inl rfl) (kq c4 g10) (kq c4 g11) g12 rfl e14 ?_
    have c15 := (ekR e14).trans c4
    have c16 := (elR e14).trans c5
    have c17 := (epR e14).trans c6
    exact J_dr (kX12_back_27 H ) ⟨rfl, trivial⟩
theorem okX12_back {d : Nat} {h : Hp} {v0 : Nat} {r : Int32} {h9 : Hp} (H : MX12_back h v0 = some (r, h9)) : CT (d) YX12_back [.ref v0] h (oI r) h9 := CT_of (by decide +kernel) (Nat.le_of_ble_eq_true rfl) (eX12_back H)
noncomputable def MX12_reach_115 (h : Hp) (v0 : Nat) (v1 : Int32) (v2 : Int32) (v3 : Int32) (v4 : Int32) : Option ((Int32 × Int32 × Hp) ⊕ (Int32 × Hp)) :=
  gg (β := ((Int32 × Int32 × Hp) ⊕ (Int32 × Hp))) (kd h v0 = 11) <|
  gg (β := ((Int32 × Int32 × Hp) ⊕ (Int32 × Hp))) (kd h (gP h v0 37) = 22) <|
  gg (β := ((Int32 × Int32 × Hp) ⊕ (Int32 × Hp))) (inB (v4 + (1 : Int32)) (ln h (gP h v0 37)) = true) <|
  if (gI h (gP h v0 37) (v4 + (1 : Int32)).toNatClampNeg) = 0 then
    some (.inl (v3, (v4 + (1 : Int32)), h))
  else
    some (.inl ((v4 + (1 : Int32)), (v4 + (1 : Int32)), h))
set_option maxRecDepth 100000 in
set_option maxHeartbeats 8000000 in
theorem kX12_reach_115 {d : Nat} {h : Hp} {v0 : Nat} {v1 : Int32} {v2 : Int32} {v3 : Int32} {v4 : Int32} {r : Int32} {h9 : Hp} {x : ((Int32 × Int32 × Hp) ⊕ (Int32 × Hp))} (H : MX12_reach_115 h v0 v1 v2 v3 v4 = some x) (hb0 : ∀ s : Int32 × Int32 × Hp, x = .inl s → J (d + 4) YX12_reach 45 [.ref v0, .int v1, .int v2, .int s.1, .int s.2.1, Value.null] [] s.2.2 (oI r) h9) (hx : ∀ z : (Int32 × Hp), x = .inr (z) → z = (r, h9)) : J (d + 4) YX12_reach 115 [.ref v0, .int v1, .int v2, .int v3, .int v4, Value.null] [] h (oI r) h9 := by
  unfold MX12_reach_115 at H
  refine J_aload_n 0 dX12_reach_115 rfl rfl ?_
  obtain ⟨g17, H⟩ := gd H
  refine J_gP 11 37 dX12_reach_116 g17 flX12_70 rfl rfl ?_
  refine J_iload dX12_reach_119 rfl ?_
  refine J_iconst (1 : Int32) dX12_reach_121 kc_1 ?_
  refine J_iadd dX12_reach_122 ?_
  obtain ⟨g18, H⟩ := gd H
  obtain ⟨g19, H⟩ := gd H
  refine J_zald dX12_reach_123 g18 (inB_ok g19) ?_
  refine J_if_eq 132 dX12_reach_124 rfl (fun q20 => ?_) (fun q20 => ?_)
  · replace H := br1 q20 H
    refine J_iinc (v4 + (1 : Int32)) dX12_reach_132 rfl (congrArg (HAdd.hAdd v4) kc_1) (by decide) (ls' := [.ref v0, .int v1, .int v2, .int v3, .int (v4 + (1 : Int32)), Value.null]) rfl ?_
    refine J_goto 45 dX12_reach_135 rfl ?_
    cases H
    exact J_dr (hb0 _ rfl) ⟨rfl, ⟨rfl, ⟨rfl, ⟨rfl, ⟨rfl, trivial⟩⟩⟩⟩⟩
  · replace H := br0 q20 H
    refine J_iload dX12_reach_127 rfl ?_
    refine J_iconst (1 : Int32) dX12_reach_129 kc_1 ?_
    refine J_iadd dX12_reach_130 ?_
    refine J_istore_n 3 dX12_reach_131 rfl (by decide) (ls' := [.ref v0, .int v1, .int v2, .int (v4 + (1 : Int32)), .int v4, Value.null]) rfl ?_
    refine J_iinc (v4 + (1 : Int32)) dX12_reach_132 rfl (congrArg (HAdd.hAdd v4) kc_1) (by decide) (ls' := [.ref v0, .int v1, .int v2, .int (v4 + (1 : Int32)), .int (v4 + (1 : Int32)), Value.null]) rfl ?_
    refine J_goto 45 dX12_reach_135 rfl ?_
    cases H
    exact J_dr (hb0 _ rfl) ⟨rfl, ⟨rfl, ⟨rfl, ⟨rfl, ⟨rfl, trivial⟩⟩⟩⟩⟩
noncomputable def MX12_reach_108 (h : Hp) (v0 : Nat) (v1 : Int32) (v2 : Int32) (v3 : Int32) (v4 : Int32) (v5 : Int32) (s0 : Nat) (s1 : Int32) (s2 : Int32) : Option ((Int32 × Hp) ⊕ ((Int32 × Int32 × Hp) ⊕ (Int32 × Hp))) :=
  gg (β := ((Int32 × Hp) ⊕ ((Int32 × Int32 × Hp) ⊕ (Int32 × Hp)))) (kd h s0 = 22) <|
  gg (β := ((Int32 × Hp) ⊕ ((Int32 × Int32 × Hp) ⊕ (Int32 × Hp)))) (inB s1 (ln h s0) = true) <|
  lt (α := Hp) (β := Option ((Int32 × Hp) ⊕ ((Int32 × Int32 × Hp) ⊕ (Int32 × Hp)))) (sI h s0 s1.toNatClampNeg (vp_nar .boolean s2)) fun (h29 : Hp) =>
  some (.inl ((v5 + (1 : Int32)), h29))
set_option maxRecDepth 100000 in
set_option maxHeartbeats 8000000 in
theorem kX12_reach_108 {d : Nat} {h : Hp} {v0 : Nat} {v1 : Int32} {v2 : Int32} {v3 : Int32} {v4 : Int32} {v5 : Int32} {s0 : Nat} {s1 : Int32} {s2 : Int32} {r : Int32} {h9 : Hp} {x : ((Int32 × Hp) ⊕ ((Int32 × Int32 × Hp) ⊕ (Int32 × Hp)))} (H : MX12_reach_108 h v0 v1 v2 v3 v4 v5 s0 s1 s2 = some x) (hb0 : ∀ s : Int32 × Hp, x = .inl s → J (d + 4) YX12_reach 57 [.ref v0, .int v1, .int v2, .int v3, .int v4, .int s.1] [] s.2 (oI r) h9) (hb1 : ∀ s : Int32 × Int32 × Hp, x = .inr (.inl s) → J (d + 4) YX12_reach 45 [.ref v0, .int v1, .int v2, .int s.1, .int s.2.1, Value.null] [] s.2.2 (oI r) h9) (hx : ∀ z : (Int32 × Hp), x = .inr (.inr (z)) → z = (r, h9)) : J (d + 4) YX12_reach 108 [.ref v0, .int v1, .int v2, .int v3, .int v4, .int v5] [.int s2, .int s1, .ref s0] h (oI r) h9 := by
  unfold MX12_reach_108 at H
  obtain ⟨g27, H⟩ := gd H
  obtain ⟨g28, H⟩ := gd H
  obtain ⟨h29, e30, H⟩ := lt_el H
  refine J_sZ dX12_reach_108 g27 (inB_ok g28) e30 ?_
  have c31 := ekI e30
  have c32 := elI e30
  have c33 := epI e30
  refine J_iinc (v5 + (1 : Int32)) dX12_reach_109 rfl (congrArg (HAdd.hAdd v5) kc_1) (by decide) (ls' := [.ref v0, .int v1, .int v2, .int v3, .int v4, .int (v5 + (1 : Int32))]) rfl ?_
  refine J_goto 57 dX12_reach_112 rfl ?_
  cases H
  exact J_dr (hb0 _ rfl) ⟨rfl, ⟨rfl, ⟨rfl, ⟨rfl, ⟨rfl, ⟨rfl, trivial⟩⟩⟩⟩⟩⟩
noncomputable def MX12_reach_103 (h : Hp) (v0 : Nat) (v1 : Int32) (v2 : Int32) (v3 : Int32) (v4 : Int32) (v5 : Int32) (s0 : Nat) (s1 : Int32) : Option ((Int32 × Hp) ⊕ ((Int32 × Int32 × Hp) ⊕ (Int32 × Hp))) :=
  MX12_reach_108 h v0 v1 v2 v3 v4 v5 s0 s1 (1 : Int32)
set_option maxRecDepth 100000 in
set_option maxHeartbeats 8000000 in
theorem kX12_reach_103 {d : Nat} {h : Hp} {v0 : Nat} {v1 : Int32} {v2 : Int32} {v3 : Int32} {v4 : Int32} {v5 : Int32} {s0 : Nat} {s1 : Int32} {r : Int32} {h9 : Hp} {x : ((Int32 × Hp) ⊕ ((Int32 × Int32 × Hp) ⊕ (Int32 × Hp)))} (H : MX12_reach_103 h v0 v1 v2 v3 v4 v5 s0 s1 = some x) (hb0 : ∀ s : Int32 × Hp, x = .inl s → J (d + 4) YX12_reach 57 [.ref v0, .int v1, .int v2, .int v3, .int v4, .int s.1] [] s.2 (oI r) h9) (hb1 : ∀ s : Int32 × Int32 × Hp, x = .inr (.inl s) → J (d + 4) YX12_reach 45 [.ref v0, .int v1, .int v2, .int s.1, .int s.2.1, Value.null] [] s.2.2 (oI r) h9) (hx : ∀ z : (Int32 × Hp), x = .inr (.inr (z)) → z = (r, h9)) : J (d + 4) YX12_reach 103 [.ref v0, .int v1, .int v2, .int v3, .int v4, .int v5] [.int s1, .ref s0] h (oI r) h9 := by
  unfold MX12_reach_103 at H
  refine J_iconst (1 : Int32) dX12_reach_103 kc_1 ?_
  refine J_goto 108 dX12_reach_104 rfl ?_
  exact J_dr (kX12_reach_108 H hb0 hb1 hx) ⟨rfl, ⟨rfl, ⟨rfl, ⟨rfl, ⟨rfl, ⟨rfl, trivial⟩⟩⟩⟩⟩⟩
noncomputable def BX12_reach_57 (h : Hp) (v0 : Nat) (v1 : Int32) (v2 : Int32) (v3 : Int32) (v4 : Int32) (v5 : Int32) : Option ((Int32 × Hp) ⊕ ((Int32 × Int32 × Hp) ⊕ (Int32 × Hp))) :=
  if v2 < v5 then
    up1 (MX12_reach_115 h v0 v1 v2 v3 v4)
  else
    gg (β := ((Int32 × Hp) ⊕ ((Int32 × Int32 × Hp) ⊕ (Int32 × Hp)))) (kd h v0 = 11) <|
    gg (β := ((Int32 × Hp) ⊕ ((Int32 × Int32 × Hp) ⊕ (Int32 × Hp)))) (kd h (gP h v0 37) = 22) <|
    gg (β := ((Int32 × Hp) ⊕ ((Int32 × Int32 × Hp) ⊕ (Int32 × Hp)))) (inB v4 (ln h (gP h v0 37)) = true) <|
    if (gI h (gP h v0 37) v4.toNatClampNeg) = 0 then
      up1 (MX12_reach_115 h v0 v1 v2 v3 v4)
    else
      gg (β := ((Int32 × Hp) ⊕ ((Int32 × Int32 × Hp) ⊕ (Int32 × Hp)))) (inB v5 (ln h (gP h v0 37)) = true) <|
      if (gI h (gP h v0 37) v5.toNatClampNeg) = 0 then
        Option.bind (α := Int32) (β := ((Int32 × Hp) ⊕ ((Int32 × Int32 × Hp) ⊕ (Int32 × Hp)))) (MX12_isStanding h v0 v1 v4 (v5 - (1 : Int32))) fun (t35 : Int32) =>
        if t35 = 0 then
          MX12_reach_108 h v0 v1 v2 v3 v4 v5 (gP h v0 37) v5 (0 : Int32)
        else
          MX12_reach_103 h v0 v1 v2 v3 v4 v5 (gP h v0 37) v5
      else
        MX12_reach_103 h v0 v1 v2 v3 v4 v5 (gP h v0 37) v5
set_option maxRecDepth 100000 in
set_option maxHeartbeats 8000000 in
theorem bX12_reach_57 {d : Nat} {h : Hp} {v0 : Nat} {v1 : Int32} {v2 : Int32} {v3 : Int32} {v4 : Int32} {v5 : Int32} {r : Int32} {h9 : Hp} {x : ((Int32 × Hp) ⊕ ((Int32 × Int32 × Hp) ⊕ (Int32 × Hp)))} (H : BX12_reach_57 h v0 v1 v2 v3 v4 v5 = some x) (hb0 : ∀ s : Int32 × Hp, x = .inl s → J (d + 4) YX12_reach 57 [.ref v0, .int v1, .int v2, .int v3, .int v4, .int s.1] [] s.2 (oI r) h9) (hb1 : ∀ s : Int32 × Int32 × Hp, x = .inr (.inl s) → J (d + 4) YX12_reach 45 [.ref v0, .int v1, .int v2, .int s.1, .int s.2.1, Value.null] [] s.2.2 (oI r) h9) (hx : ∀ z : (Int32 × Hp), x = .inr (.inr (z)) → z = (r, h9)) : J (d + 4) YX12_reach 57 [.ref v0, .int v1, .int v2, .int v3, .int v4, .int v5] [] h (oI r) h9 := by
  unfold BX12_reach_57 at H
  refine J_iload dX12_reach_57 rfl ?_
  refine J_iload_n 2 dX12_reach_59 rfl rfl ?_
  refine J_icmp_gt 115 dX12_reach_60 rfl (fun q16 => ?_) (fun q16 => ?_)
  · replace H := br1 q16 H
    obtain ⟨y0, H90, rfl⟩ := up1_el H
    replace H := H90
    exact J_dr (kX12_reach_115 H (fun s hs => hb1 s (congrArg Sum.inr hs)) (fun s hs => hx s (congrArg Sum.inr hs))) ⟨rfl, ⟨rfl, ⟨rfl, ⟨rfl, ⟨rfl, trivial⟩⟩⟩⟩⟩
  · replace H := br0 q16 H
    refine J_aload_n 0 dX12_reach_63 rfl rfl ?_
    obtain ⟨g21, H⟩ := gd H
    refine J_gP 11 37 dX12_reach_64 g21 flX12_70 rfl rfl ?_
    refine J_iload dX12_reach_67 rfl ?_
    obtain ⟨g22, H⟩ := gd H
    obtain ⟨g23, H⟩ := gd H
    refine J_zald dX12_reach_69 g22 (inB_ok g23) ?_
    refine J_if_eq 115 dX12_reach_70 rfl (fun q24 => ?_) (fun q24 => ?_)
    · replace H := br1 q24 H
      obtain ⟨y0, H90, rfl⟩ := up1_el H
      replace H := H90
      exact J_dr (kX12_reach_115 H (fun s hs => hb1 s (congrArg Sum.inr hs)) (fun s hs => hx s (congrArg Sum.inr hs))) ⟨rfl, ⟨rfl, ⟨rfl, ⟨rfl, ⟨rfl, trivial⟩⟩⟩⟩⟩
    · replace H := br0 q24 H
      refine J_aload_n 0 dX12_reach_73 rfl rfl ?_
      refine J_gP 11 37 dX12_reach_74 g21 flX12_70 rfl rfl ?_
      refine J_iload dX12_reach_77 rfl ?_
      refine J_aload_n 0 dX12_reach_79 rfl rfl ?_
      refine J_gP 11 37 dX12_reach_80 g21 flX12_70 rfl rfl ?_
      refine J_iload dX12_reach_83 rfl ?_
      obtain ⟨g25, H⟩ := gd H
      refine J_zald dX12_reach_85 g22 (inB_ok g25) ?_
      refine J_if_ne 103 dX12_reach_86 rfl (fun q26 => ?_) (fun q26 => ?_)
      · replace H := br0 q26 H
        exact J_dr (kX12_reach_103 H hb0 hb1 hx) ⟨rfl, ⟨rfl, ⟨rfl, ⟨rfl, ⟨rfl, ⟨rfl, trivial⟩⟩⟩⟩⟩⟩
      · replace H := br1 q26 H
        refine J_aload_n 0 dX12_reach_89 rfl rfl ?_
        refine J_iload_n 1 dX12_reach_90 rfl rfl ?_
        refine J_iload dX12_reach_91 rfl ?_
        refine J_iload dX12_reach_93 rfl ?_
        refine J_iconst (1 : Int32) dX12_reach_95 kc_1 ?_
        refine J_isub dX12_reach_96 ?_
        obtain ⟨t35, e34, H⟩ := bd H
        refine J_cV (as := [.int v1, .int v4, .int (v5 - (1 : Int32))]) 11 YX12_isStanding 3 dX12_reach_97 moX12_isStanding mvX12_isStanding mlX12_333 g21 rfl rfl (okX12_isStanding (d := d) e34) rfl rfl [.int v5, .ref (gP h v0 37)] rfl rfl (st2 := [.int t35, .int v5, .ref (gP h v0 37)]) rfl ?_
        refine J_if_eq 107 dX12_reach_100 rfl (fun q36 => ?_) (fun q36 => ?_)
        · replace H := br1 q36 H
          refine J_iconst (0 : Int32) dX12_reach_107 kc_0 ?_
          exact J_dr (kX12_reach_108 H hb0 hb1 hx) ⟨rfl, ⟨rfl, ⟨rfl, ⟨rfl, ⟨rfl, ⟨rfl, trivial⟩⟩⟩⟩⟩⟩
        · replace H := br0 q36 H
          exact J_dr (kX12_reach_103 H hb0 hb1 hx) ⟨rfl, ⟨rfl, ⟨rfl, ⟨rfl, ⟨rfl, ⟨rfl, trivial⟩⟩⟩⟩⟩⟩
noncomputable def MX12_reach_57 (h : Hp) (v0 : Nat) (v1 : Int32) (v2 : Int32) (v3 : Int32) (v4 : Int32) (v5 : Int32) : Option ((Int32 × Int32 × Hp) ⊕ (Int32 × Hp)) := it (fun q : Int32 × Hp => BX12_reach_57 q.2 v0 v1 v2 v3 v4 q.1) (v5, h)
set_option maxRecDepth 100000 in
set_option maxHeartbeats 8000000 in
theorem kX12_reach_57 {d : Nat} {h : Hp} {v0 : Nat} {v1 : Int32} {v2 : Int32} {v3 : Int32} {v4 : Int32} {v5 : Int32} {r : Int32} {h9 : Hp} {x : ((Int32 × Int32 × Hp) ⊕ (Int32 × Hp))} (H : MX12_reach_57 h v0 v1 v2 v3 v4 v5 = some x) (hb0 : ∀ s : Int32 × Int32 × Hp, x = .inl s → J (d + 4) YX12_reach 45 [.ref v0, .int v1, .int v2, .int s.1, .int s.2.1, Value.null] [] s.2.2 (oI r) h9) (hx : ∀ z : (Int32 × Hp), x = .inr (z) → z = (r, h9)) : J (d + 4) YX12_reach 57 [.ref v0, .int v1, .int v2, .int v3, .int v4, .int v5] [] h (oI r) h9 := by
  unfold MX12_reach_57 at H
  refine it_J (G := (fun q : Int32 × Hp => J (d + 4) YX12_reach 57 [.ref v0, .int v1, .int v2, .int v3, .int v4, .int q.1] [] q.2 (oI r) h9)) (Q := (fun y : ((Int32 × Int32 × Hp) ⊕ (Int32 × Hp)) => (∀ s : Int32 × Int32 × Hp, y = .inl s → J (d + 4) YX12_reach 45 [.ref v0, .int v1, .int v2, .int s.1, .int s.2.1, Value.null] [] s.2.2 (oI r) h9) ∧ (∀ z : (Int32 × Hp), y = .inr (z) → z = (r, h9)))) (fun q x Hq hm => ?_) H ⟨hb0, hx⟩
  exact bX12_reach_57 Hq (fun s hs => by subst hs; exact hm) (fun s hs => by subst hs; exact (hm.1) s rfl) (fun z hz => by subst hz; exact (hm.2) z rfl)
noncomputable def BX12_reach_45 (h : Hp) (v0 : Nat) (v1 : Int32) (v2 : Int32) (v3 : Int32) (v4 : Int32) : Option ((Int32 × Int32 × Hp) ⊕ (Int32 × Hp)) :=
  if v2 ≤ v4 then
    some (.inr ((v3, h)))
  else
    MX12_reach_57 h v0 v1 v2 v3 v4 (v4 + (1 : Int32))
set_option maxRecDepth 100000 in
set_option maxHeartbeats 8000000 in
theorem bX12_reach_45 {d : Nat} {h : Hp} {v0 : Nat} {v1 : Int32} {v2 : Int32} {v3 : Int32} {v4 : Int32} {r : Int32} {h9 : Hp} {x : ((Int32 × Int32 × Hp) ⊕ (Int32 × Hp))} (H : BX12_reach_45 h v0 v1 v2 v3 v4 = some x) (hb0 : ∀ s : Int32 × Int32 × Hp, x = .inl s → J (d + 4) YX12_reach 45 [.ref v0, .int v1, .int v2, .int s.1, .int s.2.1, Value.null] [] s.2.2 (oI r) h9) (hx : ∀ z : (Int32 × Hp), x = .inr (z) → z = (r, h9)) : J (d + 4) YX12_reach 45 [.ref v0, .int v1, .int v2, .int v3, .int v4, Value.null] [] h (oI r) h9 := by
  unfold BX12_reach_45 at H
  refine J_iload dX12_reach_45 rfl ?_
  refine J_iload_n 2 dX12_reach_47 rfl rfl ?_
  refine J_icmp_ge 138 dX12_reach_48 rfl (fun q15 => ?_) (fun q15 => ?_)
  · replace H := br1 q15 H
    refine J_iload_n 3 dX12_reach_138 rfl rfl ?_
    cases H
    cases hx _ rfl
    exact J_iretI dX12_reach_139 rfl
  · replace H := br0 q15 H
    refine J_iload dX12_reach_51 rfl ?_
    refine J_iconst (1 : Int32) dX12_reach_53 kc_1 ?_
    refine J_iadd dX12_reach_54 ?_
    refine J_istore dX12_reach_55 (by decide) (ls' := [.ref v0, .int v1, .int v2, .int v3, .int v4, .int (v4 + (1 : Int32))]) rfl ?_
    exact J_dr (kX12_reach_57 H hb0 hx) ⟨rfl, ⟨rfl, ⟨rfl, ⟨rfl, ⟨rfl, ⟨rfl, trivial⟩⟩⟩⟩⟩⟩
noncomputable def MX12_reach_45 (h : Hp) (v0 : Nat) (v1 : Int32) (v2 : Int32) (v3 : Int32) (v4 : Int32) : Option (Int32 × Hp) := it (fun q : Int32 × Int32 × Hp => BX12_reach_45 q.2.2 v0 v1 v2 q.1 q.2.1) (v3, v4, h)
set_option maxRecDepth 100000 in
set_option maxHeartbeats 8000000 in
theorem kX12_reach_45 {d : Nat} {h : Hp} {v0 : Nat} {v1 : Int32} {v2 : Int32} {v3 : Int32} {v4 : Int32} {r : Int32} {h9 : Hp} (H : MX12_reach_45 h v0 v1 v2 v3 v4 = some (r, h9)) : J (d + 4) YX12_reach 45 [.ref v0, .int v1, .int v2, .int v3, .int v4, Value.null] [] h (oI r) h9 := by
  unfold MX12_reach_45 at H
  refine it_J (G := (fun q : Int32 × Int32 × Hp => J (d + 4) YX12_reach 45 [.ref v0, .int v1, .int v2, .int q.1, .int q.2.1, Value.null] [] q.2.2 (oI r) h9)) (Q := (fun y : (Int32 × Hp) => y = (r, h9))) (fun q x Hq hm => ?_) H rfl
  exact bX12_reach_45 Hq (fun s hs => by subst hs; exact hm) (fun z hz => by subst hz; exact hm)
noncomputable def MX12_reach_33 (h : Hp) (v0 : Nat) (v1 : Int32) (v2 : Int32) : Option (Int32 × Hp) :=
  gg (β := (Int32 × Hp)) (kd h v0 = 11) <|
  gg (β := (Int32 × Hp)) (kd h (gP h v0 37) = 22) <|
  gg (β := (Int32 × Hp)) (inB (0 : Int32) (ln h (gP h v0 37)) = true) <|
  lt (α := Hp) (β := Option (Int32 × Hp)) (sI h (gP h v0 37) (0 : Int32).toNatClampNeg (vp_nar .boolean (1 : Int32))) fun (h10 : Hp) =>
  MX12_reach_45 h10 v0 v1 v2 (0 : Int32) (0 : Int32)
set_option maxRecDepth 100000 in
set_option maxHeartbeats 8000000 in
theorem kX12_reach_33 {d : Nat} {h : Hp} {v0 : Nat} {v1 : Int32} {v2 : Int32} {r : Int32} {h9 : Hp} (H : MX12_reach_33 h v0 v1 v2 = some (r, h9)) : J (d + 4) YX12_reach 33 [.ref v0, .int v1, .int v2, Value.null, Value.null, Value.null] [] h (oI r) h9 := by
  unfold MX12_reach_33 at H
  refine J_aload_n 0 dX12_reach_33 rfl rfl ?_
  obtain ⟨g7, H⟩ := gd H
  refine J_gP 11 37 dX12_reach_34 g7 flX12_70 rfl rfl ?_
  refine J_iconst (0 : Int32) dX12_reach_37 kc_0 ?_
  refine J_iconst (1 : Int32) dX12_reach_38 kc_1 ?_
  obtain ⟨g8, H⟩ := gd H
  obtain ⟨g9, H⟩ := gd H
  obtain ⟨h10, e11, H⟩ := lt_el H
  refine J_sZ dX12_reach_39 g8 (inB_ok g9) e11 ?_
  have c12 := ekI e11
  have c13 := elI e11
  have c14 := epI e11
  refine J_iconst (0 : Int32) dX12_reach_40 kc_0 ?_
  refine J_istore_n 3 dX12_reach_41 rfl (by decide) (ls' := [.ref v0, .int v1, .int v2, .int (0 : Int32), Value.null, Value.null]) rfl ?_
  refine J_iconst (0 : Int32) dX12_reach_42 kc_0 ?_
  refine J_istore dX12_reach_43 (by decide) (ls' := [.ref v0, .int v1, .int v2, .int (0 : Int32), .int (0 : Int32), Value.null]) rfl ?_
  exact J_dr (kX12_reach_45 H ) ⟨rfl, ⟨rfl, ⟨rfl, ⟨rfl, ⟨rfl, trivial⟩⟩⟩⟩⟩
noncomputable def BX12_reach_14 (h : Hp) (v0 : Nat) (v1 : Int32) (v2 : Int32) (v3 : Int32) : Option ((Int32 × Hp) ⊕ (Int32 × Hp)) :=
  if (41 : Int32) ≤ v3 then
    up1 (MX12_reach_33 h v0 v1 v2)
  else
    gg (β := ((Int32 × Hp) ⊕ (Int32 × Hp))) (kd h v0 = 11) <|
    gg (β := ((Int32 × Hp) ⊕ (Int32 × Hp))) (kd h (gP h v0 37) = 22) <|
    gg (β := ((Int32 × Hp) ⊕ (Int32 × Hp))) (inB v3 (ln h (gP h v0 37)) = true) <|
    lt (α := Hp) (β := Option ((Int32 × Hp) ⊕ (Int32 × Hp))) (sI h (gP h v0 37) v3.toNatClampNeg (vp_nar .boolean (0 : Int32))) fun (h40 : Hp) =>
    some (.inl ((v3 + (1 : Int32)), h40))
set_option maxRecDepth 100000 in
set_option maxHeartbeats 8000000 in
theorem bX12_reach_14 {d : Nat} {h : Hp} {v0 : Nat} {v1 : Int32} {v2 : Int32} {v3 : Int32} {r : Int32} {h9 : Hp} {x : ((Int32 × Hp) ⊕ (Int32 × Hp))} (H : BX12_reach_14 h v0 v1 v2 v3 = some x) (hb0 : ∀ s : Int32 × Hp, x = .inl s → J (d + 4) YX12_reach 14 [.ref v0, .int v1, .int v2, .int s.1, Value.null, Value.null] [] s.2 (oI r) h9) (hx : ∀ z : (Int32 × Hp), x = .inr (z) → z = (r, h9)) : J (d + 4) YX12_reach 14 [.ref v0, .int v1, .int v2, .int v3, Value.null, Value.null] [] h (oI r) h9 := by
  unfold BX12_reach_14 at H
  refine J_iload_n 3 dX12_reach_14 rfl rfl ?_
  refine J_bipush (41 : Int32) dX12_reach_15 kb_41 ?_
  refine J_icmp_ge 33 dX12_reach_17 rfl (fun q6 => ?_) (fun q6 => ?_)
  · replace H := br1 q6 H
    obtain ⟨y0, H90, rfl⟩ := up1_el H
    replace H := H90
    obtain rfl := hx _ rfl
    exact J_dr (kX12_reach_33 H ) ⟨rfl, ⟨rfl, ⟨rfl, trivial⟩⟩⟩
  · replace H := br0 q6 H
    refine J_aload_n 0 dX12_reach_20 rfl rfl ?_
    obtain ⟨g37, H⟩ := gd H
    refine J_gP 11 37 dX12_reach_21 g37 flX12_70 rfl rfl ?_
    refine J_iload_n 3 dX12_reach_24 rfl rfl ?_
    refine J_iconst (0 : Int32) dX12_reach_25 kc_0 ?_
    obtain ⟨g38, H⟩ := gd H
    obtain ⟨g39, H⟩ := gd H
    obtain ⟨h40, e41, H⟩ := lt_el H
    refine J_sZ dX12_reach_26 g38 (inB_ok g39) e41 ?_
    have c42 := ekI e41
    have c43 := elI e41
    have c44 := epI e41
    refine J_iinc (v3 + (1 : Int32)) dX12_reach_27 rfl (congrArg (HAdd.hAdd v3) kc_1) (by decide) (ls' := [.ref v0, .int v1, .int v2, .int (v3 + (1 : Int32)), Value.null, Value.null]) rfl ?_
    refine J_goto 14 dX12_reach_30 rfl ?_
    cases H
    exact J_dr (hb0 _ rfl) ⟨rfl, ⟨rfl, ⟨rfl, ⟨rfl, trivial⟩⟩⟩⟩
noncomputable def MX12_reach_14 (h : Hp) (v0 : Nat) (v1 : Int32) (v2 : Int32) (v3 : Int32) : Option (Int32 × Hp) := it (fun q : Int32 × Hp => BX12_reach_14 q.2 v0 v1 v2 q.1) (v3, h)
set_option maxRecDepth 100000 in
set_option maxHeartbeats 8000000 in
theorem kX12_reach_14 {d : Nat} {h : Hp} {v0 : Nat} {v1 : Int32} {v2 : Int32} {v3 : Int32} {r : Int32} {h9 : Hp} (H : MX12_reach_14 h v0 v1 v2 v3 = some (r, h9)) : J (d + 4) YX12_reach 14 [.ref v0, .int v1, .int v2, .int v3, Value.null, Value.null] [] h (oI r) h9 := by
  unfold MX12_reach_14 at H
  refine it_J (G := (fun q : Int32 × Hp => J (d + 4) YX12_reach 14 [.ref v0, .int v1, .int v2, .int q.1, Value.null, Value.null] [] q.2 (oI r) h9)) (Q := (fun y : (Int32 × Hp) => y = (r, h9))) (fun q x Hq hm => ?_) H rfl
  exact bX12_reach_14 Hq (fun s hs => by subst hs; exact hm) (fun z hz => by subst hz; exact hm)
noncomputable def MX12_reach (h : Hp) (v0 : Nat) (v1 : Int32) : Option (Int32 × Hp) :=
  gg (β := (Int32 × Hp)) (kd h v0 = 11) <|
  Option.bind (α := Int32) (β := (Int32 × Hp)) (MX12_part0 h v1) fun (t3 : Int32) =>
  gg (β := (Int32 × Hp)) (kd h (gP h v0 1) = 20) <|
  gg (β := (Int32 × Hp)) (inB (t3 + (1 : Int32)) (ln h (gP h v0 1)) = true) <|
  MX12_reach_14 h v0 v1 (gI h (gP h v0 1) (t3 + (1 : Int32)).toNatClampNeg) (1 : Int32)
set_option maxRecDepth 100000 in
set_option maxHeartbeats 8000000 in
theorem eX12_reach {d : Nat} {h : Hp} {v0 : Nat} {v1 : Int32} {r : Int32} {h9 : Hp} (H : MX12_reach h v0 v1 = some (r, h9)) : J (d + 4) YX12_reach 0 [.ref v0, .int v1, Value.null, Value.null, Value.null, Value.null] [] h (oI r) h9 := by
  unfold MX12_reach at H
  refine J_aload_n 0 dX12_reach_0 rfl rfl ?_
  obtain ⟨g1, H⟩ := gd H
  refine J_gP 11 1 dX12_reach_1 g1 flX12_8 rfl rfl ?_
  refine J_iload_n 1 dX12_reach_4 rfl rfl ?_
  obtain ⟨t3, e2, H⟩ := bd H
  refine J_cS (as := [.int v1]) YX12_part0 1 dX12_reach_5 moX12_part0 msX12_part0 mlX12_164 (okX12_part0 (d := d + 3) e2) rfl rfl [.ref (gP h v0 1)] rfl rfl (st2 := [.int t3, .ref (gP h v0 1)]) rfl ?_
  refine J_iconst (1 : Int32) dX12_reach_8 kc_1 ?_
  refine J_iadd dX12_reach_9 ?_
  obtain ⟨g4, H⟩ := gd H
  obtain ⟨g5, H⟩ := gd H
  refine J_iald dX12_reach_10 g4 (inB_ok g5) ?_
  refine J_istore_n 2 dX12_reach_11 rfl (by decide) (ls' := [.ref v0, .int v1, .int (gI h (gP h v0 1) (t3 + (1 : Int32)).toNatClampNeg), Value.null, Value.null, Value.null]) rfl ?_
  refine J_iconst (1 : Int32) dX12_reach_12 kc_1 ?_
  refine J_istore_n 3 dX12_reach_13 rfl (by decide) (ls' := [.ref v0, .int v1, .int (gI h (gP h v0 1) (t3 + (1 : Int32)).toNatClampNeg), .int (1 : Int32), Value.null, Value.null]) rfl ?_
  exact J_dr (kX12_reach_14 H ) ⟨rfl, ⟨rfl, ⟨rfl, ⟨rfl, trivial⟩⟩⟩⟩
theorem okX12_reach {d : Nat} {h : Hp} {v0 : Nat} {v1 : Int32} {r : Int32} {h9 : Hp} (H : MX12_reach h v0 v1 = some (r, h9)) : CT (d + 4) YX12_reach [.ref v0, .int v1] h (oI r) h9 := CT_of (by decide +kernel) (Nat.le_of_ble_eq_true rfl) (eX12_reach H)
noncomputable def MX12_best_27 (h : Hp) (v0 : Nat) (v1 : Int32) (v2 : Int32) (s0 : Nat) (s1 : Int32) : Option (Int32 × Hp) :=
  gg (β := (Int32 × Hp)) (kd h s0 = 11) <|
  lt (α := Hp) (β := Option (Int32 × Hp)) (sI h s0 0 s1) fun (h9 : Hp) =>
  gg (β := (Int32 × Hp)) (kd h v0 = 11) <|
  if (gI h9 v0 0) ≤ 0 then
    gg (β := (Int32 × Hp)) (kd h (gP h v0 1) = 20) <|
    gg (β := (Int32 × Hp)) (inB (0 : Int32) (ln h (gP h v0 1)) = true) <|
    Option.bind (α := Hp) (β := (Int32 × Hp)) (MX12_work h9 v0 v1 (gI h9 (gP h v0 1) (0 : Int32).toNatClampNeg)) fun (h19 : Hp) =>
    if v2 = (2 : Int32) then
      gg (β := (Int32 × Hp)) (kd h19 v0 = 11) <|
      b2 (α := Int32) (β := Hp) (γ := (Int32 × Hp)) (MX12_reach h19 v0 v1) fun (t31 : Int32) (h30 : Hp) =>
      some (t31, h30)
    else
      gg (β := (Int32 × Hp)) (kd h19 v0 = 11) <|
      gg (β := (Int32 × Hp)) (kd h19 (gP h19 v0 31) = 20) <|
      gg (β := (Int32 × Hp)) (inB (0 : Int32) (ln h19 (gP h19 v0 31)) = true) <|
      if (gI h19 (gP h19 v0 31) (0 : Int32).toNatClampNeg) = (-1 : Int32) then
        some ((-1 : Int32), h19)
      else
        if v2 = 0 then
          gg (β := (Int32 × Hp)) (kd h19 (gP h19 v0 32) = 20) <|
          gg (β := (Int32 × Hp)) (inB (0 : Int32) (ln h19 (gP h19 v0 32)) = true) <|
          some ((gI h19 (gP h19 v0 32) (0 : Int32).toNatClampNeg), h19)
        else
          some ((gI h19 (gP h19 v0 31) (0 : Int32).toNatClampNeg), h19)
  else
    some ((0 : Int32), h9)
set_option maxRecDepth 100000 in
set_option maxHeartbeats 8000000 in
theorem kX12_best_27 {d : Nat} {h : Hp} {v0 : Nat} {v1 : Int32} {v2 : Int32} {s0 : Nat} {s1 : Int32} {r : Int32} {h9 : Hp} (H : MX12_best_27 h v0 v1 v2 s0 s1 = some (r, h9)) : J (d + 5) YX12_best 27 [.ref v0, .int v1, .int v2] [.int s1, .ref s0] h (oI r) h9 := by
  unfold MX12_best_27 at H
  obtain ⟨g8, H⟩ := gd H
  obtain ⟨h9, e10, H⟩ := lt_el H
  refine J_pI 11 0 dX12_best_27 g8 flX12_122 rfl rfl e10 ?_
  have c11 := ekI e10
  have c12 := elI e10
  have c13 := epI e10
  refine J_aload_n 0 dX12_best_30 rfl rfl ?_
  obtain ⟨g14, H⟩ := gd H
  refine J_getI 11 0 dX12_best_31 (kq c11 g14) flX12_122 rfl ?_
  refine J_if_le 39 dX12_best_34 rfl (fun q15 => ?_) (fun q15 => ?_)
  · replace H := br1 q15 H
    refine J_aload_n 0 dX12_best_39 rfl rfl ?_
    refine J_iload_n 1 dX12_best_40 rfl rfl ?_
    refine J_aload_n 0 dX12_best_41 rfl rfl ?_
    refine J_gP 11 1 dX12_best_42 (kq c11 g14) flX12_8 rfl (congrFun (congrFun c13 v0) 1) ?_
    refine J_iconst (0 : Int32) dX12_best_45 kc_0 ?_
    obtain ⟨g16, H⟩ := gd H
    obtain ⟨g17, H⟩ := gd H
    refine J_iald dX12_best_46 (kq c11 g16) (lq c12 g17) ?_
    obtain ⟨h19, e18, H⟩ := bd H
    refine J_cV (as := [.int v1, .int (gI h9 (gP h v0 1) (0 : Int32).toNatClampNeg)]) 11 YX12_work 2 dX12_best_47 moX12_work mvX12_work mlX12_345 (kq c11 g14) rfl rfl (okX12_work (d := d) e18) rfl rfl [] rfl rfl (st2 := []) rfl ?_
    refine J_iload_n 2 dX12_best_50 rfl rfl ?_
    refine J_iconst (2 : Int32) dX12_best_51 kc_2 ?_
    refine J_icmp_ne 61 dX12_best_52 rfl (fun q20 => ?_) (fun q20 => ?_)
    · replace H := br0 q20 H
      refine J_aload_n 0 dX12_best_61 rfl rfl ?_
      obtain ⟨g21, H⟩ := gd H
      refine J_gP 11 31 dX12_best_62 g21 flX12_55 rfl rfl ?_
      refine J_iconst (0 : Int32) dX12_best_65 kc_0 ?_
      obtain ⟨g22, H⟩ := gd H
      obtain ⟨g23, H⟩ := gd H
      refine J_iald dX12_best_66 g22 (inB_ok g23) ?_
      refine J_iconst (-1 : Int32) dX12_best_67 kc_m1 ?_
      refine J_icmp_ne 75 dX12_best_68 rfl (fun q24 => ?_) (fun q24 => ?_)
      · replace H := br0 q24 H
        refine J_iload_n 2 dX12_best_75 rfl rfl ?_
        refine J_if_ne 88 dX12_best_76 rfl (fun q25 => ?_) (fun q25 => ?_)
        · replace H := br0 q25 H
          refine J_aload_n 0 dX12_best_88 rfl rfl ?_
          refine J_gP 11 31 dX12_best_89 g21 flX12_55 rfl rfl ?_
          refine J_iconst (0 : Int32) dX12_best_92 kc_0 ?_
          refine J_iald dX12_best_93 g22 (inB_ok g23) ?_
          cases H
          exact J_iretI dX12_best_94 rfl
        · replace H := br1 q25 H
          refine J_aload_n 0 dX12_best_79 rfl rfl ?_
          refine J_gP 11 32 dX12_best_80 g21 flX12_58 rfl rfl ?_
          refine J_iconst (0 : Int32) dX12_best_83 kc_0 ?_
          obtain ⟨g26, H⟩ := gd H
          obtain ⟨g27, H⟩ := gd H
          refine J_iald dX12_best_84 g26 (inB_ok g27) ?_
          refine J_goto 94 dX12_best_85 rfl ?_
          cases H
          exact J_iretI dX12_best_94 rfl
      · replace H := br1 q24 H
        refine J_iconst (-1 : Int32) dX12_best_71 kc_m1 ?_
        refine J_goto 94 dX12_best_72 rfl ?_
        cases H
        exact J_iretI dX12_best_94 rfl
    · replace H := br1 q20 H
      refine J_aload_n 0 dX12_best_55 rfl rfl ?_
      refine J_iload_n 1 dX12_best_56 rfl rfl ?_
      obtain ⟨g29, H⟩ := gd H
      obtain ⟨t31, h30, e28, H⟩ := b2_el H
      refine J_cV (as := [.int v1]) 11 YX12_reach 1 dX12_best_57 moX12_reach mvX12_reach mlX12_348 g29 rfl rfl (okX12_reach (d := d) e28) rfl rfl [] rfl rfl (st2 := [.int t31]) rfl ?_
      cases H
      exact J_iretI dX12_best_60 rfl
  · replace H := br0 q15 H
    refine J_iconst (0 : Int32) dX12_best_37 kc_0 ?_
    cases H
    exact J_iretI dX12_best_38 rfl
noncomputable def MX12_best (h : Hp) (v0 : Nat) (v1 : Int32) (v2 : Int32) : Option (Int32 × Hp) :=
  gg (β := (Int32 × Hp)) (kd h v0 = 11) <|
  Option.bind (α := Int32) (β := (Int32 × Hp)) (MX12_isPart h v0 v1) fun (t3 : Int32) =>
  if t3 = 0 then
    MX12_best_27 h v0 v1 v2 v0 (1 : Int32)
  else
    Option.bind (α := Int32) (β := (Int32 × Hp)) (MX12_isIn h v2 (0 : Int32) (2 : Int32)) fun (t6 : Int32) =>
    if t6 = 0 then
      MX12_best_27 h v0 v1 v2 v0 (2 : Int32)
    else
      MX12_best_27 h v0 v1 v2 v0 (0 : Int32)
set_option maxRecDepth 100000 in
set_option maxHeartbeats 8000000 in
theorem eX12_best {d : Nat} {h : Hp} {v0 : Nat} {v1 : Int32} {v2 : Int32} {r : Int32} {h9 : Hp} (H : MX12_best h v0 v1 v2 = some (r, h9)) : J (d + 5) YX12_best 0 [.ref v0, .int v1, .int v2] [] h (oI r) h9 := by
  unfold MX12_best at H
  refine J_aload_n 0 dX12_best_0 rfl rfl ?_
  refine J_aload_n 0 dX12_best_1 rfl rfl ?_
  refine J_iload_n 1 dX12_best_2 rfl rfl ?_
  obtain ⟨g2, H⟩ := gd H
  obtain ⟨t3, e1, H⟩ := bd H
  refine J_cV (as := [.int v1]) 11 YX12_isPart 1 dX12_best_3 moX12_isPart mvX12_isPart mlX12_311 g2 rfl rfl (okX12_isPart (d := d + 4) e1) rfl rfl [.ref v0] rfl rfl (st2 := [.int t3, .ref v0]) rfl ?_
  refine J_if_ne 13 dX12_best_6 rfl (fun q4 => ?_) (fun q4 => ?_)
  · replace H := br0 q4 H
    refine J_iload_n 2 dX12_best_13 rfl rfl ?_
    refine J_iconst (0 : Int32) dX12_best_14 kc_0 ?_
    refine J_iconst (2 : Int32) dX12_best_15 kc_2 ?_
    obtain ⟨t6, e5, H⟩ := bd H
    refine J_cS (as := [.int v2, .int (0 : Int32), .int (2 : Int32)]) YX12_isIn 3 dX12_best_16 moX12_isIn msX12_isIn mlX12_157 (okX12_isIn (d := d + 4) e5) rfl rfl [.ref v0] rfl rfl (st2 := [.int t6, .ref v0]) rfl ?_
    refine J_if_ne 26 dX12_best_19 rfl (fun q7 => ?_) (fun q7 => ?_)
    · replace H := br0 q7 H
      refine J_iconst (0 : Int32) dX12_best_26 kc_0 ?_
      exact J_dr (kX12_best_27 H ) ⟨rfl, ⟨rfl, ⟨rfl, trivial⟩⟩⟩
    · replace H := br1 q7 H
      refine J_iconst (2 : Int32) dX12_best_22 kc_2 ?_
      refine J_goto 27 dX12_best_23 rfl ?_
      exact J_dr (kX12_best_27 H ) ⟨rfl, ⟨rfl, ⟨rfl, trivial⟩⟩⟩
  · replace H := br1 q4 H
    refine J_iconst (1 : Int32) dX12_best_9 kc_1 ?_
    refine J_goto 27 dX12_best_10 rfl ?_
    exact J_dr (kX12_best_27 H ) ⟨rfl, ⟨rfl, ⟨rfl, trivial⟩⟩⟩
theorem okX12_best {d : Nat} {h : Hp} {v0 : Nat} {v1 : Int32} {v2 : Int32} {r : Int32} {h9 : Hp} (H : MX12_best h v0 v1 v2 = some (r, h9)) : CT (d + 5) YX12_best [.ref v0, .int v1, .int v2] h (oI r) h9 := CT_of (by decide +kernel) (Nat.le_of_ble_eq_true rfl) (eX12_best H)
noncomputable def BX12_blanks_0 (h : Hp) (v0 : Nat) : Option ((Hp) ⊕ Hp) :=
  gg (β := ((Hp) ⊕ Hp)) (kd h v0 = 11) <|
  if (gI h v0 7) ≤ (gI h v0 8) then
    some (.inr (h))
  else
    gg (β := ((Hp) ⊕ Hp)) (kd h (gP h v0 5) = 20) <|
    gg (β := ((Hp) ⊕ Hp)) (inB (gI h v0 8) (ln h (gP h v0 5)) = true) <|
    if (gI h (gP h v0 5) (gI h v0 8).toNatClampNeg) = (32 : Int32) then
      lt (α := Hp) (β := Option ((Hp) ⊕ Hp)) (sI h v0 8 ((gI h v0 8) + (1 : Int32))) fun (h6 : Hp) =>
      some (.inl h6)
    else
      some (.inr (h))
set_option maxRecDepth 100000 in
set_option maxHeartbeats 8000000 in
theorem bX12_blanks_0 {d : Nat} {h : Hp} {v0 : Nat} {h9 : Hp} {x : ((Hp) ⊕ Hp)} (H : BX12_blanks_0 h v0 = some x) (hb0 : ∀ s : Hp, x = .inl s → J (d) YX12_blanks 0 [.ref v0] [] s oV h9) (hx : ∀ z : Hp, x = .inr (z) → z = h9) : J (d) YX12_blanks 0 [.ref v0] [] h oV h9 := by
  unfold BX12_blanks_0 at H
  refine J_aload_n 0 dX12_blanks_0 rfl rfl ?_
  obtain ⟨g1, H⟩ := gd H
  refine J_getI 11 8 dX12_blanks_1 g1 flX12_137 rfl ?_
  refine J_aload_n 0 dX12_blanks_4 rfl rfl ?_
  refine J_getI 11 7 dX12_blanks_5 g1 flX12_134 rfl ?_
  refine J_icmp_ge 38 dX12_blanks_8 rfl (fun q2 => ?_) (fun q2 => ?_)
  · replace H := br1 q2 H
    cases H
    cases hx _ rfl
    exact J_ret dX12_blanks_38 rfl
  · replace H := br0 q2 H
    refine J_aload_n 0 dX12_blanks_11 rfl rfl ?_
    refine J_gP 11 5 dX12_blanks_12 g1 flX12_20 rfl rfl ?_
    refine J_aload_n 0 dX12_blanks_15 rfl rfl ?_
    refine J_getI 11 8 dX12_blanks_16 g1 flX12_137 rfl ?_
    obtain ⟨g3, H⟩ := gd H
    obtain ⟨g4, H⟩ := gd H
    refine J_iald dX12_blanks_19 g3 (inB_ok g4) ?_
    refine J_bipush (32 : Int32) dX12_blanks_20 kb_32 ?_
    refine J_icmp_ne 38 dX12_blanks_22 rfl (fun q5 => ?_) (fun q5 => ?_)
    · replace H := br0 q5 H
      cases H
      cases hx _ rfl
      exact J_ret dX12_blanks_38 rfl
    · replace H := br1 q5 H
      refine J_aload_n 0 dX12_blanks_25 rfl rfl ?_
      refine J_dup dX12_blanks_26 rfl ?_
      refine J_getI 11 8 dX12_blanks_27 g1 flX12_137 rfl ?_
      refine J_iconst (1 : Int32) dX12_blanks_30 kc_1 ?_
      refine J_iadd dX12_blanks_31 ?_
      obtain ⟨h6, e7, H⟩ := lt_el H
      refine J_pI 11 8 dX12_blanks_32 g1 flX12_137 rfl rfl e7 ?_
      have c8 := ekI e7
      have c9 := elI e7
      have c10 := epI e7
      refine J_goto 0 dX12_blanks_35 rfl ?_
      cases H
      exact J_dr (hb0 _ rfl) ⟨rfl, trivial⟩
noncomputable def MX12_blanks_0 (h : Hp) (v0 : Nat) : Option Hp := it (fun q : Hp => BX12_blanks_0 q v0) (h)
set_option maxRecDepth 100000 in
set_option maxHeartbeats 8000000 in
theorem kX12_blanks_0 {d : Nat} {h : Hp} {v0 : Nat} {h9 : Hp} (H : MX12_blanks_0 h v0 = some h9) : J (d) YX12_blanks 0 [.ref v0] [] h oV h9 := by
  unfold MX12_blanks_0 at H
  refine it_J (G := (fun q : Hp => J (d) YX12_blanks 0 [.ref v0] [] q oV h9)) (Q := (fun y : Hp => y = h9)) (fun q x Hq hm => ?_) H rfl
  exact bX12_blanks_0 Hq (fun s hs => by subst hs; exact hm) (fun z hz => by subst hz; exact hm)
noncomputable def MX12_blanks (h : Hp) (v0 : Nat) : Option Hp :=
  MX12_blanks_0 h v0
set_option maxRecDepth 100000 in
set_option maxHeartbeats 8000000 in
theorem eX12_blanks {d : Nat} {h : Hp} {v0 : Nat} {h9 : Hp} (H : MX12_blanks h v0 = some h9) : J (d) YX12_blanks 0 [.ref v0] [] h oV h9 := by
  unfold MX12_blanks at H
  exact J_dr (kX12_blanks_0 H ) ⟨rfl, trivial⟩
theorem okX12_blanks {d : Nat} {h : Hp} {v0 : Nat} {h9 : Hp} (H : MX12_blanks h v0 = some h9) : CT (d) YX12_blanks [.ref v0] h oV h9 := CT_of (by decide +kernel) (Nat.le_of_ble_eq_true rfl) (eX12_blanks H)
noncomputable def MX12_brass_38 (h : Hp) (v0 : Nat) (v1 : Int32) (v2 : Int32) (v3 : Int32) (s0 : Nat) (s1 : Int32) : Option (Int32 × Hp) :=
  gg (β := (Int32 × Hp)) (kd h s0 = 11) <|
  lt (α := Hp) (β := Option (Int32 × Hp)) (sI h s0 0 s1) fun (h6 : Hp) =>
  gg (β := (Int32 × Hp)) (kd h v0 = 11) <|
  if (gI h6 v0 0) ≤ 0 then
    Option.bind (α := Int32) (β := (Int32 × Hp)) (MX12_machine0 h6 v1) fun (t14 : Int32) =>
    gg (β := (Int32 × Hp)) (kd h (gP h v0 1) = 20) <|
    gg (β := (Int32 × Hp)) (inB (t14 + v2) (ln h (gP h v0 1)) = true) <|
    lt (α := Hp) (β := Option (Int32 × Hp)) (sI h6 (gP h v0 1) (t14 + v2).toNatClampNeg v3) fun (h17 : Hp) =>
    gg (β := (Int32 × Hp)) (inB (0 : Int32) (ln h (gP h v0 1)) = true) <|
    Option.bind (α := Int32) (β := (Int32 × Hp)) (MX12_there h17 v0 v1 v2 ((gI h17 (gP h v0 1) (0 : Int32).toNatClampNeg) + (1 : Int32))) fun (t24 : Int32) =>
    some (t24, h17)
  else
    some ((0 : Int32), h6)
set_option maxRecDepth 100000 in
set_option maxHeartbeats 8000000 in
theorem kX12_brass_38 {d : Nat} {h : Hp} {v0 : Nat} {v1 : Int32} {v2 : Int32} {v3 : Int32} {s0 : Nat} {s1 : Int32} {r : Int32} {h9 : Hp} (H : MX12_brass_38 h v0 v1 v2 v3 s0 s1 = some (r, h9)) : J (d + 2) YX12_brass 38 [.ref v0, .int v1, .int v2, .int v3] [.int s1, .ref s0] h (oI r) h9 := by
  unfold MX12_brass_38 at H
  obtain ⟨g5, H⟩ := gd H
  obtain ⟨h6, e7, H⟩ := lt_el H
  refine J_pI 11 0 dX12_brass_38 g5 flX12_122 rfl rfl e7 ?_
  have c8 := ekI e7
  have c9 := elI e7
  have c10 := epI e7
  refine J_aload_n 0 dX12_brass_41 rfl rfl ?_
  obtain ⟨g11, H⟩ := gd H
  refine J_getI 11 0 dX12_brass_42 (kq c8 g11) flX12_122 rfl ?_
  refine J_if_le 50 dX12_brass_45 rfl (fun q12 => ?_) (fun q12 => ?_)
  · replace H := br1 q12 H
    refine J_aload_n 0 dX12_brass_50 rfl rfl ?_
    refine J_gP 11 1 dX12_brass_51 (kq c8 g11) flX12_8 rfl (congrFun (congrFun c10 v0) 1) ?_
    refine J_iload_n 1 dX12_brass_54 rfl rfl ?_
    obtain ⟨t14, e13, H⟩ := bd H
    refine J_cS (as := [.int v1]) YX12_machine0 1 dX12_brass_55 moX12_machine0 msX12_machine0 mlX12_360 (okX12_machine0 (d := d + 1) e13) rfl rfl [.ref (gP h v0 1)] rfl rfl (st2 := [.int t14, .ref (gP h v0 1)]) rfl ?_
    refine J_iload_n 2 dX12_brass_58 rfl rfl ?_
    refine J_iadd dX12_brass_59 ?_
    refine J_iload_n 3 dX12_brass_60 rfl rfl ?_
    obtain ⟨g15, H⟩ := gd H
    obtain ⟨g16, H⟩ := gd H
    obtain ⟨h17, e18, H⟩ := lt_el H
    refine J_sI dX12_brass_61 (kq c8 g15) (lq c9 g16) e18 ?_
    have c19 := (ekI e18).trans c8
    have c20 := (elI e18).trans c9
    have c21 := (epI e18).trans c10
    refine J_aload_n 0 dX12_brass_62 rfl rfl ?_
    refine J_iload_n 1 dX12_brass_63 rfl rfl ?_
    refine J_iload_n 2 dX12_brass_64 rfl rfl ?_
    refine J_aload_n 0 dX12_brass_65 rfl rfl ?_
    refine J_gP 11 1 dX12_brass_66 (kq c19 g11) flX12_8 rfl (congrFun (congrFun c21 v0) 1) ?_
    refine J_iconst (0 : Int32) dX12_brass_69 kc_0 ?_
    obtain ⟨g22, H⟩ := gd H
    refine J_iald dX12_brass_70 (kq c19 g15) (lq c20 g22) ?_
    refine J_iconst (1 : Int32) dX12_brass_71 kc_1 ?_
    refine J_iadd dX12_brass_72 ?_
    obtain ⟨t24, e23, H⟩ := bd H
    refine J_cV (as := [.int v1, .int v2, .int ((gI h17 (gP h v0 1) (0 : Int32).toNatClampNeg) + (1 : Int32))]) 11 YX12_there 3 dX12_brass_73 moX12_there mvX12_there mlX12_366 (kq c19 g11) rfl rfl (okX12_there (d := d) e23) rfl rfl [] rfl rfl (st2 := [.int t24]) rfl ?_
    cases H
    exact J_iretI dX12_brass_76 rfl
  · replace H := br0 q12 H
    refine J_iconst (0 : Int32) dX12_brass_48 kc_0 ?_
    cases H
    exact J_iretI dX12_brass_49 rfl
noncomputable def MX12_brass_19 (h : Hp) (v0 : Nat) (v1 : Int32) (v2 : Int32) (v3 : Int32) (s0 : Nat) : Option (Int32 × Hp) :=
  MX12_brass_38 h v0 v1 v2 v3 s0 (1 : Int32)
set_option maxRecDepth 100000 in
set_option maxHeartbeats 8000000 in
theorem kX12_brass_19 {d : Nat} {h : Hp} {v0 : Nat} {v1 : Int32} {v2 : Int32} {v3 : Int32} {s0 : Nat} {r : Int32} {h9 : Hp} (H : MX12_brass_19 h v0 v1 v2 v3 s0 = some (r, h9)) : J (d + 2) YX12_brass 19 [.ref v0, .int v1, .int v2, .int v3] [.ref s0] h (oI r) h9 := by
  unfold MX12_brass_19 at H
  refine J_iconst (1 : Int32) dX12_brass_19 kc_1 ?_
  refine J_goto 38 dX12_brass_20 rfl ?_
  exact J_dr (kX12_brass_38 H ) ⟨rfl, ⟨rfl, ⟨rfl, ⟨rfl, trivial⟩⟩⟩⟩
noncomputable def MX12_brass (h : Hp) (v0 : Nat) (v1 : Int32) (v2 : Int32) (v3 : Int32) : Option (Int32 × Hp) :=
  gg (β := (Int32 × Hp)) (kd h v0 = 11) <|
  Option.bind (α := Int32) (β := (Int32 × Hp)) (MX12_isMachine h v0 v1) fun (t3 : Int32) =>
  if t3 = 0 then
    MX12_brass_19 h v0 v1 v2 v3 v0
  else
    Option.bind (α := Int32) (β := (Int32 × Hp)) (MX12_isIn h v2 (0 : Int32) (26 : Int32)) fun (t26 : Int32) =>
    if t26 = 0 then
      MX12_brass_19 h v0 v1 v2 v3 v0
    else
      Option.bind (α := Int32) (β := (Int32 × Hp)) (MX12_isIn h v3 (0 : Int32) (40 : Int32)) fun (t29 : Int32) =>
      if t29 = 0 then
        MX12_brass_38 h v0 v1 v2 v3 v0 (2 : Int32)
      else
        MX12_brass_38 h v0 v1 v2 v3 v0 (0 : Int32)
set_option maxRecDepth 100000 in
set_option maxHeartbeats 8000000 in
theorem eX12_brass {d : Nat} {h : Hp} {v0 : Nat} {v1 : Int32} {v2 : Int32} {v3 : Int32} {r : Int32} {h9 : Hp} (H : MX12_brass h v0 v1 v2 v3 = some (r, h9)) : J (d + 2) YX12_brass 0 [.ref v0, .int v1, .int v2, .int v3] [] h (oI r) h9 := by
  unfold MX12_brass at H
  refine J_aload_n 0 dX12_brass_0 rfl rfl ?_
  refine J_aload_n 0 dX12_brass_1 rfl rfl ?_
  refine J_iload_n 1 dX12_brass_2 rfl rfl ?_
  obtain ⟨g2, H⟩ := gd H
  obtain ⟨t3, e1, H⟩ := bd H
  refine J_cV (as := [.int v1]) 11 YX12_isMachine 1 dX12_brass_3 moX12_isMachine mvX12_isMachine mlX12_363 g2 rfl rfl (okX12_isMachine (d := d + 1) e1) rfl rfl [.ref v0] rfl rfl (st2 := [.int t3, .ref v0]) rfl ?_
  refine J_if_eq 19 dX12_brass_6 rfl (fun q4 => ?_) (fun q4 => ?_)
  · replace H := br1 q4 H
    exact J_dr (kX12_brass_19 H ) ⟨rfl, ⟨rfl, ⟨rfl, ⟨rfl, trivial⟩⟩⟩⟩
  · replace H := br0 q4 H
    refine J_iload_n 2 dX12_brass_9 rfl rfl ?_
    refine J_iconst (0 : Int32) dX12_brass_10 kc_0 ?_
    refine J_bipush (26 : Int32) dX12_brass_11 kb_26 ?_
    obtain ⟨t26, e25, H⟩ := bd H
    refine J_cS (as := [.int v2, .int (0 : Int32), .int (26 : Int32)]) YX12_isIn 3 dX12_brass_13 moX12_isIn msX12_isIn mlX12_157 (okX12_isIn (d := d + 1) e25) rfl rfl [.ref v0] rfl rfl (st2 := [.int t26, .ref v0]) rfl ?_
    refine J_if_ne 23 dX12_brass_16 rfl (fun q27 => ?_) (fun q27 => ?_)
    · replace H := br0 q27 H
      refine J_iload_n 3 dX12_brass_23 rfl rfl ?_
      refine J_iconst (0 : Int32) dX12_brass_24 kc_0 ?_
      refine J_bipush (40 : Int32) dX12_brass_25 kb_40 ?_
      obtain ⟨t29, e28, H⟩ := bd H
      refine J_cS (as := [.int v3, .int (0 : Int32), .int (40 : Int32)]) YX12_isIn 3 dX12_brass_27 moX12_isIn msX12_isIn mlX12_157 (okX12_isIn (d := d + 1) e28) rfl rfl [.ref v0] rfl rfl (st2 := [.int t29, .ref v0]) rfl ?_
      refine J_if_ne 37 dX12_brass_30 rfl (fun q30 => ?_) (fun q30 => ?_)
      · replace H := br0 q30 H
        refine J_iconst (0 : Int32) dX12_brass_37 kc_0 ?_
        exact J_dr (kX12_brass_38 H ) ⟨rfl, ⟨rfl, ⟨rfl, ⟨rfl, trivial⟩⟩⟩⟩
      · replace H := br1 q30 H
        refine J_iconst (2 : Int32) dX12_brass_33 kc_2 ?_
        refine J_goto 38 dX12_brass_34 rfl ?_
        exact J_dr (kX12_brass_38 H ) ⟨rfl, ⟨rfl, ⟨rfl, ⟨rfl, trivial⟩⟩⟩⟩
    · replace H := br1 q27 H
      exact J_dr (kX12_brass_19 H ) ⟨rfl, ⟨rfl, ⟨rfl, ⟨rfl, trivial⟩⟩⟩⟩
theorem okX12_brass {d : Nat} {h : Hp} {v0 : Nat} {v1 : Int32} {v2 : Int32} {v3 : Int32} {r : Int32} {h9 : Hp} (H : MX12_brass h v0 v1 v2 v3 = some (r, h9)) : CT (d + 2) YX12_brass [.ref v0, .int v1, .int v2, .int v3] h (oI r) h9 := CT_of (by decide +kernel) (Nat.le_of_ble_eq_true rfl) (eX12_brass H)
noncomputable def MX12_broken_74 (h : Hp) (v4 : Int32) (s0 : Nat) (s1 : Int32) (s2 : Int32) : Option (Int32 × Hp) :=
  gg (β := (Int32 × Hp)) (kd h s0 = 20) <|
  gg (β := (Int32 × Hp)) (inB s1 (ln h s0) = true) <|
  lt (α := Hp) (β := Option (Int32 × Hp)) (sI h s0 s1.toNatClampNeg s2) fun (h23 : Hp) =>
  gg (β := (Int32 × Hp)) (zOk v4 = true) <|
  some (v4, h23)
set_option maxRecDepth 100000 in
set_option maxHeartbeats 8000000 in
theorem kX12_broken_74 {d : Nat} {h : Hp} {v4 : Int32} {s0 : Nat} {s1 : Int32} {s2 : Int32} {r : Int32} {h9 : Hp} (H : MX12_broken_74 h v4 s0 s1 s2 = some (r, h9)) : J (d + 1) YX12_broken 74 [Value.null, Value.null, Value.null, Value.null, .int v4] [.int s2, .int s1, .ref s0] h (oI r) h9 := by
  unfold MX12_broken_74 at H
  obtain ⟨g21, H⟩ := gd H
  obtain ⟨g22, H⟩ := gd H
  obtain ⟨h23, e24, H⟩ := lt_el H
  refine J_sI dX12_broken_74 g21 (inB_ok g22) e24 ?_
  have c25 := ekI e24
  have c26 := elI e24
  have c27 := epI e24
  refine J_iload dX12_broken_75 rfl ?_
  obtain ⟨g28, H⟩ := gd H
  cases H
  exact J_rZ dX12_broken_77 rfl g28
noncomputable def MX12_broken_58 (h : Hp) (v0 : Nat) (v2 : Int32) (v3 : Int32) (s0 : Int32) : Option (Int32 × Hp) :=
  gg (β := (Int32 × Hp)) (kd h v0 = 11) <|
  if v2 = 0 then
    MX12_broken_74 h s0 (gP h v0 1) v3 (0 : Int32)
  else
    MX12_broken_74 h s0 (gP h v0 1) v3 (1 : Int32)
set_option maxRecDepth 100000 in
set_option maxHeartbeats 8000000 in
theorem kX12_broken_58 {d : Nat} {h : Hp} {v0 : Nat} {v2 : Int32} {v3 : Int32} {s0 : Int32} {r : Int32} {h9 : Hp} (H : MX12_broken_58 h v0 v2 v3 s0 = some (r, h9)) : J (d + 1) YX12_broken 58 [.ref v0, Value.null, .int v2, .int v3, Value.null] [.int s0] h (oI r) h9 := by
  unfold MX12_broken_58 at H
  refine J_istore dX12_broken_58 (by decide) (ls' := [.ref v0, Value.null, .int v2, .int v3, .int s0]) rfl ?_
  refine J_aload_n 0 dX12_broken_60 rfl rfl ?_
  obtain ⟨g19, H⟩ := gd H
  refine J_gP 11 1 dX12_broken_61 g19 flX12_8 rfl rfl ?_
  refine J_iload_n 3 dX12_broken_64 rfl rfl ?_
  refine J_iload_n 2 dX12_broken_65 rfl rfl ?_
  refine J_if_eq 73 dX12_broken_66 rfl (fun q20 => ?_) (fun q20 => ?_)
  · replace H := br1 q20 H
    refine J_iconst (0 : Int32) dX12_broken_73 kc_0 ?_
    exact J_dr (kX12_broken_74 H ) ⟨rfl, trivial⟩
  · replace H := br0 q20 H
    refine J_iconst (1 : Int32) dX12_broken_69 kc_1 ?_
    refine J_goto 74 dX12_broken_70 rfl ?_
    exact J_dr (kX12_broken_74 H ) ⟨rfl, trivial⟩
noncomputable def MX12_broken_49 (h : Hp) (v0 : Nat) (v2 : Int32) (v3 : Int32) (s0 : Int32) : Option (Int32 × Hp) :=
  if s0 = v2 then
    MX12_broken_58 h v0 v2 v3 (0 : Int32)
  else
    MX12_broken_58 h v0 v2 v3 (1 : Int32)
set_option maxRecDepth 100000 in
set_option maxHeartbeats 8000000 in
theorem kX12_broken_49 {d : Nat} {h : Hp} {v0 : Nat} {v2 : Int32} {v3 : Int32} {s0 : Int32} {r : Int32} {h9 : Hp} (H : MX12_broken_49 h v0 v2 v3 s0 = some (r, h9)) : J (d + 1) YX12_broken 49 [.ref v0, Value.null, .int v2, .int v3, Value.null] [.int s0] h (oI r) h9 := by
  unfold MX12_broken_49 at H
  refine J_iload_n 2 dX12_broken_49 rfl rfl ?_
  refine J_icmp_eq 57 dX12_broken_50 rfl (fun q18 => ?_) (fun q18 => ?_)
  · replace H := br1 q18 H
    refine J_iconst (0 : Int32) dX12_broken_57 kc_0 ?_
    exact J_dr (kX12_broken_58 H ) ⟨rfl, ⟨rfl, ⟨rfl, trivial⟩⟩⟩
  · replace H := br0 q18 H
    refine J_iconst (1 : Int32) dX12_broken_53 kc_1 ?_
    refine J_goto 58 dX12_broken_54 rfl ?_
    exact J_dr (kX12_broken_58 H ) ⟨rfl, ⟨rfl, ⟨rfl, trivial⟩⟩⟩
noncomputable def MX12_broken_14 (h : Hp) (v0 : Nat) (v1 : Int32) (v2 : Int32) (s0 : Nat) (s1 : Int32) : Option (Int32 × Hp) :=
  gg (β := (Int32 × Hp)) (kd h s0 = 11) <|
  lt (α := Hp) (β := Option (Int32 × Hp)) (sI h s0 0 s1) fun (h6 : Hp) =>
  gg (β := (Int32 × Hp)) (kd h v0 = 11) <|
  if (gI h6 v0 0) ≤ 0 then
    Option.bind (α := Int32) (β := (Int32 × Hp)) (MX12_machine0 h6 v1) fun (t14 : Int32) =>
    gg (β := (Int32 × Hp)) (kd h (gP h v0 1) = 20) <|
    gg (β := (Int32 × Hp)) (inB (t14 + (28 : Int32)) (ln h (gP h v0 1)) = true) <|
    if (gI h6 (gP h v0 1) (t14 + (28 : Int32)).toNatClampNeg) = (1 : Int32) then
      MX12_broken_49 h6 v0 v2 (t14 + (28 : Int32)) (1 : Int32)
    else
      MX12_broken_49 h6 v0 v2 (t14 + (28 : Int32)) (0 : Int32)
  else
    some ((0 : Int32), h6)
set_option maxRecDepth 100000 in
set_option maxHeartbeats 8000000 in
theorem kX12_broken_14 {d : Nat} {h : Hp} {v0 : Nat} {v1 : Int32} {v2 : Int32} {s0 : Nat} {s1 : Int32} {r : Int32} {h9 : Hp} (H : MX12_broken_14 h v0 v1 v2 s0 s1 = some (r, h9)) : J (d + 1) YX12_broken 14 [.ref v0, .int v1, .int v2, Value.null, Value.null] [.int s1, .ref s0] h (oI r) h9 := by
  unfold MX12_broken_14 at H
  obtain ⟨g5, H⟩ := gd H
  obtain ⟨h6, e7, H⟩ := lt_el H
  refine J_pI 11 0 dX12_broken_14 g5 flX12_122 rfl rfl e7 ?_
  have c8 := ekI e7
  have c9 := elI e7
  have c10 := epI e7
  refine J_aload_n 0 dX12_broken_17 rfl rfl ?_
  obtain ⟨g11, H⟩ := gd H
  refine J_getI 11 0 dX12_broken_18 (kq c8 g11) flX12_122 rfl ?_
  refine J_if_le 26 dX12_broken_21 rfl (fun q12 => ?_) (fun q12 => ?_)
  · replace H := br1 q12 H
    refine J_iload_n 1 dX12_broken_26 rfl rfl ?_
    obtain ⟨t14, e13, H⟩ := bd H
    refine J_cS (as := [.int v1]) YX12_machine0 1 dX12_broken_27 moX12_machine0 msX12_machine0 mlX12_360 (okX12_machine0 (d := d) e13) rfl rfl [] rfl rfl (st2 := [.int t14]) rfl ?_
    refine J_bipush (28 : Int32) dX12_broken_30 kb_28 ?_
    refine J_iadd dX12_broken_32 ?_
    refine J_istore_n 3 dX12_broken_33 rfl (by decide) (ls' := [.ref v0, .int v1, .int v2, .int (t14 + (28 : Int32)), Value.null]) rfl ?_
    refine J_aload_n 0 dX12_broken_34 rfl rfl ?_
    refine J_gP 11 1 dX12_broken_35 (kq c8 g11) flX12_8 rfl (congrFun (congrFun c10 v0) 1) ?_
    refine J_iload_n 3 dX12_broken_38 rfl rfl ?_
    obtain ⟨g15, H⟩ := gd H
    obtain ⟨g16, H⟩ := gd H
    refine J_iald dX12_broken_39 (kq c8 g15) (lq c9 g16) ?_
    refine J_iconst (1 : Int32) dX12_broken_40 kc_1 ?_
    refine J_icmp_ne 48 dX12_broken_41 rfl (fun q17 => ?_) (fun q17 => ?_)
    · replace H := br0 q17 H
      refine J_iconst (0 : Int32) dX12_broken_48 kc_0 ?_
      exact J_dr (kX12_broken_49 H ) ⟨rfl, ⟨rfl, ⟨rfl, trivial⟩⟩⟩
    · replace H := br1 q17 H
      refine J_iconst (1 : Int32) dX12_broken_44 kc_1 ?_
      refine J_goto 49 dX12_broken_45 rfl ?_
      exact J_dr (kX12_broken_49 H ) ⟨rfl, ⟨rfl, ⟨rfl, trivial⟩⟩⟩
  · replace H := br0 q12 H
    refine J_iconst (0 : Int32) dX12_broken_24 kc_0 ?_
    cases H
    exact J_rZ dX12_broken_25 rfl rfl
noncomputable def MX12_broken (h : Hp) (v0 : Nat) (v1 : Int32) (v2 : Int32) : Option (Int32 × Hp) :=
  gg (β := (Int32 × Hp)) (kd h v0 = 11) <|
  Option.bind (α := Int32) (β := (Int32 × Hp)) (MX12_isMachine h v0 v1) fun (t3 : Int32) =>
  if t3 = 0 then
    MX12_broken_14 h v0 v1 v2 v0 (1 : Int32)
  else
    MX12_broken_14 h v0 v1 v2 v0 (0 : Int32)
set_option maxRecDepth 100000 in
set_option maxHeartbeats 8000000 in
theorem eX12_broken {d : Nat} {h : Hp} {v0 : Nat} {v1 : Int32} {v2 : Int32} {r : Int32} {h9 : Hp} (H : MX12_broken h v0 v1 v2 = some (r, h9)) : J (d + 1) YX12_broken 0 [.ref v0, .int v1, .int v2, Value.null, Value.null] [] h (oI r) h9 := by
  unfold MX12_broken at H
  refine J_aload_n 0 dX12_broken_0 rfl rfl ?_
  refine J_aload_n 0 dX12_broken_1 rfl rfl ?_
  refine J_iload_n 1 dX12_broken_2 rfl rfl ?_
  obtain ⟨g2, H⟩ := gd H
  obtain ⟨t3, e1, H⟩ := bd H
  refine J_cV (as := [.int v1]) 11 YX12_isMachine 1 dX12_broken_3 moX12_isMachine mvX12_isMachine mlX12_363 g2 rfl rfl (okX12_isMachine (d := d) e1) rfl rfl [.ref v0] rfl rfl (st2 := [.int t3, .ref v0]) rfl ?_
  refine J_if_ne 13 dX12_broken_6 rfl (fun q4 => ?_) (fun q4 => ?_)
  · replace H := br0 q4 H
    refine J_iconst (0 : Int32) dX12_broken_13 kc_0 ?_
    exact J_dr (kX12_broken_14 H ) ⟨rfl, ⟨rfl, ⟨rfl, trivial⟩⟩⟩
  · replace H := br1 q4 H
    refine J_iconst (1 : Int32) dX12_broken_9 kc_1 ?_
    refine J_goto 14 dX12_broken_10 rfl ?_
    exact J_dr (kX12_broken_14 H ) ⟨rfl, ⟨rfl, ⟨rfl, trivial⟩⟩⟩
theorem okX12_broken {d : Nat} {h : Hp} {v0 : Nat} {v1 : Int32} {v2 : Int32} {r : Int32} {h9 : Hp} (H : MX12_broken h v0 v1 v2 = some (r, h9)) : CT (d + 1) YX12_broken [.ref v0, .int v1, .int v2] h (oI r) h9 := CT_of (by decide +kernel) (Nat.le_of_ble_eq_true rfl) (eX12_broken H)
noncomputable def MX12_byteCame (h : Hp) (v0 : Nat) (v1 : Int32) : Option Hp :=
  gg (β := Hp) (kd h v0 = 11) <|
  gg (β := Hp) (kd h (gP h v0 5) = 20) <|
  gg (β := Hp) (inB (gI h v0 6) (ln h (gP h v0 5)) = true) <|
  lt (α := Hp) (β := Option Hp) (sI h (gP h v0 5) (gI h v0 6).toNatClampNeg (v1 &&& (255 : Int32))) fun (h4 : Hp) =>
  lt (α := Hp) (β := Option Hp) (sI h4 v0 6 ((gI h4 v0 6) + (1 : Int32))) fun (h9 : Hp) =>
  some h9
set_option maxRecDepth 100000 in
set_option maxHeartbeats 8000000 in
theorem eX12_byteCame {d : Nat} {h : Hp} {v0 : Nat} {v1 : Int32} {h9 : Hp} (H : MX12_byteCame h v0 v1 = some h9) : J (d) YX12_byteCame 0 [.ref v0, .int v1] [] h oV h9 := by
  unfold MX12_byteCame at H
  refine J_aload_n 0 dX12_byteCame_0 rfl rfl ?_
  obtain ⟨g1, H⟩ := gd H
  refine J_gP 11 5 dX12_byteCame_1 g1 flX12_20 rfl rfl ?_
  refine J_aload_n 0 dX12_byteCame_4 rfl rfl ?_
  refine J_getI 11 6 dX12_byteCame_5 g1 flX12_127 rfl ?_
  refine J_iload_n 1 dX12_byteCame_8 rfl rfl ?_
  refine J_sipush (255 : Int32) dX12_byteCame_9 ks_255 ?_
  refine J_iand dX12_byteCame_12 ?_
  obtain ⟨g2, H⟩ := gd H
  obtain ⟨g3, H⟩ := gd H
  obtain ⟨h4, e5, H⟩ := lt_el H
  refine J_sI dX12_byteCame_13 g2 (inB_ok g3) e5 ?_
  have c6 := ekI e5
  have c7 := elI e5
  have c8 := epI e5
  refine J_aload_n 0 dX12_byteCame_14 rfl rfl ?_
  refine J_dup dX12_byteCame_15 rfl ?_
  refine J_getI 11 6 dX12_byteCame_16 (kq c6 g1) flX12_127 rfl ?_
  refine J_iconst (1 : Int32) dX12_byteCame_19 kc_1 ?_
  refine J_iadd dX12_byteCame_20 ?_
  obtain ⟨h9, e10, H⟩ := lt_el H
  refine J_pI 11 6 dX12_byteCame_21 (kq c6 g1) flX12_127 rfl rfl e10 ?_
  have c11 := (ekI e10).trans c6
  have c12 := (elI e10).trans c7
  have c13 := (epI e10).trans c8
  cases H
  exact J_ret dX12_byteCame_24 rfl
theorem okX12_byteCame {d : Nat} {h : Hp} {v0 : Nat} {v1 : Int32} {h9 : Hp} (H : MX12_byteCame h v0 v1 = some h9) : CT (d) YX12_byteCame [.ref v0, .int v1] h oV h9 := CT_of (by decide +kernel) (Nat.le_of_ble_eq_true rfl) (eX12_byteCame H)
noncomputable def MX12_isSlug (h : Hp) (v0 : Nat) (v1 : Int32) : Option Int32 :=
  if v1 < 0 then
    some (0 : Int32)
  else
    gg (β := Int32) (kd h v0 = 11) <|
    gg (β := Int32) (kd h (gP h v0 1) = 20) <|
    gg (β := Int32) (inB (4 : Int32) (ln h (gP h v0 1)) = true) <|
    if (gI h (gP h v0 1) (4 : Int32).toNatClampNeg) ≤ v1 then
      some (0 : Int32)
    else
      some (1 : Int32)
set_option maxRecDepth 100000 in
set_option maxHeartbeats 8000000 in
theorem eX12_isSlug {d : Nat} {h : Hp} {v0 : Nat} {v1 : Int32} {r : Int32} (H : MX12_isSlug h v0 v1 = some r) : J (d) YX12_isSlug 0 [.ref v0, .int v1] [] h (oI r) h := by
  unfold MX12_isSlug at H
  refine J_iload_n 1 dX12_isSlug_0 rfl rfl ?_
  refine J_if_lt 18 dX12_isSlug_1 rfl (fun q1 => ?_) (fun q1 => ?_)
  · replace H := br1 q1 H
    refine J_iconst (0 : Int32) dX12_isSlug_18 kc_0 ?_
    cases H
    exact J_rZ dX12_isSlug_19 rfl rfl
  · replace H := br0 q1 H
    refine J_iload_n 1 dX12_isSlug_4 rfl rfl ?_
    refine J_aload_n 0 dX12_isSlug_5 rfl rfl ?_
    obtain ⟨g2, H⟩ := gd H
    refine J_gP 11 1 dX12_isSlug_6 g2 flX12_8 rfl rfl ?_
    refine J_iconst (4 : Int32) dX12_isSlug_9 kc_4 ?_
    obtain ⟨g3, H⟩ := gd H
    obtain ⟨g4, H⟩ := gd H
    refine J_iald dX12_isSlug_10 g3 (inB_ok g4) ?_
    refine J_icmp_ge 18 dX12_isSlug_11 rfl (fun q5 => ?_) (fun q5 => ?_)
    · replace H := br1 q5 H
      refine J_iconst (0 : Int32) dX12_isSlug_18 kc_0 ?_
      cases H
      exact J_rZ dX12_isSlug_19 rfl rfl
    · replace H := br0 q5 H
      refine J_iconst (1 : Int32) dX12_isSlug_14 kc_1 ?_
      refine J_goto 19 dX12_isSlug_15 rfl ?_
      cases H
      exact J_rZ dX12_isSlug_19 rfl rfl
theorem okX12_isSlug {d : Nat} {h : Hp} {v0 : Nat} {v1 : Int32} {r : Int32} (H : MX12_isSlug h v0 v1 = some r) : CT (d) YX12_isSlug [.ref v0, .int v1] h (oI r) h := CT_of (by decide +kernel) (Nat.le_of_ble_eq_true rfl) (eX12_isSlug H)
noncomputable def MX12_carry_52 (h : Hp) (v0 : Nat) (v1 : Int32) (v2 : Int32) (v3 : Int32) (s0 : Nat) (s1 : Int32) : Option (Int32 × Hp) :=
  gg (β := (Int32 × Hp)) (kd h s0 = 11) <|
  lt (α := Hp) (β := Option (Int32 × Hp)) (sI h s0 0 s1) fun (h9 : Hp) =>
  gg (β := (Int32 × Hp)) (kd h v0 = 11) <|
  if (gI h9 v0 0) ≤ 0 then
    gg (β := (Int32 × Hp)) (kd h (gP h v0 1) = 20) <|
    gg (β := (Int32 × Hp)) (inB (5 : Int32) (ln h (gP h v0 1)) = true) <|
    if (gI h9 (gP h v0 1) (5 : Int32).toNatClampNeg) = (200 : Int32) then
      some ((-1 : Int32), h9)
    else
      lt (α := Int32) (β := Option (Int32 × Hp)) ((326582 : Int32) + ((4 : Int32) * (gI h9 (gP h v0 1) (5 : Int32).toNatClampNeg))) fun (w19 : Int32) =>
      gg (β := (Int32 × Hp)) (inB w19 (ln h (gP h v0 1)) = true) <|
      lt (α := Hp) (β := Option (Int32 × Hp)) (sI h9 (gP h v0 1) w19.toNatClampNeg v1) fun (h22 : Hp) =>
      gg (β := (Int32 × Hp)) (inB (w19 + (1 : Int32)) (ln h (gP h v0 1)) = true) <|
      lt (α := Hp) (β := Option (Int32 × Hp)) (sI h22 (gP h v0 1) (w19 + (1 : Int32)).toNatClampNeg v2) fun (h28 : Hp) =>
      gg (β := (Int32 × Hp)) (inB (w19 + (2 : Int32)) (ln h (gP h v0 1)) = true) <|
      lt (α := Hp) (β := Option (Int32 × Hp)) (sI h28 (gP h v0 1) (w19 + (2 : Int32)).toNatClampNeg v3) fun (h34 : Hp) =>
      gg (β := (Int32 × Hp)) (inB (0 : Int32) (ln h (gP h v0 1)) = true) <|
      gg (β := (Int32 × Hp)) (inB (w19 + (3 : Int32)) (ln h (gP h v0 1)) = true) <|
      lt (α := Hp) (β := Option (Int32 × Hp)) (sI h34 (gP h v0 1) (w19 + (3 : Int32)).toNatClampNeg (gI h34 (gP h v0 1) (0 : Int32).toNatClampNeg)) fun (h41 : Hp) =>
      lt (α := Hp) (β := Option (Int32 × Hp)) (sI h41 (gP h v0 1) (5 : Int32).toNatClampNeg ((gI h41 (gP h v0 1) (5 : Int32).toNatClampNeg) + (1 : Int32))) fun (h46 : Hp) =>
      some ((gI h46 (gP h v0 1) (5 : Int32).toNatClampNeg), h46)
  else
    some ((0 : Int32), h9)
set_option maxRecDepth 100000 in
set_option maxHeartbeats 8000000 in
theorem kX12_carry_52 {d : Nat} {h : Hp} {v0 : Nat} {v1 : Int32} {v2 : Int32} {v3 : Int32} {s0 : Nat} {s1 : Int32} {r : Int32} {h9 : Hp} (H : MX12_carry_52 h v0 v1 v2 v3 s0 s1 = some (r, h9)) : J (d + 1) YX12_carry 52 [.ref v0, .int v1, .int v2, .int v3, Value.null] [.int s1, .ref s0] h (oI r) h9 := by
  unfold MX12_carry_52 at H
  obtain ⟨g8, H⟩ := gd H
  obtain ⟨h9, e10, H⟩ := lt_el H
  refine J_pI 11 0 dX12_carry_52 g8 flX12_122 rfl rfl e10 ?_
  have c11 := ekI e10
  have c12 := elI e10
  have c13 := epI e10
  refine J_aload_n 0 dX12_carry_55 rfl rfl ?_
  obtain ⟨g14, H⟩ := gd H
  refine J_getI 11 0 dX12_carry_56 (kq c11 g14) flX12_122 rfl ?_
  refine J_if_le 64 dX12_carry_59 rfl (fun q15 => ?_) (fun q15 => ?_)
  · replace H := br1 q15 H
    refine J_aload_n 0 dX12_carry_64 rfl rfl ?_
    refine J_gP 11 1 dX12_carry_65 (kq c11 g14) flX12_8 rfl (congrFun (congrFun c13 v0) 1) ?_
    refine J_iconst (5 : Int32) dX12_carry_68 kc_5 ?_
    obtain ⟨g16, H⟩ := gd H
    obtain ⟨g17, H⟩ := gd H
    refine J_iald dX12_carry_69 (kq c11 g16) (lq c12 g17) ?_
    refine J_sipush (200 : Int32) dX12_carry_70 ks_200 ?_
    refine J_icmp_ne 78 dX12_carry_73 rfl (fun q18 => ?_) (fun q18 => ?_)
    · replace H := br0 q18 H
      refine J_ldcw (326582 : Int32) coX12_417 dX12_carry_78 ?_
      refine J_iconst (4 : Int32) dX12_carry_81 kc_4 ?_
      refine J_aload_n 0 dX12_carry_82 rfl rfl ?_
      refine J_gP 11 1 dX12_carry_83 (kq c11 g14) flX12_8 rfl (congrFun (congrFun c13 v0) 1) ?_
      refine J_iconst (5 : Int32) dX12_carry_86 kc_5 ?_
      refine J_iald dX12_carry_87 (kq c11 g16) (lq c12 g17) ?_
      refine J_imul dX12_carry_88 ?_
      refine J_iadd dX12_carry_89 ?_
      obtain ⟨w19, e20, H⟩ := lt_el H
      refine J_nmI e20 ?_
      refine J_istore dX12_carry_90 (by decide) (ls' := [.ref v0, .int v1, .int v2, .int v3, .int w19]) rfl ?_
      refine J_aload_n 0 dX12_carry_92 rfl rfl ?_
      refine J_gP 11 1 dX12_carry_93 (kq c11 g14) flX12_8 rfl (congrFun (congrFun c13 v0) 1) ?_
      refine J_iload dX12_carry_96 rfl ?_
      refine J_iload_n 1 dX12_carry_98 rfl rfl ?_
      obtain ⟨g21, H⟩ := gd H
      obtain ⟨h22, e23, H⟩ := lt_el H
      refine J_sI dX12_carry_99 (kq c11 g16) (lq c12 g21) e23 ?_
      have c24 := (ekI e23).trans c11
      have c25 := (elI e23).trans c12
      have c26 := (epI e23).trans c13
      refine J_aload_n 0 dX12_carry_100 rfl rfl ?_
      refine J_gP 11 1 dX12_carry_101 (kq c24 g14) flX12_8 rfl (congrFun (congrFun c26 v0) 1) ?_
      refine J_iload dX12_carry_104 rfl ?_
      refine J_iconst (1 : Int32) dX12_carry_106 kc_1 ?_
      refine J_iadd dX12_carry_107 ?_
      refine J_iload_n 2 dX12_carry_108 rfl rfl ?_
      obtain ⟨g27, H⟩ := gd H
      obtain ⟨h28, e29, H⟩ := lt_el H
      refine J_sI dX12_carry_109 (kq c24 g16) (lq c25 g27) e29 ?_
      have c30 := (ekI e29).trans c24
      have c31 := (elI e29).trans c25
      have c32 := (epI e29).trans c26
      refine J_aload_n 0 dX12_carry_110 rfl rfl ?_
      refine J_gP 11 1 dX12_carry_111 (kq c30 g14) flX12_8 rfl (congrFun (congrFun c32 v0) 1) ?_
      refine J_iload dX12_carry_114 rfl ?_
      refine J_iconst (2 : Int32) dX12_carry_116 kc_2 ?_
      refine J_iadd dX12_carry_117 ?_
      refine J_iload_n 3 dX12_carry_118 rfl rfl ?_
      obtain ⟨g33, H⟩ := gd H
      obtain ⟨h34, e35, H⟩ := lt_el H
      refine J_sI dX12_carry_119 (kq c30 g16) (lq c31 g33) e35 ?_
      have c36 := (ekI e35).trans c30
      have c37 := (elI e35).trans c31
      have c38 := (epI e35).trans c32
      refine J_aload_n 0 dX12_carry_120 rfl rfl ?_
      refine J_gP 11 1 dX12_carry_121 (kq c36 g14) flX12_8 rfl (congrFun (congrFun c38 v0) 1) ?_
      refine J_iload dX12_carry_124 rfl ?_
      refine J_iconst (3 : Int32) dX12_carry_126 kc_3 ?_
      refine J_iadd dX12_carry_127 ?_
      refine J_aload_n 0 dX12_carry_128 rfl rfl ?_
      refine J_gP 11 1 dX12_carry_129 (kq c36 g14) flX12_8 rfl (congrFun (congrFun c38 v0) 1) ?_
      refine J_iconst (0 : Int32) dX12_carry_132 kc_0 ?_
      obtain ⟨g39, H⟩ := gd H
      refine J_iald dX12_carry_133 (kq c36 g16) (lq c37 g39) ?_
      obtain ⟨g40, H⟩ := gd H
      obtain ⟨h41, e42, H⟩ := lt_el H
      refine J_sI dX12_carry_134 (kq c36 g16) (lq c37 g40) e42 ?_
      have c43 := (ekI e42).trans c36
      have c44 := (elI e42).trans c37
      have c45 := (epI e42).trans c38
      refine J_aload_n 0 dX12_carry_135 rfl rfl ?_
      refine J_gP 11 1 dX12_carry_136 (kq c43 g14) flX12_8 rfl (congrFun (congrFun c45 v0) 1) ?_
      refine J_iconst (5 : Int32) dX12_carry_139 kc_5 ?_
      refine J_dup2 dX12_carry_140 rfl rfl ?_
      refine J_iald dX12_carry_141 (kq c43 g16) (lq c44 g17) ?_
      refine J_iconst (1 : Int32) dX12_carry_142 kc_1 ?_
      refine J_iadd dX12_carry_143 ?_
      obtain ⟨h46, e47, H⟩ := lt_el H
      refine J_sI dX12_carry_144 (kq c43 g16) (lq c44 g17) e47 ?_
      have c48 := (ekI e47).trans c43
      have c49 := (elI e47).trans c44
      have c50 := (epI e47).trans c45
      refine J_aload_n 0 dX12_carry_145 rfl rfl ?_
      refine J_gP 11 1 dX12_carry_146 (kq c48 g14) flX12_8 rfl (congrFun (congrFun c50 v0) 1) ?_
      refine J_iconst (5 : Int32) dX12_carry_149 kc_5 ?_
      refine J_iald dX12_carry_150 (kq c48 g16) (lq c49 g17) ?_
      cases H
      exact J_iretI dX12_carry_151 rfl
    · replace H := br1 q18 H
      refine J_iconst (-1 : Int32) dX12_carry_76 kc_m1 ?_
      cases H
      exact J_iretI dX12_carry_77 rfl
  · replace H := br0 q15 H
    refine J_iconst (0 : Int32) dX12_carry_62 kc_0 ?_
    cases H
    exact J_iretI dX12_carry_63 rfl
noncomputable def MX12_carry_47 (h : Hp) (v0 : Nat) (v1 : Int32) (v2 : Int32) (v3 : Int32) (s0 : Nat) : Option (Int32 × Hp) :=
  MX12_carry_52 h v0 v1 v2 v3 s0 (2 : Int32)
set_option maxRecDepth 100000 in
set_option maxHeartbeats 8000000 in
theorem kX12_carry_47 {d : Nat} {h : Hp} {v0 : Nat} {v1 : Int32} {v2 : Int32} {v3 : Int32} {s0 : Nat} {r : Int32} {h9 : Hp} (H : MX12_carry_47 h v0 v1 v2 v3 s0 = some (r, h9)) : J (d + 1) YX12_carry 47 [.ref v0, .int v1, .int v2, .int v3, Value.null] [.ref s0] h (oI r) h9 := by
  unfold MX12_carry_47 at H
  refine J_iconst (2 : Int32) dX12_carry_47 kc_2 ?_
  refine J_goto 52 dX12_carry_48 rfl ?_
  exact J_dr (kX12_carry_52 H ) ⟨rfl, ⟨rfl, ⟨rfl, ⟨rfl, trivial⟩⟩⟩⟩
noncomputable def MX12_carry (h : Hp) (v0 : Nat) (v1 : Int32) (v2 : Int32) (v3 : Int32) : Option (Int32 × Hp) :=
  gg (β := (Int32 × Hp)) (kd h v0 = 11) <|
  Option.bind (α := Int32) (β := (Int32 × Hp)) (MX12_isSlug h v0 v1) fun (t3 : Int32) =>
  if t3 = 0 then
    MX12_carry_52 h v0 v1 v2 v3 v0 (1 : Int32)
  else
    Option.bind (α := Int32) (β := (Int32 × Hp)) (MX12_isIn h v2 (0 : Int32) (9 : Int32)) fun (t6 : Int32) =>
    if t6 = 0 then
      MX12_carry_47 h v0 v1 v2 v3 v0
    else
      Option.bind (α := Int32) (β := (Int32 × Hp)) (MX12_slug0 h v1) fun (t52 : Int32) =>
      gg (β := (Int32 × Hp)) (kd h (gP h v0 1) = 20) <|
      gg (β := (Int32 × Hp)) (inB (t52 + (2 : Int32)) (ln h (gP h v0 1)) = true) <|
      gg (β := (Int32 × Hp)) (inB (0 : Int32) (ln h (gP h v0 1)) = true) <|
      Option.bind (α := Int32) (β := (Int32 × Hp)) (MX12_isIn h v3 (gI h (gP h v0 1) (t52 + (2 : Int32)).toNatClampNeg) (gI h (gP h v0 1) (0 : Int32).toNatClampNeg)) fun (t57 : Int32) =>
      if t57 = 0 then
        MX12_carry_47 h v0 v1 v2 v3 v0
      else
        MX12_carry_52 h v0 v1 v2 v3 v0 (0 : Int32)
set_option maxRecDepth 100000 in
set_option maxHeartbeats 8000000 in
theorem eX12_carry {d : Nat} {h : Hp} {v0 : Nat} {v1 : Int32} {v2 : Int32} {v3 : Int32} {r : Int32} {h9 : Hp} (H : MX12_carry h v0 v1 v2 v3 = some (r, h9)) : J (d + 1) YX12_carry 0 [.ref v0, .int v1, .int v2, .int v3, Value.null] [] h (oI r) h9 := by
  unfold MX12_carry at H
  refine J_aload_n 0 dX12_carry_0 rfl rfl ?_
  refine J_aload_n 0 dX12_carry_1 rfl rfl ?_
  refine J_iload_n 1 dX12_carry_2 rfl rfl ?_
  obtain ⟨g2, H⟩ := gd H
  obtain ⟨t3, e1, H⟩ := bd H
  refine J_cV (as := [.int v1]) 11 YX12_isSlug 1 dX12_carry_3 moX12_isSlug mvX12_isSlug mlX12_396 g2 rfl rfl (okX12_isSlug (d := d) e1) rfl rfl [.ref v0] rfl rfl (st2 := [.int t3, .ref v0]) rfl ?_
  refine J_if_ne 13 dX12_carry_6 rfl (fun q4 => ?_) (fun q4 => ?_)
  · replace H := br0 q4 H
    refine J_iload_n 2 dX12_carry_13 rfl rfl ?_
    refine J_iconst (0 : Int32) dX12_carry_14 kc_0 ?_
    refine J_bipush (9 : Int32) dX12_carry_15 kb_9 ?_
    obtain ⟨t6, e5, H⟩ := bd H
    refine J_cS (as := [.int v2, .int (0 : Int32), .int (9 : Int32)]) YX12_isIn 3 dX12_carry_17 moX12_isIn msX12_isIn mlX12_157 (okX12_isIn (d := d) e5) rfl rfl [.ref v0] rfl rfl (st2 := [.int t6, .ref v0]) rfl ?_
    refine J_if_eq 47 dX12_carry_20 rfl (fun q7 => ?_) (fun q7 => ?_)
    · replace H := br1 q7 H
      exact J_dr (kX12_carry_47 H ) ⟨rfl, ⟨rfl, ⟨rfl, ⟨rfl, trivial⟩⟩⟩⟩
    · replace H := br0 q7 H
      refine J_iload_n 3 dX12_carry_23 rfl rfl ?_
      refine J_aload_n 0 dX12_carry_24 rfl rfl ?_
      refine J_gP 11 1 dX12_carry_25 g2 flX12_8 rfl rfl ?_
      refine J_iload_n 1 dX12_carry_28 rfl rfl ?_
      obtain ⟨t52, e51, H⟩ := bd H
      refine J_cS (as := [.int v1]) YX12_slug0 1 dX12_carry_29 moX12_slug0 msX12_slug0 mlX12_342 (okX12_slug0 (d := d) e51) rfl rfl [.ref (gP h v0 1), .int v3, .ref v0] rfl rfl (st2 := [.int t52, .ref (gP h v0 1), .int v3, .ref v0]) rfl ?_
      refine J_iconst (2 : Int32) dX12_carry_32 kc_2 ?_
      refine J_iadd dX12_carry_33 ?_
      obtain ⟨g53, H⟩ := gd H
      obtain ⟨g54, H⟩ := gd H
      refine J_iald dX12_carry_34 g53 (inB_ok g54) ?_
      refine J_aload_n 0 dX12_carry_35 rfl rfl ?_
      refine J_gP 11 1 dX12_carry_36 g2 flX12_8 rfl rfl ?_
      refine J_iconst (0 : Int32) dX12_carry_39 kc_0 ?_
      obtain ⟨g55, H⟩ := gd H
      refine J_iald dX12_carry_40 g53 (inB_ok g55) ?_
      obtain ⟨t57, e56, H⟩ := bd H
      refine J_cS (as := [.int v3, .int (gI h (gP h v0 1) (t52 + (2 : Int32)).toNatClampNeg), .int (gI h (gP h v0 1) (0 : Int32).toNatClampNeg)]) YX12_isIn 3 dX12_carry_41 moX12_isIn msX12_isIn mlX12_157 (okX12_isIn (d := d) e56) rfl rfl [.ref v0] rfl rfl (st2 := [.int t57, .ref v0]) rfl ?_
      refine J_if_ne 51 dX12_carry_44 rfl (fun q58 => ?_) (fun q58 => ?_)
      · replace H := br0 q58 H
        refine J_iconst (0 : Int32) dX12_carry_51 kc_0 ?_
        exact J_dr (kX12_carry_52 H ) ⟨rfl, ⟨rfl, ⟨rfl, ⟨rfl, trivial⟩⟩⟩⟩
      · replace H := br1 q58 H
        exact J_dr (kX12_carry_47 H ) ⟨rfl, ⟨rfl, ⟨rfl, ⟨rfl, trivial⟩⟩⟩⟩
  · replace H := br1 q4 H
    refine J_iconst (1 : Int32) dX12_carry_9 kc_1 ?_
    refine J_goto 52 dX12_carry_10 rfl ?_
    exact J_dr (kX12_carry_52 H ) ⟨rfl, ⟨rfl, ⟨rfl, ⟨rfl, trivial⟩⟩⟩⟩
theorem okX12_carry {d : Nat} {h : Hp} {v0 : Nat} {v1 : Int32} {v2 : Int32} {v3 : Int32} {r : Int32} {h9 : Hp} (H : MX12_carry h v0 v1 v2 v3 = some (r, h9)) : CT (d + 1) YX12_carry [.ref v0, .int v1, .int v2, .int v3] h (oI r) h9 := CT_of (by decide +kernel) (Nat.le_of_ble_eq_true rfl) (eX12_carry H)
noncomputable def MX12_change_22 (h : Hp) (v0 : Nat) (v1 : Int32) (v2 : Int32) (s0 : Nat) (s1 : Int32) : Option (Int32 × Hp) :=
  gg (β := (Int32 × Hp)) (kd h s0 = 11) <|
  lt (α := Hp) (β := Option (Int32 × Hp)) (sI h s0 0 s1) fun (h6 : Hp) =>
  gg (β := (Int32 × Hp)) (kd h v0 = 11) <|
  if (gI h6 v0 0) ≤ 0 then
    Option.bind (α := Int32) (β := (Int32 × Hp)) (MX12_slug0 h6 v1) fun (t14 : Int32) =>
    Option.bind (α := Int32) (β := (Int32 × Hp)) (MX12_slug0 h6 v2) fun (t16 : Int32) =>
    gg (β := (Int32 × Hp)) (kd h (gP h v0 1) = 20) <|
    gg (β := (Int32 × Hp)) (inB (t14 + (4 : Int32)) (ln h (gP h v0 1)) = true) <|
    if (gI h6 (gP h v0 1) (t14 + (4 : Int32)).toNatClampNeg) = 0 then
      gg (β := (Int32 × Hp)) (inB (t16 + (4 : Int32)) (ln h (gP h v0 1)) = true) <|
      if (gI h6 (gP h v0 1) (t16 + (4 : Int32)).toNatClampNeg) = 0 then
        gg (β := (Int32 × Hp)) (inB (t14 + (6 : Int32)) (ln h (gP h v0 1)) = true) <|
        gg (β := (Int32 × Hp)) (inB (t14 + (5 : Int32)) (ln h (gP h v0 1)) = true) <|
        gg (β := (Int32 × Hp)) (inB (t16 + (6 : Int32)) (ln h (gP h v0 1)) = true) <|
        gg (β := (Int32 × Hp)) (inB (t16 + (5 : Int32)) (ln h (gP h v0 1)) = true) <|
        Option.bind (α := Hp) (β := (Int32 × Hp)) (MX12_puts h6 v0 v1 (gI h6 (gP h v0 1) (t16 + (6 : Int32)).toNatClampNeg) (gI h6 (gP h v0 1) (t16 + (5 : Int32)).toNatClampNeg)) fun (h27 : Hp) =>
        gg (β := (Int32 × Hp)) (kd h27 v0 = 11) <|
        Option.bind (α := Hp) (β := (Int32 × Hp)) (MX12_puts h27 v0 v2 (gI h6 (gP h v0 1) (t14 + (6 : Int32)).toNatClampNeg) (gI h6 (gP h v0 1) (t14 + (5 : Int32)).toNatClampNeg)) fun (h30 : Hp) =>
        some ((1 : Int32), h30)
      else
        some ((0 : Int32), h6)
    else
      some ((0 : Int32), h6)
  else
    some ((0 : Int32), h6)
set_option maxRecDepth 100000 in
set_option maxHeartbeats 8000000 in
theorem kX12_change_22 {d : Nat} {h : Hp} {v0 : Nat} {v1 : Int32} {v2 : Int32} {s0 : Nat} {s1 : Int32} {r : Int32} {h9 : Hp} (H : MX12_change_22 h v0 v1 v2 s0 s1 = some (r, h9)) : J (d + 2) YX12_change 22 [.ref v0, .int v1, .int v2, Value.null, Value.null, Value.null, Value.null] [.int s1, .ref s0] h (oI r) h9 := by
  unfold MX12_change_22 at H
  obtain ⟨g5, H⟩ := gd H
  obtain ⟨h6, e7, H⟩ := lt_el H
  refine J_pI 11 0 dX12_change_22 g5 flX12_122 rfl rfl e7 ?_
  have c8 := ekI e7
  have c9 := elI e7
  have c10 := epI e7
  refine J_aload_n 0 dX12_change_25 rfl rfl ?_
  obtain ⟨g11, H⟩ := gd H
  refine J_getI 11 0 dX12_change_26 (kq c8 g11) flX12_122 rfl ?_
  refine J_if_le 34 dX12_change_29 rfl (fun q12 => ?_) (fun q12 => ?_)
  · replace H := br1 q12 H
    refine J_iload_n 1 dX12_change_34 rfl rfl ?_
    obtain ⟨t14, e13, H⟩ := bd H
    refine J_cS (as := [.int v1]) YX12_slug0 1 dX12_change_35 moX12_slug0 msX12_slug0 mlX12_342 (okX12_slug0 (d := d + 1) e13) rfl rfl [] rfl rfl (st2 := [.int t14]) rfl ?_
    refine J_istore_n 3 dX12_change_38 rfl (by decide) (ls' := [.ref v0, .int v1, .int v2, .int t14, Value.null, Value.null, Value.null]) rfl ?_
    refine J_iload_n 2 dX12_change_39 rfl rfl ?_
    obtain ⟨t16, e15, H⟩ := bd H
    refine J_cS (as := [.int v2]) YX12_slug0 1 dX12_change_40 moX12_slug0 msX12_slug0 mlX12_342 (okX12_slug0 (d := d + 1) e15) rfl rfl [] rfl rfl (st2 := [.int t16]) rfl ?_
    refine J_istore dX12_change_43 (by decide) (ls' := [.ref v0, .int v1, .int v2, .int t14, .int t16, Value.null, Value.null]) rfl ?_
    refine J_aload_n 0 dX12_change_45 rfl rfl ?_
    refine J_gP 11 1 dX12_change_46 (kq c8 g11) flX12_8 rfl (congrFun (congrFun c10 v0) 1) ?_
    refine J_iload_n 3 dX12_change_49 rfl rfl ?_
    refine J_iconst (4 : Int32) dX12_change_50 kc_4 ?_
    refine J_iadd dX12_change_51 ?_
    obtain ⟨g17, H⟩ := gd H
    obtain ⟨g18, H⟩ := gd H
    refine J_iald dX12_change_52 (kq c8 g17) (lq c9 g18) ?_
    refine J_if_ne 68 dX12_change_53 rfl (fun q19 => ?_) (fun q19 => ?_)
    · replace H := br0 q19 H
      refine J_iconst (0 : Int32) dX12_change_68 kc_0 ?_
      cases H
      exact J_rZ dX12_change_69 rfl rfl
    · replace H := br1 q19 H
      refine J_aload_n 0 dX12_change_56 rfl rfl ?_
      refine J_gP 11 1 dX12_change_57 (kq c8 g11) flX12_8 rfl (congrFun (congrFun c10 v0) 1) ?_
      refine J_iload dX12_change_60 rfl ?_
      refine J_iconst (4 : Int32) dX12_change_62 kc_4 ?_
      refine J_iadd dX12_change_63 ?_
      obtain ⟨g20, H⟩ := gd H
      refine J_iald dX12_change_64 (kq c8 g17) (lq c9 g20) ?_
      refine J_if_eq 70 dX12_change_65 rfl (fun q21 => ?_) (fun q21 => ?_)
      · replace H := br1 q21 H
        refine J_aload_n 0 dX12_change_70 rfl rfl ?_
        refine J_gP 11 1 dX12_change_71 (kq c8 g11) flX12_8 rfl (congrFun (congrFun c10 v0) 1) ?_
        refine J_iload_n 3 dX12_change_74 rfl rfl ?_
        refine J_bipush (6 : Int32) dX12_change_75 kb_6 ?_
        refine J_iadd dX12_change_77 ?_
        obtain ⟨g22, H⟩ := gd H
        refine J_iald dX12_change_78 (kq c8 g17) (lq c9 g22) ?_
        refine J_istore dX12_change_79 (by decide) (ls' := [.ref v0, .int v1, .int v2, .int t14, .int t16, .int (gI h6 (gP h v0 1) (t14 + (6 : Int32)).toNatClampNeg), Value.null]) rfl ?_
        refine J_aload_n 0 dX12_change_81 rfl rfl ?_
        refine J_gP 11 1 dX12_change_82 (kq c8 g11) flX12_8 rfl (congrFun (congrFun c10 v0) 1) ?_
        refine J_iload_n 3 dX12_change_85 rfl rfl ?_
        refine J_iconst (5 : Int32) dX12_change_86 kc_5 ?_
        refine J_iadd dX12_change_87 ?_
        obtain ⟨g23, H⟩ := gd H
        refine J_iald dX12_change_88 (kq c8 g17) (lq c9 g23) ?_
        refine J_istore dX12_change_89 (by decide) (ls' := [.ref v0, .int v1, .int v2, .int t14, .int t16, .int (gI h6 (gP h v0 1) (t14 + (6 : Int32)).toNatClampNeg), .int (gI h6 (gP h v0 1) (t14 + (5 : Int32)).toNatClampNeg)]) rfl ?_
        refine J_aload_n 0 dX12_change_91 rfl rfl ?_
        refine J_iload_n 1 dX12_change_92 rfl rfl ?_
        refine J_aload_n 0 dX12_change_93 rfl rfl ?_
        refine J_gP 11 1 dX12_change_94 (kq c8 g11) flX12_8 rfl (congrFun (congrFun c10 v0) 1) ?_
        refine J_iload dX12_change_97 rfl ?_
        refine J_bipush (6 : Int32) dX12_change_99 kb_6 ?_
        refine J_iadd dX12_change_101 ?_
        obtain ⟨g24, H⟩ := gd H
        refine J_iald dX12_change_102 (kq c8 g17) (lq c9 g24) ?_
        refine J_aload_n 0 dX12_change_103 rfl rfl ?_
        refine J_gP 11 1 dX12_change_104 (kq c8 g11) flX12_8 rfl (congrFun (congrFun c10 v0) 1) ?_
        refine J_iload dX12_change_107 rfl ?_
        refine J_iconst (5 : Int32) dX12_change_109 kc_5 ?_
        refine J_iadd dX12_change_110 ?_
        obtain ⟨g25, H⟩ := gd H
        refine J_iald dX12_change_111 (kq c8 g17) (lq c9 g25) ?_
        obtain ⟨h27, e26, H⟩ := bd H
        refine J_cV (as := [.int v1, .int (gI h6 (gP h v0 1) (t16 + (6 : Int32)).toNatClampNeg), .int (gI h6 (gP h v0 1) (t16 + (5 : Int32)).toNatClampNeg)]) 11 YX12_puts 3 dX12_change_112 moX12_puts mvX12_puts mlX12_386 (kq c8 g11) rfl rfl (okX12_puts (d := d) e26) rfl rfl [] rfl rfl (st2 := []) rfl ?_
        refine J_aload_n 0 dX12_change_115 rfl rfl ?_
        refine J_iload_n 2 dX12_change_116 rfl rfl ?_
        refine J_iload dX12_change_117 rfl ?_
        refine J_iload dX12_change_119 rfl ?_
        obtain ⟨g29, H⟩ := gd H
        obtain ⟨h30, e28, H⟩ := bd H
        refine J_cV (as := [.int v2, .int (gI h6 (gP h v0 1) (t14 + (6 : Int32)).toNatClampNeg), .int (gI h6 (gP h v0 1) (t14 + (5 : Int32)).toNatClampNeg)]) 11 YX12_puts 3 dX12_change_121 moX12_puts mvX12_puts mlX12_386 g29 rfl rfl (okX12_puts (d := d) e28) rfl rfl [] rfl rfl (st2 := []) rfl ?_
        refine J_iconst (1 : Int32) dX12_change_124 kc_1 ?_
        cases H
        exact J_rZ dX12_change_125 rfl rfl
      · replace H := br0 q21 H
        refine J_iconst (0 : Int32) dX12_change_68 kc_0 ?_
        cases H
        exact J_rZ dX12_change_69 rfl rfl
  · replace H := br0 q12 H
    refine J_iconst (0 : Int32) dX12_change_32 kc_0 ?_
    cases H
    exact J_rZ dX12_change_33 rfl rfl
noncomputable def MX12_change_17 (h : Hp) (v0 : Nat) (v1 : Int32) (v2 : Int32) (s0 : Nat) : Option (Int32 × Hp) :=
  MX12_change_22 h v0 v1 v2 s0 (1 : Int32)
set_option maxRecDepth 100000 in
set_option maxHeartbeats 8000000 in
theorem kX12_change_17 {d : Nat} {h : Hp} {v0 : Nat} {v1 : Int32} {v2 : Int32} {s0 : Nat} {r : Int32} {h9 : Hp} (H : MX12_change_17 h v0 v1 v2 s0 = some (r, h9)) : J (d + 2) YX12_change 17 [.ref v0, .int v1, .int v2, Value.null, Value.null, Value.null, Value.null] [.ref s0] h (oI r) h9 := by
  unfold MX12_change_17 at H
  refine J_iconst (1 : Int32) dX12_change_17 kc_1 ?_
  refine J_goto 22 dX12_change_18 rfl ?_
  exact J_dr (kX12_change_22 H ) ⟨rfl, ⟨rfl, ⟨rfl, trivial⟩⟩⟩
noncomputable def MX12_change (h : Hp) (v0 : Nat) (v1 : Int32) (v2 : Int32) : Option (Int32 × Hp) :=
  gg (β := (Int32 × Hp)) (kd h v0 = 11) <|
  Option.bind (α := Int32) (β := (Int32 × Hp)) (MX12_isSlug h v0 v1) fun (t3 : Int32) =>
  if t3 = 0 then
    MX12_change_17 h v0 v1 v2 v0
  else
    Option.bind (α := Int32) (β := (Int32 × Hp)) (MX12_isSlug h v0 v2) fun (t32 : Int32) =>
    if t32 = 0 then
      MX12_change_17 h v0 v1 v2 v0
    else
      MX12_change_22 h v0 v1 v2 v0 (0 : Int32)
set_option maxRecDepth 100000 in
set_option maxHeartbeats 8000000 in
theorem eX12_change {d : Nat} {h : Hp} {v0 : Nat} {v1 : Int32} {v2 : Int32} {r : Int32} {h9 : Hp} (H : MX12_change h v0 v1 v2 = some (r, h9)) : J (d + 2) YX12_change 0 [.ref v0, .int v1, .int v2, Value.null, Value.null, Value.null, Value.null] [] h (oI r) h9 := by
  unfold MX12_change at H
  refine J_aload_n 0 dX12_change_0 rfl rfl ?_
  refine J_aload_n 0 dX12_change_1 rfl rfl ?_
  refine J_iload_n 1 dX12_change_2 rfl rfl ?_
  obtain ⟨g2, H⟩ := gd H
  obtain ⟨t3, e1, H⟩ := bd H
  refine J_cV (as := [.int v1]) 11 YX12_isSlug 1 dX12_change_3 moX12_isSlug mvX12_isSlug mlX12_396 g2 rfl rfl (okX12_isSlug (d := d + 1) e1) rfl rfl [.ref v0] rfl rfl (st2 := [.int t3, .ref v0]) rfl ?_
  refine J_if_eq 17 dX12_change_6 rfl (fun q4 => ?_) (fun q4 => ?_)
  · replace H := br1 q4 H
    exact J_dr (kX12_change_17 H ) ⟨rfl, ⟨rfl, ⟨rfl, trivial⟩⟩⟩
  · replace H := br0 q4 H
    refine J_aload_n 0 dX12_change_9 rfl rfl ?_
    refine J_iload_n 2 dX12_change_10 rfl rfl ?_
    obtain ⟨t32, e31, H⟩ := bd H
    refine J_cV (as := [.int v2]) 11 YX12_isSlug 1 dX12_change_11 moX12_isSlug mvX12_isSlug mlX12_396 g2 rfl rfl (okX12_isSlug (d := d + 1) e31) rfl rfl [.ref v0] rfl rfl (st2 := [.int t32, .ref v0]) rfl ?_
    refine J_if_ne 21 dX12_change_14 rfl (fun q33 => ?_) (fun q33 => ?_)
    · replace H := br0 q33 H
      refine J_iconst (0 : Int32) dX12_change_21 kc_0 ?_
      exact J_dr (kX12_change_22 H ) ⟨rfl, ⟨rfl, ⟨rfl, trivial⟩⟩⟩
    · replace H := br1 q33 H
      exact J_dr (kX12_change_17 H ) ⟨rfl, ⟨rfl, ⟨rfl, trivial⟩⟩⟩
theorem okX12_change {d : Nat} {h : Hp} {v0 : Nat} {v1 : Int32} {v2 : Int32} {r : Int32} {h9 : Hp} (H : MX12_change h v0 v1 v2 = some (r, h9)) : CT (d + 2) YX12_change [.ref v0, .int v1, .int v2] h (oI r) h9 := CT_of (by decide +kernel) (Nat.le_of_ble_eq_true rfl) (eX12_change H)
noncomputable def MX12_isEdition (h : Hp) (v0 : Nat) (v1 : Int32) : Option Int32 :=
  gg (β := Int32) (kd h v0 = 11) <|
  gg (β := Int32) (kd h (gP h v0 1) = 20) <|
  gg (β := Int32) (inB (6 : Int32) (ln h (gP h v0 1)) = true) <|
  Option.bind (α := Int32) (β := Int32) (MX12_isIn h v1 (-1 : Int32) ((gI h (gP h v0 1) (6 : Int32).toNatClampNeg) - (1 : Int32))) fun (t5 : Int32) =>
  gg (β := Int32) (zOk t5 = true) <|
  some t5
set_option maxRecDepth 100000 in
set_option maxHeartbeats 8000000 in
theorem eX12_isEdition {d : Nat} {h : Hp} {v0 : Nat} {v1 : Int32} {r : Int32} (H : MX12_isEdition h v0 v1 = some r) : J (d + 1) YX12_isEdition 0 [.ref v0, .int v1] [] h (oI r) h := by
  unfold MX12_isEdition at H
  refine J_iload_n 1 dX12_isEdition_0 rfl rfl ?_
  refine J_iconst (-1 : Int32) dX12_isEdition_1 kc_m1 ?_
  refine J_aload_n 0 dX12_isEdition_2 rfl rfl ?_
  obtain ⟨g1, H⟩ := gd H
  refine J_gP 11 1 dX12_isEdition_3 g1 flX12_8 rfl rfl ?_
  refine J_bipush (6 : Int32) dX12_isEdition_6 kb_6 ?_
  obtain ⟨g2, H⟩ := gd H
  obtain ⟨g3, H⟩ := gd H
  refine J_iald dX12_isEdition_8 g2 (inB_ok g3) ?_
  refine J_iconst (1 : Int32) dX12_isEdition_9 kc_1 ?_
  refine J_isub dX12_isEdition_10 ?_
  obtain ⟨t5, e4, H⟩ := bd H
  refine J_cS (as := [.int v1, .int (-1 : Int32), .int ((gI h (gP h v0 1) (6 : Int32).toNatClampNeg) - (1 : Int32))]) YX12_isIn 3 dX12_isEdition_11 moX12_isIn msX12_isIn mlX12_157 (okX12_isIn (d := d) e4) rfl rfl [] rfl rfl (st2 := [.int t5]) rfl ?_
  obtain ⟨g6, H⟩ := gd H
  cases H
  exact J_rZ dX12_isEdition_14 rfl g6
theorem okX12_isEdition {d : Nat} {h : Hp} {v0 : Nat} {v1 : Int32} {r : Int32} (H : MX12_isEdition h v0 v1 = some r) : CT (d + 1) YX12_isEdition [.ref v0, .int v1] h (oI r) h := CT_of (by decide +kernel) (Nat.le_of_ble_eq_true rfl) (eX12_isEdition H)
noncomputable def MX12_isPage (h : Hp) (v0 : Int32) : Option Int32 :=
  if v0 < 0 then
    some (0 : Int32)
  else
    if (6 : Int32) ≤ v0 then
      some (0 : Int32)
    else
      some (1 : Int32)
set_option maxRecDepth 100000 in
set_option maxHeartbeats 8000000 in
theorem eX12_isPage {d : Nat} {h : Hp} {v0 : Int32} {r : Int32} (H : MX12_isPage h v0 = some r) : J (d) YX12_isPage 0 [.int v0] [] h (oI r) h := by
  unfold MX12_isPage at H
  refine J_iload_n 0 dX12_isPage_0 rfl rfl ?_
  refine J_if_lt 14 dX12_isPage_1 rfl (fun q1 => ?_) (fun q1 => ?_)
  · replace H := br1 q1 H
    refine J_iconst (0 : Int32) dX12_isPage_14 kc_0 ?_
    cases H
    exact J_rZ dX12_isPage_15 rfl rfl
  · replace H := br0 q1 H
    refine J_iload_n 0 dX12_isPage_4 rfl rfl ?_
    refine J_bipush (6 : Int32) dX12_isPage_5 kb_6 ?_
    refine J_icmp_ge 14 dX12_isPage_7 rfl (fun q2 => ?_) (fun q2 => ?_)
    · replace H := br1 q2 H
      refine J_iconst (0 : Int32) dX12_isPage_14 kc_0 ?_
      cases H
      exact J_rZ dX12_isPage_15 rfl rfl
    · replace H := br0 q2 H
      refine J_iconst (1 : Int32) dX12_isPage_10 kc_1 ?_
      refine J_goto 15 dX12_isPage_11 rfl ?_
      cases H
      exact J_rZ dX12_isPage_15 rfl rfl
theorem okX12_isPage {d : Nat} {h : Hp} {v0 : Int32} {r : Int32} (H : MX12_isPage h v0 = some r) : CT (d) YX12_isPage [.int v0] h (oI r) h := CT_of (by decide +kernel) (Nat.le_of_ble_eq_true rfl) (eX12_isPage H)
noncomputable def MX12_many0 (h : Hp) (v0 : Nat) (v1 : Int32) (v2 : Int32) : Option Int32 :=
  some ((328492 : Int32) + ((181 : Int32) * (((6 : Int32) * v2) + v1)))
set_option maxRecDepth 100000 in
set_option maxHeartbeats 8000000 in
theorem eX12_many0 {d : Nat} {h : Hp} {v0 : Nat} {v1 : Int32} {v2 : Int32} {r : Int32} (H : MX12_many0 h v0 v1 v2 = some r) : J (d) YX12_many0 0 [.ref v0, .int v1, .int v2] [] h (oI r) h := by
  unfold MX12_many0 at H
  refine J_ldcw (328492 : Int32) coX12_442 dX12_many0_0 ?_
  refine J_sipush (181 : Int32) dX12_many0_3 ks_181 ?_
  refine J_bipush (6 : Int32) dX12_many0_6 kb_6 ?_
  refine J_iload_n 2 dX12_many0_8 rfl rfl ?_
  refine J_imul dX12_many0_9 ?_
  refine J_iload_n 1 dX12_many0_10 rfl rfl ?_
  refine J_iadd dX12_many0_11 ?_
  refine J_imul dX12_many0_12 ?_
  refine J_iadd dX12_many0_13 ?_
  cases H
  exact J_iretI dX12_many0_14 rfl
theorem okX12_many0 {d : Nat} {h : Hp} {v0 : Nat} {v1 : Int32} {v2 : Int32} {r : Int32} (H : MX12_many0 h v0 v1 v2 = some r) : CT (d) YX12_many0 [.ref v0, .int v1, .int v2] h (oI r) h := CT_of (by decide +kernel) (Nat.le_of_ble_eq_true rfl) (eX12_many0 H)
noncomputable def MX12_slugOn (h : Hp) (v0 : Nat) (v1 : Int32) (v2 : Int32) (v3 : Int32) : Option Int32 :=
  if v2 = (-1 : Int32) then
    gg (β := Int32) (kd h v0 = 11) <|
    gg (β := Int32) (kd h (gP h v0 1) = 20) <|
    gg (β := Int32) (inB ((((327382 : Int32) + ((185 : Int32) * v1)) + (5 : Int32)) + v3) (ln h (gP h v0 1)) = true) <|
    some (gI h (gP h v0 1) ((((327382 : Int32) + ((185 : Int32) * v1)) + (5 : Int32)) + v3).toNatClampNeg)
  else
    gg (β := Int32) (kd h v0 = 11) <|
    Option.bind (α := Int32) (β := Int32) (MX12_many0 h v0 v1 v2) fun (t4 : Int32) =>
    gg (β := Int32) (kd h (gP h v0 1) = 20) <|
    gg (β := Int32) (inB ((t4 + (1 : Int32)) + v3) (ln h (gP h v0 1)) = true) <|
    some (gI h (gP h v0 1) ((t4 + (1 : Int32)) + v3).toNatClampNeg)
set_option maxRecDepth 100000 in
set_option maxHeartbeats 8000000 in
theorem eX12_slugOn {d : Nat} {h : Hp} {v0 : Nat} {v1 : Int32} {v2 : Int32} {v3 : Int32} {r : Int32} (H : MX12_slugOn h v0 v1 v2 v3 = some r) : J (d + 1) YX12_slugOn 0 [.ref v0, .int v1, .int v2, .int v3] [] h (oI r) h := by
  unfold MX12_slugOn at H
  refine J_iload_n 2 dX12_slugOn_0 rfl rfl ?_
  refine J_iconst (-1 : Int32) dX12_slugOn_1 kc_m1 ?_
  refine J_icmp_ne 25 dX12_slugOn_2 rfl (fun q1 => ?_) (fun q1 => ?_)
  · replace H := br0 q1 H
    refine J_aload_n 0 dX12_slugOn_25 rfl rfl ?_
    obtain ⟨g2, H⟩ := gd H
    refine J_gP 11 1 dX12_slugOn_26 g2 flX12_8 rfl rfl ?_
    refine J_aload_n 0 dX12_slugOn_29 rfl rfl ?_
    refine J_iload_n 1 dX12_slugOn_30 rfl rfl ?_
    refine J_iload_n 2 dX12_slugOn_31 rfl rfl ?_
    obtain ⟨t4, e3, H⟩ := bd H
    refine J_cV (as := [.int v1, .int v2]) 11 YX12_many0 2 dX12_slugOn_32 moX12_many0 mvX12_many0 mlX12_443 g2 rfl rfl (okX12_many0 (d := d) e3) rfl rfl [.ref (gP h v0 1)] rfl rfl (st2 := [.int t4, .ref (gP h v0 1)]) rfl ?_
    refine J_iconst (1 : Int32) dX12_slugOn_35 kc_1 ?_
    refine J_iadd dX12_slugOn_36 ?_
    refine J_iload_n 3 dX12_slugOn_37 rfl rfl ?_
    refine J_iadd dX12_slugOn_38 ?_
    obtain ⟨g5, H⟩ := gd H
    obtain ⟨g6, H⟩ := gd H
    refine J_iald dX12_slugOn_39 g5 (inB_ok g6) ?_
    cases H
    exact J_iretI dX12_slugOn_40 rfl
  · replace H := br1 q1 H
    refine J_aload_n 0 dX12_slugOn_5 rfl rfl ?_
    obtain ⟨g7, H⟩ := gd H
    refine J_gP 11 1 dX12_slugOn_6 g7 flX12_8 rfl rfl ?_
    refine J_ldc (327382 : Int32) coX12_121 dX12_slugOn_9 ?_
    refine J_sipush (185 : Int32) dX12_slugOn_11 ks_185 ?_
    refine J_iload_n 1 dX12_slugOn_14 rfl rfl ?_
    refine J_imul dX12_slugOn_15 ?_
    refine J_iadd dX12_slugOn_16 ?_
    refine J_iconst (5 : Int32) dX12_slugOn_17 kc_5 ?_
    refine J_iadd dX12_slugOn_18 ?_
    refine J_iload_n 3 dX12_slugOn_19 rfl rfl ?_
    refine J_iadd dX12_slugOn_20 ?_
    obtain ⟨g8, H⟩ := gd H
    obtain ⟨g9, H⟩ := gd H
    refine J_iald dX12_slugOn_21 g8 (inB_ok g9) ?_
    refine J_goto 40 dX12_slugOn_22 rfl ?_
    cases H
    exact J_iretI dX12_slugOn_40 rfl
theorem okX12_slugOn {d : Nat} {h : Hp} {v0 : Nat} {v1 : Int32} {v2 : Int32} {v3 : Int32} {r : Int32} (H : MX12_slugOn h v0 v1 v2 v3 = some r) : CT (d + 1) YX12_slugOn [.ref v0, .int v1, .int v2, .int v3] h (oI r) h := CT_of (by decide +kernel) (Nat.le_of_ble_eq_true rfl) (eX12_slugOn H)
noncomputable def MX12_slugsOn (h : Hp) (v0 : Nat) (v1 : Int32) (v2 : Int32) : Option Int32 :=
  if v2 = (-1 : Int32) then
    gg (β := Int32) (kd h v0 = 11) <|
    gg (β := Int32) (kd h (gP h v0 1) = 20) <|
    gg (β := Int32) (inB (((327382 : Int32) + ((185 : Int32) * v1)) + (2 : Int32)) (ln h (gP h v0 1)) = true) <|
    some (gI h (gP h v0 1) (((327382 : Int32) + ((185 : Int32) * v1)) + (2 : Int32)).toNatClampNeg)
  else
    gg (β := Int32) (kd h v0 = 11) <|
    Option.bind (α := Int32) (β := Int32) (MX12_many0 h v0 v1 v2) fun (t4 : Int32) =>
    gg (β := Int32) (kd h (gP h v0 1) = 20) <|
    gg (β := Int32) (inB t4 (ln h (gP h v0 1)) = true) <|
    some (gI h (gP h v0 1) t4.toNatClampNeg)
set_option maxRecDepth 100000 in
set_option maxHeartbeats 8000000 in
theorem eX12_slugsOn {d : Nat} {h : Hp} {v0 : Nat} {v1 : Int32} {v2 : Int32} {r : Int32} (H : MX12_slugsOn h v0 v1 v2 = some r) : J (d + 1) YX12_slugsOn 0 [.ref v0, .int v1, .int v2] [] h (oI r) h := by
  unfold MX12_slugsOn at H
  refine J_iload_n 2 dX12_slugsOn_0 rfl rfl ?_
  refine J_iconst (-1 : Int32) dX12_slugsOn_1 kc_m1 ?_
  refine J_icmp_ne 23 dX12_slugsOn_2 rfl (fun q1 => ?_) (fun q1 => ?_)
  · replace H := br0 q1 H
    refine J_aload_n 0 dX12_slugsOn_23 rfl rfl ?_
    obtain ⟨g2, H⟩ := gd H
    refine J_gP 11 1 dX12_slugsOn_24 g2 flX12_8 rfl rfl ?_
    refine J_aload_n 0 dX12_slugsOn_27 rfl rfl ?_
    refine J_iload_n 1 dX12_slugsOn_28 rfl rfl ?_
    refine J_iload_n 2 dX12_slugsOn_29 rfl rfl ?_
    obtain ⟨t4, e3, H⟩ := bd H
    refine J_cV (as := [.int v1, .int v2]) 11 YX12_many0 2 dX12_slugsOn_30 moX12_many0 mvX12_many0 mlX12_443 g2 rfl rfl (okX12_many0 (d := d) e3) rfl rfl [.ref (gP h v0 1)] rfl rfl (st2 := [.int t4, .ref (gP h v0 1)]) rfl ?_
    obtain ⟨g5, H⟩ := gd H
    obtain ⟨g6, H⟩ := gd H
    refine J_iald dX12_slugsOn_33 g5 (inB_ok g6) ?_
    cases H
    exact J_iretI dX12_slugsOn_34 rfl
  · replace H := br1 q1 H
    refine J_aload_n 0 dX12_slugsOn_5 rfl rfl ?_
    obtain ⟨g7, H⟩ := gd H
    refine J_gP 11 1 dX12_slugsOn_6 g7 flX12_8 rfl rfl ?_
    refine J_ldc (327382 : Int32) coX12_121 dX12_slugsOn_9 ?_
    refine J_sipush (185 : Int32) dX12_slugsOn_11 ks_185 ?_
    refine J_iload_n 1 dX12_slugsOn_14 rfl rfl ?_
    refine J_imul dX12_slugsOn_15 ?_
    refine J_iadd dX12_slugsOn_16 ?_
    refine J_iconst (2 : Int32) dX12_slugsOn_17 kc_2 ?_
    refine J_iadd dX12_slugsOn_18 ?_
    obtain ⟨g8, H⟩ := gd H
    obtain ⟨g9, H⟩ := gd H
    refine J_iald dX12_slugsOn_19 g8 (inB_ok g9) ?_
    refine J_goto 34 dX12_slugsOn_20 rfl ?_
    cases H
    exact J_iretI dX12_slugsOn_34 rfl
theorem okX12_slugsOn {d : Nat} {h : Hp} {v0 : Nat} {v1 : Int32} {v2 : Int32} {r : Int32} (H : MX12_slugsOn h v0 v1 v2 = some r) : CT (d + 1) YX12_slugsOn [.ref v0, .int v1, .int v2] h (oI r) h := CT_of (by decide +kernel) (Nat.le_of_ble_eq_true rfl) (eX12_slugsOn H)
noncomputable def MX12_changed_124 (h : Hp) (v0 : Nat) (v1 : Int32) (v2 : Int32) (v3 : Int32) (v5 : Int32) (s0 : Int32) (s1 : Int32) : Option ((Int32 × Int32) ⊕ (Int32 × Hp)) :=
  some (.inl ((s0 + s1), (v5 + (1 : Int32))))
set_option maxRecDepth 100000 in
set_option maxHeartbeats 8000000 in
theorem kX12_changed_124 {d : Nat} {h : Hp} {v0 : Nat} {v1 : Int32} {v2 : Int32} {v3 : Int32} {v5 : Int32} {s0 : Int32} {s1 : Int32} {r : Int32} {h9 : Hp} {x : ((Int32 × Int32) ⊕ (Int32 × Hp))} (H : MX12_changed_124 h v0 v1 v2 v3 v5 s0 s1 = some x) (hb0 : ∀ s : Int32 × Int32, x = .inl s → J (d + 2) YX12_changed 47 [.ref v0, .int v1, .int v2, .int v3, .int s.1, .int s.2, Value.null, Value.null] [] h (oI r) h9) (hx : ∀ z : (Int32 × Hp), x = .inr (z) → z = (r, h9)) : J (d + 2) YX12_changed 124 [.ref v0, .int v1, .int v2, .int v3, Value.null, .int v5, Value.null, Value.null] [.int s1, .int s0] h (oI r) h9 := by
  unfold MX12_changed_124 at H
  refine J_iadd dX12_changed_124 ?_
  refine J_istore dX12_changed_125 (by decide) (ls' := [.ref v0, .int v1, .int v2, .int v3, .int (s0 + s1), .int v5, Value.null, Value.null]) rfl ?_
  refine J_iinc (v5 + (1 : Int32)) dX12_changed_127 rfl (congrArg (HAdd.hAdd v5) kc_1) (by decide) (ls' := [.ref v0, .int v1, .int v2, .int v3, .int (s0 + s1), .int (v5 + (1 : Int32)), Value.null, Value.null]) rfl ?_
  refine J_goto 47 dX12_changed_130 rfl ?_
  cases H
  exact J_dr (hb0 _ rfl) ⟨rfl, ⟨rfl, ⟨rfl, ⟨rfl, ⟨rfl, ⟨rfl, trivial⟩⟩⟩⟩⟩⟩
noncomputable def MX12_changed_112 (h : Hp) (v0 : Nat) (v1 : Int32) (v2 : Int32) (v3 : Int32) (v4 : Int32) (v5 : Int32) (v6 : Int32) : Option ((Int32 × Int32) ⊕ (Int32 × Hp)) :=
  if v6 = 0 then
    MX12_changed_124 h v0 v1 v2 v3 v5 v4 (1 : Int32)
  else
    MX12_changed_124 h v0 v1 v2 v3 v5 v4 (0 : Int32)
set_option maxRecDepth 100000 in
set_option maxHeartbeats 8000000 in
theorem kX12_changed_112 {d : Nat} {h : Hp} {v0 : Nat} {v1 : Int32} {v2 : Int32} {v3 : Int32} {v4 : Int32} {v5 : Int32} {v6 : Int32} {r : Int32} {h9 : Hp} {x : ((Int32 × Int32) ⊕ (Int32 × Hp))} (H : MX12_changed_112 h v0 v1 v2 v3 v4 v5 v6 = some x) (hb0 : ∀ s : Int32 × Int32, x = .inl s → J (d + 2) YX12_changed 47 [.ref v0, .int v1, .int v2, .int v3, .int s.1, .int s.2, Value.null, Value.null] [] h (oI r) h9) (hx : ∀ z : (Int32 × Hp), x = .inr (z) → z = (r, h9)) : J (d + 2) YX12_changed 112 [.ref v0, .int v1, .int v2, .int v3, .int v4, .int v5, .int v6, Value.null] [] h (oI r) h9 := by
  unfold MX12_changed_112 at H
  refine J_iload dX12_changed_112 rfl ?_
  refine J_iload dX12_changed_114 rfl ?_
  refine J_if_eq 123 dX12_changed_116 rfl (fun q20 => ?_) (fun q20 => ?_)
  · replace H := br1 q20 H
    refine J_iconst (1 : Int32) dX12_changed_123 kc_1 ?_
    exact J_dr (kX12_changed_124 H hb0 hx) ⟨rfl, ⟨rfl, ⟨rfl, ⟨rfl, ⟨rfl, trivial⟩⟩⟩⟩⟩
  · replace H := br0 q20 H
    refine J_iconst (0 : Int32) dX12_changed_119 kc_0 ?_
    refine J_goto 124 dX12_changed_120 rfl ?_
    exact J_dr (kX12_changed_124 H hb0 hx) ⟨rfl, ⟨rfl, ⟨rfl, ⟨rfl, ⟨rfl, trivial⟩⟩⟩⟩⟩
noncomputable def MX12_changed_104 (h : Hp) (v0 : Nat) (v1 : Int32) (v2 : Int32) (v3 : Int32) (v4 : Int32) (v5 : Int32) (v7 : Int32) (s0 : Int32) : Option ((Int32 × Int32) ⊕ ((Int32 × Int32) ⊕ (Int32 × Hp))) :=
  some (.inl (s0, (v7 + (1 : Int32))))
set_option maxRecDepth 100000 in
set_option maxHeartbeats 8000000 in
theorem kX12_changed_104 {d : Nat} {h : Hp} {v0 : Nat} {v1 : Int32} {v2 : Int32} {v3 : Int32} {v4 : Int32} {v5 : Int32} {v7 : Int32} {s0 : Int32} {r : Int32} {h9 : Hp} {x : ((Int32 × Int32) ⊕ ((Int32 × Int32) ⊕ (Int32 × Hp)))} (H : MX12_changed_104 h v0 v1 v2 v3 v4 v5 v7 s0 = some x) (hb0 : ∀ s : Int32 × Int32, x = .inl s → J (d + 2) YX12_changed 64 [.ref v0, .int v1, .int v2, .int v3, .int v4, .int v5, .int s.1, .int s.2] [] h (oI r) h9) (hb1 : ∀ s : Int32 × Int32, x = .inr (.inl s) → J (d + 2) YX12_changed 47 [.ref v0, .int v1, .int v2, .int v3, .int s.1, .int s.2, Value.null, Value.null] [] h (oI r) h9) (hx : ∀ z : (Int32 × Hp), x = .inr (.inr (z)) → z = (r, h9)) : J (d + 2) YX12_changed 104 [.ref v0, .int v1, .int v2, .int v3, .int v4, .int v5, Value.null, .int v7] [.int s0] h (oI r) h9 := by
  unfold MX12_changed_104 at H
  refine J_istore dX12_changed_104 (by decide) (ls' := [.ref v0, .int v1, .int v2, .int v3, .int v4, .int v5, .int s0, .int v7]) rfl ?_
  refine J_iinc (v7 + (1 : Int32)) dX12_changed_106 rfl (congrArg (HAdd.hAdd v7) kc_1) (by decide) (ls' := [.ref v0, .int v1, .int v2, .int v3, .int v4, .int v5, .int s0, .int (v7 + (1 : Int32))]) rfl ?_
  refine J_goto 64 dX12_changed_109 rfl ?_
  cases H
  exact J_dr (hb0 _ rfl) ⟨rfl, ⟨rfl, ⟨rfl, ⟨rfl, ⟨rfl, ⟨rfl, ⟨rfl, ⟨rfl, trivial⟩⟩⟩⟩⟩⟩⟩⟩
noncomputable def MX12_changed_99 (h : Hp) (v0 : Nat) (v1 : Int32) (v2 : Int32) (v3 : Int32) (v4 : Int32) (v5 : Int32) (v7 : Int32) : Option ((Int32 × Int32) ⊕ ((Int32 × Int32) ⊕ (Int32 × Hp))) :=
  MX12_changed_104 h v0 v1 v2 v3 v4 v5 v7 (1 : Int32)
set_option maxRecDepth 100000 in
set_option maxHeartbeats 8000000 in
theorem kX12_changed_99 {d : Nat} {h : Hp} {v0 : Nat} {v1 : Int32} {v2 : Int32} {v3 : Int32} {v4 : Int32} {v5 : Int32} {v7 : Int32} {r : Int32} {h9 : Hp} {x : ((Int32 × Int32) ⊕ ((Int32 × Int32) ⊕ (Int32 × Hp)))} (H : MX12_changed_99 h v0 v1 v2 v3 v4 v5 v7 = some x) (hb0 : ∀ s : Int32 × Int32, x = .inl s → J (d + 2) YX12_changed 64 [.ref v0, .int v1, .int v2, .int v3, .int v4, .int v5, .int s.1, .int s.2] [] h (oI r) h9) (hb1 : ∀ s : Int32 × Int32, x = .inr (.inl s) → J (d + 2) YX12_changed 47 [.ref v0, .int v1, .int v2, .int v3, .int s.1, .int s.2, Value.null, Value.null] [] h (oI r) h9) (hx : ∀ z : (Int32 × Hp), x = .inr (.inr (z)) → z = (r, h9)) : J (d + 2) YX12_changed 99 [.ref v0, .int v1, .int v2, .int v3, .int v4, .int v5, Value.null, .int v7] [] h (oI r) h9 := by
  unfold MX12_changed_99 at H
  refine J_iconst (1 : Int32) dX12_changed_99 kc_1 ?_
  refine J_goto 104 dX12_changed_100 rfl ?_
  exact J_dr (kX12_changed_104 H hb0 hb1 hx) ⟨rfl, ⟨rfl, ⟨rfl, ⟨rfl, ⟨rfl, ⟨rfl, ⟨rfl, trivial⟩⟩⟩⟩⟩⟩⟩
noncomputable def BX12_changed_64 (h : Hp) (v0 : Nat) (v1 : Int32) (v2 : Int32) (v3 : Int32) (v4 : Int32) (v5 : Int32) (v6 : Int32) (v7 : Int32) : Option ((Int32 × Int32) ⊕ ((Int32 × Int32) ⊕ (Int32 × Hp))) :=
  gg (β := ((Int32 × Int32) ⊕ ((Int32 × Int32) ⊕ (Int32 × Hp)))) (kd h v0 = 11) <|
  Option.bind (α := Int32) (β := ((Int32 × Int32) ⊕ ((Int32 × Int32) ⊕ (Int32 × Hp)))) (MX12_slugsOn h v0 v1 v2) fun (t18 : Int32) =>
  if t18 ≤ v7 then
    up1 (MX12_changed_112 h v0 v1 v2 v3 v4 v5 v6)
  else
    if v6 = 0 then
      Option.bind (α := Int32) (β := ((Int32 × Int32) ⊕ ((Int32 × Int32) ⊕ (Int32 × Hp)))) (MX12_slugOn h v0 v1 v2 v7) fun (t23 : Int32) =>
      Option.bind (α := Int32) (β := ((Int32 × Int32) ⊕ ((Int32 × Int32) ⊕ (Int32 × Hp)))) (MX12_slugOn h v0 v1 v3 v5) fun (t25 : Int32) =>
      if t23 = t25 then
        MX12_changed_99 h v0 v1 v2 v3 v4 v5 v7
      else
        MX12_changed_104 h v0 v1 v2 v3 v4 v5 v7 (0 : Int32)
    else
      MX12_changed_99 h v0 v1 v2 v3 v4 v5 v7
set_option maxRecDepth 100000 in
set_option maxHeartbeats 8000000 in
theorem bX12_changed_64 {d : Nat} {h : Hp} {v0 : Nat} {v1 : Int32} {v2 : Int32} {v3 : Int32} {v4 : Int32} {v5 : Int32} {v6 : Int32} {v7 : Int32} {r : Int32} {h9 : Hp} {x : ((Int32 × Int32) ⊕ ((Int32 × Int32) ⊕ (Int32 × Hp)))} (H : BX12_changed_64 h v0 v1 v2 v3 v4 v5 v6 v7 = some x) (hb0 : ∀ s : Int32 × Int32, x = .inl s → J (d + 2) YX12_changed 64 [.ref v0, .int v1, .int v2, .int v3, .int v4, .int v5, .int s.1, .int s.2] [] h (oI r) h9) (hb1 : ∀ s : Int32 × Int32, x = .inr (.inl s) → J (d + 2) YX12_changed 47 [.ref v0, .int v1, .int v2, .int v3, .int s.1, .int s.2, Value.null, Value.null] [] h (oI r) h9) (hx : ∀ z : (Int32 × Hp), x = .inr (.inr (z)) → z = (r, h9)) : J (d + 2) YX12_changed 64 [.ref v0, .int v1, .int v2, .int v3, .int v4, .int v5, .int v6, .int v7] [] h (oI r) h9 := by
  unfold BX12_changed_64 at H
  refine J_iload dX12_changed_64 rfl ?_
  refine J_aload_n 0 dX12_changed_66 rfl rfl ?_
  refine J_iload_n 1 dX12_changed_67 rfl rfl ?_
  refine J_iload_n 2 dX12_changed_68 rfl rfl ?_
  obtain ⟨g17, H⟩ := gd H
  obtain ⟨t18, e16, H⟩ := bd H
  refine J_cV (as := [.int v1, .int v2]) 11 YX12_slugsOn 2 dX12_changed_69 moX12_slugsOn mvX12_slugsOn mlX12_449 g17 rfl rfl (okX12_slugsOn (d := d) e16) rfl rfl [.int v7] rfl rfl (st2 := [.int t18, .int v7]) rfl ?_
  refine J_icmp_ge 112 dX12_changed_72 rfl (fun q19 => ?_) (fun q19 => ?_)
  · replace H := br1 q19 H
    obtain ⟨y0, H90, rfl⟩ := up1_el H
    replace H := H90
    exact J_dr (kX12_changed_112 H (fun s hs => hb1 s (congrArg Sum.inr hs)) (fun s hs => hx s (congrArg Sum.inr hs))) ⟨rfl, ⟨rfl, ⟨rfl, ⟨rfl, ⟨rfl, ⟨rfl, ⟨rfl, trivial⟩⟩⟩⟩⟩⟩⟩
  · replace H := br0 q19 H
    refine J_iload dX12_changed_75 rfl ?_
    refine J_if_ne 99 dX12_changed_77 rfl (fun q21 => ?_) (fun q21 => ?_)
    · replace H := br0 q21 H
      exact J_dr (kX12_changed_99 H hb0 hb1 hx) ⟨rfl, ⟨rfl, ⟨rfl, ⟨rfl, ⟨rfl, ⟨rfl, ⟨rfl, trivial⟩⟩⟩⟩⟩⟩⟩
    · replace H := br1 q21 H
      refine J_aload_n 0 dX12_changed_80 rfl rfl ?_
      refine J_iload_n 1 dX12_changed_81 rfl rfl ?_
      refine J_iload_n 2 dX12_changed_82 rfl rfl ?_
      refine J_iload dX12_changed_83 rfl ?_
      obtain ⟨t23, e22, H⟩ := bd H
      refine J_cV (as := [.int v1, .int v2, .int v7]) 11 YX12_slugOn 3 dX12_changed_85 moX12_slugOn mvX12_slugOn mlX12_452 g17 rfl rfl (okX12_slugOn (d := d) e22) rfl rfl [] rfl rfl (st2 := [.int t23]) rfl ?_
      refine J_aload_n 0 dX12_changed_88 rfl rfl ?_
      refine J_iload_n 1 dX12_changed_89 rfl rfl ?_
      refine J_iload_n 3 dX12_changed_90 rfl rfl ?_
      refine J_iload dX12_changed_91 rfl ?_
      obtain ⟨t25, e24, H⟩ := bd H
      refine J_cV (as := [.int v1, .int v3, .int v5]) 11 YX12_slugOn 3 dX12_changed_93 moX12_slugOn mvX12_slugOn mlX12_452 g17 rfl rfl (okX12_slugOn (d := d) e24) rfl rfl [.int t23] rfl rfl (st2 := [.int t25, .int t23]) rfl ?_
      refine J_icmp_ne 103 dX12_changed_96 rfl (fun q26 => ?_) (fun q26 => ?_)
      · replace H := br0 q26 H
        refine J_iconst (0 : Int32) dX12_changed_103 kc_0 ?_
        exact J_dr (kX12_changed_104 H hb0 hb1 hx) ⟨rfl, ⟨rfl, ⟨rfl, ⟨rfl, ⟨rfl, ⟨rfl, ⟨rfl, trivial⟩⟩⟩⟩⟩⟩⟩
      · replace H := br1 q26 H
        exact J_dr (kX12_changed_99 H hb0 hb1 hx) ⟨rfl, ⟨rfl, ⟨rfl, ⟨rfl, ⟨rfl, ⟨rfl, ⟨rfl, trivial⟩⟩⟩⟩⟩⟩⟩
noncomputable def MX12_changed_64 (h : Hp) (v0 : Nat) (v1 : Int32) (v2 : Int32) (v3 : Int32) (v4 : Int32) (v5 : Int32) (v6 : Int32) (v7 : Int32) : Option ((Int32 × Int32) ⊕ (Int32 × Hp)) := it (fun q : Int32 × Int32 => BX12_changed_64 h v0 v1 v2 v3 v4 v5 q.1 q.2) (v6, v7)
set_option maxRecDepth 100000 in
set_option maxHeartbeats 8000000 in
theorem kX12_changed_64 {d : Nat} {h : Hp} {v0 : Nat} {v1 : Int32} {v2 : Int32} {v3 : Int32} {v4 : Int32} {v5 : Int32} {v6 : Int32} {v7 : Int32} {r : Int32} {h9 : Hp} {x : ((Int32 × Int32) ⊕ (Int32 × Hp))} (H : MX12_changed_64 h v0 v1 v2 v3 v4 v5 v6 v7 = some x) (hb0 : ∀ s : Int32 × Int32, x = .inl s → J (d + 2) YX12_changed 47 [.ref v0, .int v1, .int v2, .int v3, .int s.1, .int s.2, Value.null, Value.null] [] h (oI r) h9) (hx : ∀ z : (Int32 × Hp), x = .inr (z) → z = (r, h9)) : J (d + 2) YX12_changed 64 [.ref v0, .int v1, .int v2, .int v3, .int v4, .int v5, .int v6, .int v7] [] h (oI r) h9 := by
  unfold MX12_changed_64 at H
  refine it_J (G := (fun q : Int32 × Int32 => J (d + 2) YX12_changed 64 [.ref v0, .int v1, .int v2, .int v3, .int v4, .int v5, .int q.1, .int q.2] [] h (oI r) h9)) (Q := (fun y : ((Int32 × Int32) ⊕ (Int32 × Hp)) => (∀ s : Int32 × Int32, y = .inl s → J (d + 2) YX12_changed 47 [.ref v0, .int v1, .int v2, .int v3, .int s.1, .int s.2, Value.null, Value.null] [] h (oI r) h9) ∧ (∀ z : (Int32 × Hp), y = .inr (z) → z = (r, h9)))) (fun q x Hq hm => ?_) H ⟨hb0, hx⟩
  exact bX12_changed_64 Hq (fun s hs => by subst hs; exact hm) (fun s hs => by subst hs; exact (hm.1) s rfl) (fun z hz => by subst hz; exact (hm.2) z rfl)
noncomputable def BX12_changed_47 (h : Hp) (v0 : Nat) (v1 : Int32) (v2 : Int32) (v3 : Int32) (v4 : Int32) (v5 : Int32) : Option ((Int32 × Int32) ⊕ (Int32 × Hp)) :=
  gg (β := ((Int32 × Int32) ⊕ (Int32 × Hp))) (kd h v0 = 11) <|
  Option.bind (α := Int32) (β := ((Int32 × Int32) ⊕ (Int32 × Hp))) (MX12_slugsOn h v0 v1 v3) fun (t14 : Int32) =>
  if t14 ≤ v5 then
    some (.inr ((v4, h)))
  else
    MX12_changed_64 h v0 v1 v2 v3 v4 v5 (0 : Int32) (0 : Int32)
set_option maxRecDepth 100000 in
set_option maxHeartbeats 8000000 in
theorem bX12_changed_47 {d : Nat} {h : Hp} {v0 : Nat} {v1 : Int32} {v2 : Int32} {v3 : Int32} {v4 : Int32} {v5 : Int32} {r : Int32} {h9 : Hp} {x : ((Int32 × Int32) ⊕ (Int32 × Hp))} (H : BX12_changed_47 h v0 v1 v2 v3 v4 v5 = some x) (hb0 : ∀ s : Int32 × Int32, x = .inl s → J (d + 2) YX12_changed 47 [.ref v0, .int v1, .int v2, .int v3, .int s.1, .int s.2, Value.null, Value.null] [] h (oI r) h9) (hx : ∀ z : (Int32 × Hp), x = .inr (z) → z = (r, h9)) : J (d + 2) YX12_changed 47 [.ref v0, .int v1, .int v2, .int v3, .int v4, .int v5, Value.null, Value.null] [] h (oI r) h9 := by
  unfold BX12_changed_47 at H
  refine J_iload dX12_changed_47 rfl ?_
  refine J_aload_n 0 dX12_changed_49 rfl rfl ?_
  refine J_iload_n 1 dX12_changed_50 rfl rfl ?_
  refine J_iload_n 3 dX12_changed_51 rfl rfl ?_
  obtain ⟨g13, H⟩ := gd H
  obtain ⟨t14, e12, H⟩ := bd H
  refine J_cV (as := [.int v1, .int v3]) 11 YX12_slugsOn 2 dX12_changed_52 moX12_slugsOn mvX12_slugsOn mlX12_449 g13 rfl rfl (okX12_slugsOn (d := d) e12) rfl rfl [.int v5] rfl rfl (st2 := [.int t14, .int v5]) rfl ?_
  refine J_icmp_ge 133 dX12_changed_55 rfl (fun q15 => ?_) (fun q15 => ?_)
  · replace H := br1 q15 H
    refine J_iload dX12_changed_133 rfl ?_
    cases H
    cases hx _ rfl
    exact J_iretI dX12_changed_135 rfl
  · replace H := br0 q15 H
    refine J_iconst (0 : Int32) dX12_changed_58 kc_0 ?_
    refine J_istore dX12_changed_59 (by decide) (ls' := [.ref v0, .int v1, .int v2, .int v3, .int v4, .int v5, .int (0 : Int32), Value.null]) rfl ?_
    refine J_iconst (0 : Int32) dX12_changed_61 kc_0 ?_
    refine J_istore dX12_changed_62 (by decide) (ls' := [.ref v0, .int v1, .int v2, .int v3, .int v4, .int v5, .int (0 : Int32), .int (0 : Int32)]) rfl ?_
    exact J_dr (kX12_changed_64 H hb0 hx) ⟨rfl, ⟨rfl, ⟨rfl, ⟨rfl, ⟨rfl, ⟨rfl, ⟨rfl, ⟨rfl, trivial⟩⟩⟩⟩⟩⟩⟩⟩
noncomputable def MX12_changed_47 (h : Hp) (v0 : Nat) (v1 : Int32) (v2 : Int32) (v3 : Int32) (v4 : Int32) (v5 : Int32) : Option (Int32 × Hp) := it (fun q : Int32 × Int32 => BX12_changed_47 h v0 v1 v2 v3 q.1 q.2) (v4, v5)
set_option maxRecDepth 100000 in
set_option maxHeartbeats 8000000 in
theorem kX12_changed_47 {d : Nat} {h : Hp} {v0 : Nat} {v1 : Int32} {v2 : Int32} {v3 : Int32} {v4 : Int32} {v5 : Int32} {r : Int32} {h9 : Hp} (H : MX12_changed_47 h v0 v1 v2 v3 v4 v5 = some (r, h9)) : J (d + 2) YX12_changed 47 [.ref v0, .int v1, .int v2, .int v3, .int v4, .int v5, Value.null, Value.null] [] h (oI r) h9 := by
  unfold MX12_changed_47 at H
  refine it_J (G := (fun q : Int32 × Int32 => J (d + 2) YX12_changed 47 [.ref v0, .int v1, .int v2, .int v3, .int q.1, .int q.2, Value.null, Value.null] [] h (oI r) h9)) (Q := (fun y : (Int32 × Hp) => y = (r, h9))) (fun q x Hq hm => ?_) H rfl
  exact bX12_changed_47 Hq (fun s hs => by subst hs; exact hm) (fun z hz => by subst hz; exact hm)
noncomputable def MX12_changed_29 (h : Hp) (v0 : Nat) (v1 : Int32) (v2 : Int32) (v3 : Int32) (s0 : Nat) (s1 : Int32) : Option (Int32 × Hp) :=
  gg (β := (Int32 × Hp)) (kd h s0 = 11) <|
  lt (α := Hp) (β := Option (Int32 × Hp)) (sI h s0 0 s1) fun (h5 : Hp) =>
  gg (β := (Int32 × Hp)) (kd h v0 = 11) <|
  if (gI h5 v0 0) ≤ 0 then
    MX12_changed_47 h5 v0 v1 v2 v3 (0 : Int32) (0 : Int32)
  else
    some ((0 : Int32), h5)
set_option maxRecDepth 100000 in
set_option maxHeartbeats 8000000 in
theorem kX12_changed_29 {d : Nat} {h : Hp} {v0 : Nat} {v1 : Int32} {v2 : Int32} {v3 : Int32} {s0 : Nat} {s1 : Int32} {r : Int32} {h9 : Hp} (H : MX12_changed_29 h v0 v1 v2 v3 s0 s1 = some (r, h9)) : J (d + 2) YX12_changed 29 [.ref v0, .int v1, .int v2, .int v3, Value.null, Value.null, Value.null, Value.null] [.int s1, .ref s0] h (oI r) h9 := by
  unfold MX12_changed_29 at H
  obtain ⟨g4, H⟩ := gd H
  obtain ⟨h5, e6, H⟩ := lt_el H
  refine J_pI 11 0 dX12_changed_29 g4 flX12_122 rfl rfl e6 ?_
  have c7 := ekI e6
  have c8 := elI e6
  have c9 := epI e6
  refine J_aload_n 0 dX12_changed_32 rfl rfl ?_
  obtain ⟨g10, H⟩ := gd H
  refine J_getI 11 0 dX12_changed_33 (kq c7 g10) flX12_122 rfl ?_
  refine J_if_le 41 dX12_changed_36 rfl (fun q11 => ?_) (fun q11 => ?_)
  · replace H := br1 q11 H
    refine J_iconst (0 : Int32) dX12_changed_41 kc_0 ?_
    refine J_istore dX12_changed_42 (by decide) (ls' := [.ref v0, .int v1, .int v2, .int v3, .int (0 : Int32), Value.null, Value.null, Value.null]) rfl ?_
    refine J_iconst (0 : Int32) dX12_changed_44 kc_0 ?_
    refine J_istore dX12_changed_45 (by decide) (ls' := [.ref v0, .int v1, .int v2, .int v3, .int (0 : Int32), .int (0 : Int32), Value.null, Value.null]) rfl ?_
    exact J_dr (kX12_changed_47 H ) ⟨rfl, ⟨rfl, ⟨rfl, ⟨rfl, ⟨rfl, ⟨rfl, trivial⟩⟩⟩⟩⟩⟩
  · replace H := br0 q11 H
    refine J_iconst (0 : Int32) dX12_changed_39 kc_0 ?_
    cases H
    exact J_iretI dX12_changed_40 rfl
noncomputable def MX12_changed_24 (h : Hp) (v0 : Nat) (v1 : Int32) (v2 : Int32) (v3 : Int32) (s0 : Nat) : Option (Int32 × Hp) :=
  MX12_changed_29 h v0 v1 v2 v3 s0 (1 : Int32)
set_option maxRecDepth 100000 in
set_option maxHeartbeats 8000000 in
theorem kX12_changed_24 {d : Nat} {h : Hp} {v0 : Nat} {v1 : Int32} {v2 : Int32} {v3 : Int32} {s0 : Nat} {r : Int32} {h9 : Hp} (H : MX12_changed_24 h v0 v1 v2 v3 s0 = some (r, h9)) : J (d + 2) YX12_changed 24 [.ref v0, .int v1, .int v2, .int v3, Value.null, Value.null, Value.null, Value.null] [.ref s0] h (oI r) h9 := by
  unfold MX12_changed_24 at H
  refine J_iconst (1 : Int32) dX12_changed_24 kc_1 ?_
  refine J_goto 29 dX12_changed_25 rfl ?_
  exact J_dr (kX12_changed_29 H ) ⟨rfl, ⟨rfl, ⟨rfl, ⟨rfl, trivial⟩⟩⟩⟩
noncomputable def MX12_changed (h : Hp) (v0 : Nat) (v1 : Int32) (v2 : Int32) (v3 : Int32) : Option (Int32 × Hp) :=
  Option.bind (α := Int32) (β := (Int32 × Hp)) (MX12_isPage h v1) fun (t2 : Int32) =>
  if t2 = 0 then
    MX12_changed_24 h v0 v1 v2 v3 v0
  else
    gg (β := (Int32 × Hp)) (kd h v0 = 11) <|
    Option.bind (α := Int32) (β := (Int32 × Hp)) (MX12_isEdition h v0 v2) fun (t29 : Int32) =>
    if t29 = 0 then
      MX12_changed_24 h v0 v1 v2 v3 v0
    else
      Option.bind (α := Int32) (β := (Int32 × Hp)) (MX12_isEdition h v0 v3) fun (t32 : Int32) =>
      if t32 = 0 then
        MX12_changed_24 h v0 v1 v2 v3 v0
      else
        MX12_changed_29 h v0 v1 v2 v3 v0 (0 : Int32)
set_option maxRecDepth 100000 in
set_option maxHeartbeats 8000000 in
theorem eX12_changed {d : Nat} {h : Hp} {v0 : Nat} {v1 : Int32} {v2 : Int32} {v3 : Int32} {r : Int32} {h9 : Hp} (H : MX12_changed h v0 v1 v2 v3 = some (r, h9)) : J (d + 2) YX12_changed 0 [.ref v0, .int v1, .int v2, .int v3, Value.null, Value.null, Value.null, Value.null] [] h (oI r) h9 := by
  unfold MX12_changed at H
  refine J_aload_n 0 dX12_changed_0 rfl rfl ?_
  refine J_iload_n 1 dX12_changed_1 rfl rfl ?_
  obtain ⟨t2, e1, H⟩ := bd H
  refine J_cS (as := [.int v1]) YX12_isPage 1 dX12_changed_2 moX12_isPage msX12_isPage mlX12_418 (okX12_isPage (d := d + 1) e1) rfl rfl [.ref v0] rfl rfl (st2 := [.int t2, .ref v0]) rfl ?_
  refine J_if_eq 24 dX12_changed_5 rfl (fun q3 => ?_) (fun q3 => ?_)
  · replace H := br1 q3 H
    exact J_dr (kX12_changed_24 H ) ⟨rfl, ⟨rfl, ⟨rfl, ⟨rfl, trivial⟩⟩⟩⟩
  · replace H := br0 q3 H
    refine J_aload_n 0 dX12_changed_8 rfl rfl ?_
    refine J_iload_n 2 dX12_changed_9 rfl rfl ?_
    obtain ⟨g28, H⟩ := gd H
    obtain ⟨t29, e27, H⟩ := bd H
    refine J_cV (as := [.int v2]) 11 YX12_isEdition 1 dX12_changed_10 moX12_isEdition mvX12_isEdition mlX12_446 g28 rfl rfl (okX12_isEdition (d := d) e27) rfl rfl [.ref v0] rfl rfl (st2 := [.int t29, .ref v0]) rfl ?_
    refine J_if_eq 24 dX12_changed_13 rfl (fun q30 => ?_) (fun q30 => ?_)
    · replace H := br1 q30 H
      exact J_dr (kX12_changed_24 H ) ⟨rfl, ⟨rfl, ⟨rfl, ⟨rfl, trivial⟩⟩⟩⟩
    · replace H := br0 q30 H
      refine J_aload_n 0 dX12_changed_16 rfl rfl ?_
      refine J_iload_n 3 dX12_changed_17 rfl rfl ?_
      obtain ⟨t32, e31, H⟩ := bd H
      refine J_cV (as := [.int v3]) 11 YX12_isEdition 1 dX12_changed_18 moX12_isEdition mvX12_isEdition mlX12_446 g28 rfl rfl (okX12_isEdition (d := d) e31) rfl rfl [.ref v0] rfl rfl (st2 := [.int t32, .ref v0]) rfl ?_
      refine J_if_ne 28 dX12_changed_21 rfl (fun q33 => ?_) (fun q33 => ?_)
      · replace H := br0 q33 H
        refine J_iconst (0 : Int32) dX12_changed_28 kc_0 ?_
        exact J_dr (kX12_changed_29 H ) ⟨rfl, ⟨rfl, ⟨rfl, ⟨rfl, trivial⟩⟩⟩⟩
      · replace H := br1 q33 H
        exact J_dr (kX12_changed_24 H ) ⟨rfl, ⟨rfl, ⟨rfl, ⟨rfl, trivial⟩⟩⟩⟩
theorem okX12_changed {d : Nat} {h : Hp} {v0 : Nat} {v1 : Int32} {v2 : Int32} {v3 : Int32} {r : Int32} {h9 : Hp} (H : MX12_changed h v0 v1 v2 v3 = some (r, h9)) : CT (d + 2) YX12_changed [.ref v0, .int v1, .int v2, .int v3] h (oI r) h9 := CT_of (by decide +kernel) (Nat.le_of_ble_eq_true rfl) (eX12_changed H)
