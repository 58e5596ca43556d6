noncomputable def MX12_least_153 (h : Hp) (v0 : Nat) : Option (Int32 × Hp) :=
  gg (β := (Int32 × Hp)) (kd h v0 = 11) <|
  lt (α := Hp) (β := Option (Int32 × Hp)) (sI h v0 57 (-1 : Int32)) fun (h18 : Hp) =>
  Option.bind (α := Hp) (β := (Int32 × Hp)) (MX12_place 30 h18 v0 (0 : Int32) (0 : Int32) (0 : Int32)) fun (h24 : Hp) =>
  gg (β := (Int32 × Hp)) (kd h24 v0 = 11) <|
  some ((gI h24 v0 57), h24)
set_option maxRecDepth 100000 in
set_option maxHeartbeats 8000000 in
theorem kX12_least_153 {d : Nat} {h : Hp} {v0 : Nat} {r : Int32} {h9 : Hp} (H : MX12_least_153 h v0 = some (r, h9)) : J (d + 31) YX12_least 153 [.ref v0, Value.null] [] h (oI r) h9 := by
  unfold MX12_least_153 at H
  refine J_aload_n 0 dX12_least_153 rfl rfl ?_
  refine J_iconst (-1 : Int32) dX12_least_154 kc_m1 ?_
  obtain ⟨g17, H⟩ := gd H
  obtain ⟨h18, e19, H⟩ := lt_el H
  refine J_pI 11 57 dX12_least_155 g17 flX12_461 rfl rfl e19 ?_
  have c20 := ekI e19
  have c21 := elI e19
  have c22 := epI e19
  refine J_aload_n 0 dX12_least_158 rfl rfl ?_
  refine J_iconst (0 : Int32) dX12_least_159 kc_0 ?_
  refine J_iconst (0 : Int32) dX12_least_160 kc_0 ?_
  refine J_iconst (0 : Int32) dX12_least_161 kc_0 ?_
  obtain ⟨h24, e23, H⟩ := bd H
  refine J_cV (as := [.int (0 : Int32), .int (0 : Int32), .int (0 : Int32)]) 11 YX12_place 3 dX12_least_162 moX12_place mvX12_place mlX12_464 (kq c20 g17) rfl rfl (okX12_place (d := d) e23) rfl rfl [] rfl rfl (st2 := []) rfl ?_
  refine J_aload_n 0 dX12_least_165 rfl rfl ?_
  obtain ⟨g25, H⟩ := gd H
  refine J_getI 11 57 dX12_least_166 g25 flX12_461 rfl ?_
  cases H
  exact J_iretI dX12_least_169 rfl
noncomputable def BX12_least_119 (h : Hp) (v0 : Nat) (v1 : Int32) : Option ((Int32 × Hp) ⊕ (Int32 × Hp)) :=
  gg (β := ((Int32 × Hp) ⊕ (Int32 × Hp))) (kd h v0 = 11) <|
  gg (β := ((Int32 × Hp) ⊕ (Int32 × Hp))) (kd h (gP h v0 1) = 20) <|
  gg (β := ((Int32 × Hp) ⊕ (Int32 × Hp))) (inB (3 : Int32) (ln h (gP h v0 1)) = true) <|
  if (gI h (gP h v0 1) (3 : Int32).toNatClampNeg) ≤ v1 then
    up1 (MX12_least_153 h v0)
  else
    gg (β := ((Int32 × Hp) ⊕ (Int32 × Hp))) (inB (0 : Int32) (ln h (gP h v0 1)) = true) <|
    b2 (α := Int32) (β := Hp) (γ := ((Int32 × Hp) ⊕ (Int32 × Hp))) (MX12_queueLines h v0 v1) fun (t29 : Int32) (h28 : Hp) =>
    gg (β := ((Int32 × Hp) ⊕ (Int32 × Hp))) (kd h28 (gP h v0 55) = 20) <|
    gg (β := ((Int32 × Hp) ⊕ (Int32 × Hp))) (inB v1 (ln h28 (gP h v0 55)) = true) <|
    lt (α := Hp) (β := Option ((Int32 × Hp) ⊕ (Int32 × Hp))) (sI h28 (gP h v0 55) v1.toNatClampNeg ((gI h (gP h v0 1) (0 : Int32).toNatClampNeg) + t29)) fun (h32 : Hp) =>
    some (.inl ((v1 + (1 : Int32)), h32))
set_option maxRecDepth 100000 in
set_option maxHeartbeats 8000000 in
theorem bX12_least_119 {d : Nat} {h : Hp} {v0 : Nat} {v1 : Int32} {r : Int32} {h9 : Hp} {x : ((Int32 × Hp) ⊕ (Int32 × Hp))} (H : BX12_least_119 h v0 v1 = some x) (hb0 : ∀ s : Int32 × Hp, x = .inl s → J (d + 31) YX12_least 119 [.ref v0, .int s.1] [] s.2 (oI r) h9) (hx : ∀ z : (Int32 × Hp), x = .inr (z) → z = (r, h9)) : J (d + 31) YX12_least 119 [.ref v0, .int v1] [] h (oI r) h9 := by
  unfold BX12_least_119 at H
  refine J_iload_n 1 dX12_least_119 rfl rfl ?_
  refine J_aload_n 0 dX12_least_120 rfl rfl ?_
  obtain ⟨g13, H⟩ := gd H
  refine J_gP 11 1 dX12_least_121 g13 flX12_8 rfl rfl ?_
  refine J_iconst (3 : Int32) dX12_least_124 kc_3 ?_
  obtain ⟨g14, H⟩ := gd H
  obtain ⟨g15, H⟩ := gd H
  refine J_iald dX12_least_125 g14 (inB_ok g15) ?_
  refine J_icmp_ge 153 dX12_least_126 rfl (fun q16 => ?_) (fun q16 => ?_)
  · replace H := br1 q16 H
    obtain ⟨y0, H90, rfl⟩ := up1_el H
    replace H := H90
    obtain rfl := hx _ rfl
    exact J_dr (kX12_least_153 H ) ⟨rfl, trivial⟩
  · replace H := br0 q16 H
    refine J_aload_n 0 dX12_least_129 rfl rfl ?_
    refine J_gP 11 55 dX12_least_130 g13 flX12_118 rfl rfl ?_
    refine J_iload_n 1 dX12_least_133 rfl rfl ?_
    refine J_aload_n 0 dX12_least_134 rfl rfl ?_
    refine J_gP 11 1 dX12_least_135 g13 flX12_8 rfl rfl ?_
    refine J_iconst (0 : Int32) dX12_least_138 kc_0 ?_
    obtain ⟨g26, H⟩ := gd H
    refine J_iald dX12_least_139 g14 (inB_ok g26) ?_
    refine J_aload_n 0 dX12_least_140 rfl rfl ?_
    refine J_iload_n 1 dX12_least_141 rfl rfl ?_
    obtain ⟨t29, h28, e27, H⟩ := b2_el H
    refine J_cV (as := [.int v1]) 11 YX12_queueLines 1 dX12_least_142 moX12_queueLines mvX12_queueLines mlX12_458 g13 rfl rfl (okX12_queueLines (d := d + 25) e27) rfl rfl [.int (gI h (gP h v0 1) (0 : Int32).toNatClampNeg), .int v1, .ref (gP h v0 55)] rfl rfl (st2 := [.int t29, .int (gI h (gP h v0 1) (0 : Int32).toNatClampNeg), .int v1, .ref (gP h v0 55)]) rfl ?_
    refine J_iadd dX12_least_145 ?_
    obtain ⟨g30, H⟩ := gd H
    obtain ⟨g31, H⟩ := gd H
    obtain ⟨h32, e33, H⟩ := lt_el H
    refine J_sI dX12_least_146 g30 (inB_ok g31) e33 ?_
    have c34 := ekI e33
    have c35 := elI e33
    have c36 := epI e33
    refine J_iinc (v1 + (1 : Int32)) dX12_least_147 rfl (congrArg (HAdd.hAdd v1) kc_1) (by decide) (ls' := [.ref v0, .int (v1 + (1 : Int32))]) rfl ?_
    refine J_goto 119 dX12_least_150 rfl ?_
    cases H
    exact J_dr (hb0 _ rfl) ⟨rfl, ⟨rfl, trivial⟩⟩
noncomputable def MX12_least_119 (h : Hp) (v0 : Nat) (v1 : Int32) : Option (Int32 × Hp) := it (fun q : Int32 × Hp => BX12_least_119 q.2 v0 q.1) (v1, h)
set_option maxRecDepth 100000 in
set_option maxHeartbeats 8000000 in
theorem kX12_least_119 {d : Nat} {h : Hp} {v0 : Nat} {v1 : Int32} {r : Int32} {h9 : Hp} (H : MX12_least_119 h v0 v1 = some (r, h9)) : J (d + 31) YX12_least 119 [.ref v0, .int v1] [] h (oI r) h9 := by
  unfold MX12_least_119 at H
  refine it_J (G := (fun q : Int32 × Hp => J (d + 31) YX12_least 119 [.ref v0, .int q.1] [] q.2 (oI r) h9)) (Q := (fun y : (Int32 × Hp) => y = (r, h9))) (fun q x Hq hm => ?_) H rfl
  exact bX12_least_119 Hq (fun s hs => by subst hs; exact hm) (fun z hz => by subst hz; exact hm)
noncomputable def MX12_least_117 (h : Hp) (v0 : Nat) : Option (Int32 × Hp) :=
  MX12_least_119 h v0 (0 : Int32)
set_option maxRecDepth 100000 in
set_option maxHeartbeats 8000000 in
theorem kX12_least_117 {d : Nat} {h : Hp} {v0 : Nat} {r : Int32} {h9 : Hp} (H : MX12_least_117 h v0 = some (r, h9)) : J (d + 31) YX12_least 117 [.ref v0, Value.null] [] h (oI r) h9 := by
  unfold MX12_least_117 at H
  refine J_iconst (0 : Int32) dX12_least_117 kc_0 ?_
  refine J_istore_n 1 dX12_least_118 rfl (by decide) (ls' := [.ref v0, .int (0 : Int32)]) rfl ?_
  exact J_dr (kX12_least_119 H ) ⟨rfl, ⟨rfl, trivial⟩⟩
noncomputable def BX12_least_12 (h : Hp) (v0 : Nat) (v1 : Int32) : Option ((Int32 × Hp) ⊕ (Int32 × Hp)) :=
  if (100 : Int32) ≤ v1 then
    up1 (MX12_least_117 h v0)
  else
    gg (β := ((Int32 × Hp) ⊕ (Int32 × Hp))) (kd h v0 = 11) <|
    if (5 : Int32) ≤ (gI h v0 56) then
      up1 (MX12_least_117 h v0)
    else
      Option.bind (α := Int32) (β := ((Int32 × Hp) ⊕ (Int32 × Hp))) (MX12_isPart h v0 v1) fun (t40 : Int32) =>
      if t40 = 0 then
        some (.inl ((v1 + (1 : Int32)), h))
      else
        Option.bind (α := Int32) (β := ((Int32 × Hp) ⊕ (Int32 × Hp))) (MX12_part0 h v1) fun (t43 : Int32) =>
        gg (β := ((Int32 × Hp) ⊕ (Int32 × Hp))) (kd h (gP h v0 1) = 20) <|
        gg (β := ((Int32 × Hp) ⊕ (Int32 × Hp))) (inB (t43 + (2 : Int32)) (ln h (gP h v0 1)) = true) <|
        if (gI h (gP h v0 1) (t43 + (2 : Int32)).toNatClampNeg) = (1 : Int32) then
          some (.inl ((v1 + (1 : Int32)), h))
        else
          gg (β := ((Int32 × Hp) ⊕ (Int32 × Hp))) (inB (0 : Int32) (ln h (gP h v0 1)) = true) <|
          Option.bind (α := Hp) (β := ((Int32 × Hp) ⊕ (Int32 × Hp))) (MX12_work h v0 v1 (gI h (gP h v0 1) (0 : Int32).toNatClampNeg)) fun (h49 : Hp) =>
          gg (β := ((Int32 × Hp) ⊕ (Int32 × Hp))) (kd h49 v0 = 11) <|
          gg (β := ((Int32 × Hp) ⊕ (Int32 × Hp))) (kd h49 (gP h49 v0 31) = 20) <|
          gg (β := ((Int32 × Hp) ⊕ (Int32 × Hp))) (inB (0 : Int32) (ln h49 (gP h49 v0 31)) = true) <|
          if (gI h49 (gP h49 v0 31) (0 : Int32).toNatClampNeg) = (-1 : Int32) then
            some (.inl ((v1 + (1 : Int32)), h49))
          else
            gg (β := ((Int32 × Hp) ⊕ (Int32 × Hp))) (kd h49 (gP h49 v0 53) = 20) <|
            gg (β := ((Int32 × Hp) ⊕ (Int32 × Hp))) (inB (gI h49 v0 56) (ln h49 (gP h49 v0 53)) = true) <|
            lt (α := Hp) (β := Option ((Int32 × Hp) ⊕ (Int32 × Hp))) (sI h49 (gP h49 v0 53) (gI h49 v0 56).toNatClampNeg v1) fun (h56 : Hp) =>
            gg (β := ((Int32 × Hp) ⊕ (Int32 × Hp))) (kd h49 (gP h49 v0 32) = 20) <|
            gg (β := ((Int32 × Hp) ⊕ (Int32 × Hp))) (inB (0 : Int32) (ln h49 (gP h49 v0 32)) = true) <|
            gg (β := ((Int32 × Hp) ⊕ (Int32 × Hp))) (kd h49 (gP h49 v0 54) = 20) <|
            gg (β := ((Int32 × Hp) ⊕ (Int32 × Hp))) (inB (gI h56 v0 56) (ln h49 (gP h49 v0 54)) = true) <|
            lt (α := Hp) (β := Option ((Int32 × Hp) ⊕ (Int32 × Hp))) (sI h56 (gP h49 v0 54) (gI h56 v0 56).toNatClampNeg (gI h56 (gP h49 v0 32) (0 : Int32).toNatClampNeg)) fun (h65 : Hp) =>
            lt (α := Hp) (β := Option ((Int32 × Hp) ⊕ (Int32 × Hp))) (sI h65 v0 56 ((gI h65 v0 56) + (1 : Int32))) fun (h70 : Hp) =>
            some (.inl ((v1 + (1 : Int32)), h70))
set_option maxRecDepth 100000 in
set_option maxHeartbeats 8000000 in
theorem bX12_least_12 {d : Nat} {h : Hp} {v0 : Nat} {v1 : Int32} {r : Int32} {h9 : Hp} {x : ((Int32 × Hp) ⊕ (Int32 × Hp))} (H : BX12_least_12 h v0 v1 = some x) (hb0 : ∀ s : Int32 × Hp, x = .inl s → J (d + 31) YX12_least 12 [.ref v0, .int s.1] [] s.2 (oI r) h9) (hx : ∀ z : (Int32 × Hp), x = .inr (z) → z = (r, h9)) : J (d + 31) YX12_least 12 [.ref v0, .int v1] [] h (oI r) h9 := by
  unfold BX12_least_12 at H
  refine J_iload_n 1 dX12_least_12 rfl rfl ?_
  refine J_bipush (100 : Int32) dX12_least_13 kb_100 ?_
  refine J_icmp_ge 117 dX12_least_15 rfl (fun q12 => ?_) (fun q12 => ?_)
  · replace H := br1 q12 H
    obtain ⟨y0, H90, rfl⟩ := up1_el H
    replace H := H90
    obtain rfl := hx _ rfl
    exact J_dr (kX12_least_117 H ) ⟨rfl, trivial⟩
  · replace H := br0 q12 H
    refine J_aload_n 0 dX12_least_18 rfl rfl ?_
    obtain ⟨g37, H⟩ := gd H
    refine J_getI 11 56 dX12_least_19 g37 flX12_455 rfl ?_
    refine J_iconst (5 : Int32) dX12_least_22 kc_5 ?_
    refine J_icmp_ge 117 dX12_least_23 rfl (fun q38 => ?_) (fun q38 => ?_)
    · replace H := br1 q38 H
      obtain ⟨y0, H90, rfl⟩ := up1_el H
      replace H := H90
      obtain rfl := hx _ rfl
      exact J_dr (kX12_least_117 H ) ⟨rfl, trivial⟩
    · replace H := br0 q38 H
      refine J_aload_n 0 dX12_least_26 rfl rfl ?_
      refine J_iload_n 1 dX12_least_27 rfl rfl ?_
      obtain ⟨t40, e39, H⟩ := bd H
      refine J_cV (as := [.int v1]) 11 YX12_isPart 1 dX12_least_28 moX12_isPart mvX12_isPart mlX12_311 g37 rfl rfl (okX12_isPart (d := d + 30) e39) rfl rfl [] rfl rfl (st2 := [.int t40]) rfl ?_
      refine J_if_eq 111 dX12_least_31 rfl (fun q41 => ?_) (fun q41 => ?_)
      · replace H := br1 q41 H
        refine J_iinc (v1 + (1 : Int32)) dX12_least_111 rfl (congrArg (HAdd.hAdd v1) kc_1) (by decide) (ls' := [.ref v0, .int (v1 + (1 : Int32))]) rfl ?_
        refine J_goto 12 dX12_least_114 rfl ?_
        cases H
        exact J_dr (hb0 _ rfl) ⟨rfl, ⟨rfl, trivial⟩⟩
      · replace H := br0 q41 H
        refine J_aload_n 0 dX12_least_34 rfl rfl ?_
        refine J_gP 11 1 dX12_least_35 g37 flX12_8 rfl rfl ?_
        refine J_iload_n 1 dX12_least_38 rfl rfl ?_
        obtain ⟨t43, e42, H⟩ := bd H
        refine J_cS (as := [.int v1]) YX12_part0 1 dX12_least_39 moX12_part0 msX12_part0 mlX12_164 (okX12_part0 (d := d + 30) e42) rfl rfl [.ref (gP h v0 1)] rfl rfl (st2 := [.int t43, .ref (gP h v0 1)]) rfl ?_
        refine J_iconst (2 : Int32) dX12_least_42 kc_2 ?_
        refine J_iadd dX12_least_43 ?_
        obtain ⟨g44, H⟩ := gd H
        obtain ⟨g45, H⟩ := gd H
        refine J_iald dX12_least_44 g44 (inB_ok g45) ?_
        refine J_iconst (1 : Int32) dX12_least_45 kc_1 ?_
        refine J_icmp_ne 52 dX12_least_46 rfl (fun q46 => ?_) (fun q46 => ?_)
        · replace H := br0 q46 H
          refine J_aload_n 0 dX12_least_52 rfl rfl ?_
          refine J_iload_n 1 dX12_least_53 rfl rfl ?_
          refine J_aload_n 0 dX12_least_54 rfl rfl ?_
          refine J_gP 11 1 dX12_least_55 g37 flX12_8 rfl rfl ?_
          refine J_iconst (0 : Int32) dX12_least_58 kc_0 ?_
          obtain ⟨g47, H⟩ := gd H
          refine J_iald dX12_least_59 g44 (inB_ok g47) ?_
          obtain ⟨h49, e48, H⟩ := bd H
          refine J_cV (as := [.int v1, .int (gI h (gP h v0 1) (0 : Int32).toNatClampNeg)]) 11 YX12_work 2 dX12_least_60 moX12_work mvX12_work mlX12_345 g37 rfl rfl (okX12_work (d := d + 26) e48) rfl rfl [] rfl rfl (st2 := []) rfl ?_
          refine J_aload_n 0 dX12_least_63 rfl rfl ?_
          obtain ⟨g50, H⟩ := gd H
          refine J_gP 11 31 dX12_least_64 g50 flX12_55 rfl rfl ?_
          refine J_iconst (0 : Int32) dX12_least_67 kc_0 ?_
          obtain ⟨g51, H⟩ := gd H
          obtain ⟨g52, H⟩ := gd H
          refine J_iald dX12_least_68 g51 (inB_ok g52) ?_
          refine J_iconst (-1 : Int32) dX12_least_69 kc_m1 ?_
          refine J_icmp_ne 76 dX12_least_70 rfl (fun q53 => ?_) (fun q53 => ?_)
          · replace H := br0 q53 H
            refine J_aload_n 0 dX12_least_76 rfl rfl ?_
            refine J_gP 11 53 dX12_least_77 g50 flX12_112 rfl rfl ?_
            refine J_aload_n 0 dX12_least_80 rfl rfl ?_
            refine J_getI 11 56 dX12_least_81 g50 flX12_455 rfl ?_
            refine J_iload_n 1 dX12_least_84 rfl rfl ?_
            obtain ⟨g54, H⟩ := gd H
            obtain ⟨g55, H⟩ := gd H
            obtain ⟨h56, e57, H⟩ := lt_el H
            refine J_sI dX12_least_85 g54 (inB_ok g55) e57 ?_
            have c58 := ekI e57
            have c59 := elI e57
            have c60 := epI e57
            refine J_aload_n 0 dX12_least_86 rfl rfl ?_
            refine J_gP 11 54 dX12_least_87 (kq c58 g50) flX12_115 rfl (congrFun (congrFun c60 v0) 54) ?_
            refine J_aload_n 0 dX12_least_90 rfl rfl ?_
            refine J_getI 11 56 dX12_least_91 (kq c58 g50) flX12_455 rfl ?_
            refine J_aload_n 0 dX12_least_94 rfl rfl ?_
            refine J_gP 11 32 dX12_least_95 (kq c58 g50) flX12_58 rfl (congrFun (congrFun c60 v0) 32) ?_
            refine J_iconst (0 : Int32) dX12_least_98 kc_0 ?_
            obtain ⟨g61, H⟩ := gd H
            obtain ⟨g62, H⟩ := gd H
            refine J_iald dX12_least_99 (kq c58 g61) (lq c59 g62) ?_
            obtain ⟨g63, H⟩ := gd H
            obtain ⟨g64, H⟩ := gd H
            obtain ⟨h65, e66, H⟩ := lt_el H
            refine J_sI dX12_least_100 (kq c58 g63) (lq c59 g64) e66 ?_
            have c67 := (ekI e66).trans c58
            have c68 := (elI e66).trans c59
            have c69 := (epI e66).trans c60
            refine J_aload_n 0 dX12_least_101 rfl rfl ?_
            refine J_dup dX12_least_102 rfl ?_
            refine J_getI 11 56 dX12_least_103 (kq c67 g50) flX12_455 rfl ?_
            refine J_iconst (1 : Int32) dX12_least_106 kc_1 ?_
            refine J_iadd dX12_least_107 ?_
            obtain ⟨h70, e71, H⟩ := lt_el H
            refine J_pI 11 56 dX12_least_108 (kq c67 g50) flX12_455 rfl rfl e71 ?_
            have c72 := (ekI e71).trans c67
            have c73 := (elI e71).trans c68
            have c74 := (epI e71).trans c69
            refine J_iinc (v1 + (1 : Int32)) dX12_least_111 rfl (congrArg (HAdd.hAdd v1) kc_1) (by decide) (ls' := [.ref v0, .int (v1 + (1 : Int32))]) rfl ?_
            refine J_goto 12 dX12_least_114 rfl ?_
            cases H
            exact J_dr (hb0 _ rfl) ⟨rfl, ⟨rfl, trivial⟩⟩
          · replace H := br1 q53 H
            refine J_goto 111 dX12_least_73 rfl ?_
            refine J_iinc (v1 + (1 : Int32)) dX12_least_111 rfl (congrArg (HAdd.hAdd v1) kc_1) (by decide) (ls' := [.ref v0, .int (v1 + (1 : Int32))]) rfl ?_
            refine J_goto 12 dX12_least_114 rfl ?_
            cases H
            exact J_dr (hb0 _ rfl) ⟨rfl, ⟨rfl, trivial⟩⟩
        · replace H := br1 q46 H
          refine J_goto 111 dX12_least_49 rfl ?_
          refine J_iinc (v1 + (1 : Int32)) dX12_least_111 rfl (congrArg (HAdd.hAdd v1) kc_1) (by decide) (ls' := [.ref v0, .int (v1 + (1 : Int32))]) rfl ?_
          refine J_goto 12 dX12_least_114 rfl ?_
          cases H
          exact J_dr (hb0 _ rfl) ⟨rfl, ⟨rfl, trivial⟩⟩
noncomputable def MX12_least_12 (h : Hp) (v0 : Nat) (v1 : Int32) : Option (Int32 × Hp) := it (fun q : Int32 × Hp => BX12_least_12 q.2 v0 q.1) (v1, h)
set_option maxRecDepth 100000 in
set_option maxHeartbeats 8000000 in
theorem kX12_least_12 {d : Nat} {h : Hp} {v0 : Nat} {v1 : Int32} {r : Int32} {h9 : Hp} (H : MX12_least_12 h v0 v1 = some (r, h9)) : J (d + 31) YX12_least 12 [.ref v0, .int v1] [] h (oI r) h9 := by
  unfold MX12_least_12 at H
  refine it_J (G := (fun q : Int32 × Hp => J (d + 31) YX12_least 12 [.ref v0, .int q.1] [] q.2 (oI r) h9)) (Q := (fun y : (Int32 × Hp) => y = (r, h9))) (fun q x Hq hm => ?_) H rfl
  exact bX12_least_12 Hq (fun s hs => by subst hs; exact hm) (fun z hz => by subst hz; exact hm)
noncomputable def MX12_least (h : Hp) (v0 : Nat) : Option (Int32 × Hp) :=
  gg (β := (Int32 × Hp)) (kd h v0 = 11) <|
  lt (α := Hp) (β := Option (Int32 × Hp)) (sI h v0 0 (0 : Int32)) fun (h2 : Hp) =>
  lt (α := Hp) (β := Option (Int32 × Hp)) (sI h2 v0 56 (0 : Int32)) fun (h7 : Hp) =>
  MX12_least_12 h7 v0 (0 : Int32)
set_option maxRecDepth 100000 in
set_option maxHeartbeats 8000000 in
theorem eX12_least {d : Nat} {h : Hp} {v0 : Nat} {r : Int32} {h9 : Hp} (H : MX12_least h v0 = some (r, h9)) : J (d + 31) YX12_least 0 [.ref v0, Value.null] [] h (oI r) h9 := by
  unfold MX12_least at H
  refine J_aload_n 0 dX12_least_0 rfl rfl ?_
  refine J_iconst (0 : Int32) dX12_least_1 kc_0 ?_
  obtain ⟨g1, H⟩ := gd H
  obtain ⟨h2, e3, H⟩ := lt_el H
  refine J_pI 11 0 dX12_least_2 g1 flX12_122 rfl rfl e3 ?_
  have c4 := ekI e3
  have c5 := elI e3
  have c6 := epI e3
  refine J_aload_n 0 dX12_least_5 rfl rfl ?_
  refine J_iconst (0 : Int32) dX12_least_6 kc_0 ?_
  obtain ⟨h7, e8, H⟩ := lt_el H
  refine J_pI 11 56 dX12_least_7 (kq c4 g1) flX12_455 rfl rfl e8 ?_
  have c9 := (ekI e8).trans c4
  have c10 := (elI e8).trans c5
  have c11 := (epI e8).trans c6
  refine J_iconst (0 : Int32) dX12_least_10 kc_0 ?_
  refine J_istore_n 1 dX12_least_11 rfl (by decide) (ls' := [.ref v0, .int (0 : Int32)]) rfl ?_
  exact J_dr (kX12_least_12 H ) ⟨rfl, ⟨rfl, trivial⟩⟩
theorem okX12_least {d : Nat} {h : Hp} {v0 : Nat} {r : Int32} {h9 : Hp} (H : MX12_least h v0 = some (r, h9)) : CT (d + 31) YX12_least [.ref v0] h (oI r) h9 := CT_of (by decide +kernel) (Nat.le_of_ble_eq_true rfl) (eX12_least H)
noncomputable def MX12_lies_19 (h : Hp) (v0 : Nat) (v1 : Int32) (v2 : Int32) (s0 : Nat) (s1 : Int32) : Option (Int32 × Hp) :=
  gg (β := (Int32 × Hp)) (kd h s0 = 11) <|
  lt (α := Hp) (β := Option (Int32 × Hp)) (sI h s0 0 s1) fun (h8 : Hp) =>
  gg (β := (Int32 × Hp)) (kd h v0 = 11) <|
  if (gI h8 v0 0) ≤ 0 then
    Option.bind (α := Int32) (β := (Int32 × Hp)) (MX12_part0 h8 v1) fun (t16 : Int32) =>
    gg (β := (Int32 × Hp)) (kd h (gP h v0 1) = 20) <|
    gg (β := (Int32 × Hp)) (inB ((t16 + (45 : Int32)) + v2) (ln h (gP h v0 1)) = true) <|
    some (((gI h8 (gP h v0 1) ((t16 + (45 : Int32)) + v2).toNatClampNeg) - (1 : Int32)), h8)
  else
    some ((0 : Int32), h8)
set_option maxRecDepth 100000 in
set_option maxHeartbeats 8000000 in
theorem kX12_lies_19 {d : Nat} {h : Hp} {v0 : Nat} {v1 : Int32} {v2 : Int32} {s0 : Nat} {s1 : Int32} {r : Int32} {h9 : Hp} (H : MX12_lies_19 h v0 v1 v2 s0 s1 = some (r, h9)) : J (d + 2) YX12_lies 19 [.ref v0, .int v1, .int v2] [.int s1, .ref s0] h (oI r) h9 := by
  unfold MX12_lies_19 at H
  obtain ⟨g7, H⟩ := gd H
  obtain ⟨h8, e9, H⟩ := lt_el H
  refine J_pI 11 0 dX12_lies_19 g7 flX12_122 rfl rfl e9 ?_
  have c10 := ekI e9
  have c11 := elI e9
  have c12 := epI e9
  refine J_aload_n 0 dX12_lies_22 rfl rfl ?_
  obtain ⟨g13, H⟩ := gd H
  refine J_getI 11 0 dX12_lies_23 (kq c10 g13) flX12_122 rfl ?_
  refine J_if_le 31 dX12_lies_26 rfl (fun q14 => ?_) (fun q14 => ?_)
  · replace H := br1 q14 H
    refine J_aload_n 0 dX12_lies_31 rfl rfl ?_
    refine J_gP 11 1 dX12_lies_32 (kq c10 g13) flX12_8 rfl (congrFun (congrFun c12 v0) 1) ?_
    refine J_iload_n 1 dX12_lies_35 rfl rfl ?_
    obtain ⟨t16, e15, H⟩ := bd H
    refine J_cS (as := [.int v1]) YX12_part0 1 dX12_lies_36 moX12_part0 msX12_part0 mlX12_164 (okX12_part0 (d := d + 1) e15) rfl rfl [.ref (gP h v0 1)] rfl rfl (st2 := [.int t16, .ref (gP h v0 1)]) rfl ?_
    refine J_bipush (45 : Int32) dX12_lies_39 kb_45 ?_
    refine J_iadd dX12_lies_41 ?_
    refine J_iload_n 2 dX12_lies_42 rfl rfl ?_
    refine J_iadd dX12_lies_43 ?_
    obtain ⟨g17, H⟩ := gd H
    obtain ⟨g18, H⟩ := gd H
    refine J_iald dX12_lies_44 (kq c10 g17) (lq c11 g18) ?_
    refine J_iconst (1 : Int32) dX12_lies_45 kc_1 ?_
    refine J_isub dX12_lies_46 ?_
    cases H
    exact J_iretI dX12_lies_47 rfl
  · replace H := br0 q14 H
    refine J_iconst (0 : Int32) dX12_lies_29 kc_0 ?_
    cases H
    exact J_iretI dX12_lies_30 rfl
noncomputable def MX12_lies (h : Hp) (v0 : Nat) (v1 : Int32) (v2 : Int32) : Option (Int32 × Hp) :=
  gg (β := (Int32 × Hp)) (kd h v0 = 11) <|
  Option.bind (α := Int32) (β := (Int32 × Hp)) (MX12_isPart h v0 v1) fun (t3 : Int32) =>
  if t3 = 0 then
    MX12_lies_19 h v0 v1 v2 v0 (1 : Int32)
  else
    Option.bind (α := Int32) (β := (Int32 × Hp)) (MX12_noPlace h v0 v1 v2) fun (t6 : Int32) =>
    MX12_lies_19 h v0 v1 v2 v0 t6
set_option maxRecDepth 100000 in
set_option maxHeartbeats 8000000 in
theorem eX12_lies {d : Nat} {h : Hp} {v0 : Nat} {v1 : Int32} {v2 : Int32} {r : Int32} {h9 : Hp} (H : MX12_lies h v0 v1 v2 = some (r, h9)) : J (d + 2) YX12_lies 0 [.ref v0, .int v1, .int v2] [] h (oI r) h9 := by
  unfold MX12_lies at H
  refine J_aload_n 0 dX12_lies_0 rfl rfl ?_
  refine J_aload_n 0 dX12_lies_1 rfl rfl ?_
  refine J_iload_n 1 dX12_lies_2 rfl rfl ?_
  obtain ⟨g2, H⟩ := gd H
  obtain ⟨t3, e1, H⟩ := bd H
  refine J_cV (as := [.int v1]) 11 YX12_isPart 1 dX12_lies_3 moX12_isPart mvX12_isPart mlX12_311 g2 rfl rfl (okX12_isPart (d := d + 1) e1) rfl rfl [.ref v0] rfl rfl (st2 := [.int t3, .ref v0]) rfl ?_
  refine J_if_ne 13 dX12_lies_6 rfl (fun q4 => ?_) (fun q4 => ?_)
  · replace H := br0 q4 H
    refine J_aload_n 0 dX12_lies_13 rfl rfl ?_
    refine J_iload_n 1 dX12_lies_14 rfl rfl ?_
    refine J_iload_n 2 dX12_lies_15 rfl rfl ?_
    obtain ⟨t6, e5, H⟩ := bd H
    refine J_cV (as := [.int v1, .int v2]) 11 YX12_noPlace 2 dX12_lies_16 moX12_noPlace mvX12_noPlace mlX12_402 g2 rfl rfl (okX12_noPlace (d := d) e5) rfl rfl [.ref v0] rfl rfl (st2 := [.int t6, .ref v0]) rfl ?_
    exact J_dr (kX12_lies_19 H ) ⟨rfl, ⟨rfl, ⟨rfl, trivial⟩⟩⟩
  · replace H := br1 q4 H
    refine J_iconst (1 : Int32) dX12_lies_9 kc_1 ?_
    refine J_goto 19 dX12_lies_10 rfl ?_
    exact J_dr (kX12_lies_19 H ) ⟨rfl, ⟨rfl, ⟨rfl, trivial⟩⟩⟩
theorem okX12_lies {d : Nat} {h : Hp} {v0 : Nat} {v1 : Int32} {v2 : Int32} {r : Int32} {h9 : Hp} (H : MX12_lies h v0 v1 v2 = some (r, h9)) : CT (d + 2) YX12_lies [.ref v0, .int v1, .int v2] h (oI r) h9 := CT_of (by decide +kernel) (Nat.le_of_ble_eq_true rfl) (eX12_lies H)
noncomputable def MX12_lock_455 (h : Hp) (v5 : Int32) (s0 : Nat) (s1 : Int32) (s2 : Int32) : Option (Int32 × Hp) :=
  gg (β := (Int32 × Hp)) (kd h s0 = 20) <|
  gg (β := (Int32 × Hp)) (inB s1 (ln h s0) = true) <|
  lt (α := Hp) (β := Option (Int32 × Hp)) (sI h s0 s1.toNatClampNeg s2) fun (h42 : Hp) =>
  some (v5, h42)
set_option maxRecDepth 100000 in
set_option maxHeartbeats 8000000 in
theorem kX12_lock_455 {d : Nat} {h : Hp} {v5 : Int32} {s0 : Nat} {s1 : Int32} {s2 : Int32} {r : Int32} {h9 : Hp} (H : MX12_lock_455 h v5 s0 s1 s2 = some (r, h9)) : J (d + 63) YX12_lock 455 [Value.null, Value.null, Value.null, Value.null, Value.null, .int v5, Value.null, Value.null, Value.null, Value.null, Value.null] [.int s2, .int s1, .ref s0] h (oI r) h9 := by
  unfold MX12_lock_455 at H
  obtain ⟨g40, H⟩ := gd H
  obtain ⟨g41, H⟩ := gd H
  obtain ⟨h42, e43, H⟩ := lt_el H
  refine J_sI dX12_lock_455 g40 (inB_ok g41) e43 ?_
  have c44 := ekI e43
  have c45 := elI e43
  have c46 := epI e43
  refine J_iload dX12_lock_456 rfl ?_
  cases H
  exact J_iretI dX12_lock_458 rfl
noncomputable def MX12_lock_423 (h : Hp) (v0 : Nat) (v4 : Int32) (v5 : Int32) (v7 : Int32) : Option (Int32 × Hp) :=
  gg (β := (Int32 × Hp)) (kd h v0 = 11) <|
  gg (β := (Int32 × Hp)) (kd h (gP h v0 1) = 20) <|
  gg (β := (Int32 × Hp)) (inB (0 : Int32) (ln h (gP h v0 1)) = true) <|
  if (gI h (gP h v0 1) (0 : Int32).toNatClampNeg) ≤ v7 then
    MX12_lock_455 h v5 (gP h v0 1) (v4 + (4 : Int32)) (0 : Int32)
  else
    MX12_lock_455 h v5 (gP h v0 1) (v4 + (4 : Int32)) ((gI h (gP h v0 1) (0 : Int32).toNatClampNeg) - v7)
set_option maxRecDepth 100000 in
set_option maxHeartbeats 8000000 in
theorem kX12_lock_423 {d : Nat} {h : Hp} {v0 : Nat} {v4 : Int32} {v5 : Int32} {v7 : Int32} {r : Int32} {h9 : Hp} (H : MX12_lock_423 h v0 v4 v5 v7 = some (r, h9)) : J (d + 63) YX12_lock 423 [.ref v0, Value.null, Value.null, Value.null, .int v4, .int v5, Value.null, .int v7, Value.null, Value.null, Value.null] [] h (oI r) h9 := by
  unfold MX12_lock_423 at H
  refine J_aload_n 0 dX12_lock_423 rfl rfl ?_
  obtain ⟨g36, H⟩ := gd H
  refine J_gP 11 1 dX12_lock_424 g36 flX12_8 rfl rfl ?_
  refine J_iload dX12_lock_427 rfl ?_
  refine J_iconst (4 : Int32) dX12_lock_429 kc_4 ?_
  refine J_iadd dX12_lock_430 ?_
  refine J_aload_n 0 dX12_lock_431 rfl rfl ?_
  refine J_gP 11 1 dX12_lock_432 g36 flX12_8 rfl rfl ?_
  refine J_iconst (0 : Int32) dX12_lock_435 kc_0 ?_
  obtain ⟨g37, H⟩ := gd H
  obtain ⟨g38, H⟩ := gd H
  refine J_iald dX12_lock_436 g37 (inB_ok g38) ?_
  refine J_iload dX12_lock_437 rfl ?_
  refine J_icmp_le 454 dX12_lock_439 rfl (fun q39 => ?_) (fun q39 => ?_)
  · replace H := br1 q39 H
    refine J_iconst (0 : Int32) dX12_lock_454 kc_0 ?_
    exact J_dr (kX12_lock_455 H ) ⟨rfl, trivial⟩
  · replace H := br0 q39 H
    refine J_aload_n 0 dX12_lock_442 rfl rfl ?_
    refine J_gP 11 1 dX12_lock_443 g36 flX12_8 rfl rfl ?_
    refine J_iconst (0 : Int32) dX12_lock_446 kc_0 ?_
    refine J_iald dX12_lock_447 g37 (inB_ok g38) ?_
    refine J_iload dX12_lock_448 rfl ?_
    refine J_isub dX12_lock_450 ?_
    refine J_goto 455 dX12_lock_451 rfl ?_
    exact J_dr (kX12_lock_455 H ) ⟨rfl, trivial⟩
noncomputable def BX12_lock_344 (h : Hp) (v0 : Nat) (v1 : Int32) (v4 : Int32) (v5 : Int32) (v6 : Int32) (v7 : Int32) (v8 : Int32) : Option ((Int32 × Int32) ⊕ (Int32 × Hp)) :=
  if v6 = (-1 : Int32) then
    up1 (MX12_lock_423 h v0 v4 v5 v7)
  else
    gg (β := ((Int32 × Int32) ⊕ (Int32 × Hp))) (kd h v0 = 11) <|
    gg (β := ((Int32 × Int32) ⊕ (Int32 × Hp))) (kd h (gP h v0 1) = 20) <|
    gg (β := ((Int32 × Int32) ⊕ (Int32 × Hp))) (inB (v6 + (1 : Int32)) (ln h (gP h v0 1)) = true) <|
    if (gI h (gP h v0 1) (v6 + (1 : Int32)).toNatClampNeg) ≤ v8 then
      up1 (MX12_lock_423 h v0 v4 v5 v7)
    else
      gg (β := ((Int32 × Int32) ⊕ (Int32 × Hp))) (inB ((v6 + (2 : Int32)) + ((5 : Int32) * v8)) (ln h (gP h v0 1)) = true) <|
      if (gI h (gP h v0 1) ((v6 + (2 : Int32)) + ((5 : Int32) * v8)).toNatClampNeg) = (6 : Int32) then
        gg (β := ((Int32 × Int32) ⊕ (Int32 × Hp))) (inB ((v6 + (3 : Int32)) + ((5 : Int32) * v8)) (ln h (gP h v0 1)) = true) <|
        if (gI h (gP h v0 1) ((v6 + (3 : Int32)) + ((5 : Int32) * v8)).toNatClampNeg) = v1 then
          gg (β := ((Int32 × Int32) ⊕ (Int32 × Hp))) (inB ((v6 + (4 : Int32)) + ((5 : Int32) * v8)) (ln h (gP h v0 1)) = true) <|
          lt (α := Int32) (β := Option ((Int32 × Int32) ⊕ (Int32 × Hp))) (gI h (gP h v0 1) ((v6 + (4 : Int32)) + ((5 : Int32) * v8)).toNatClampNeg) fun (w56 : Int32) =>
          some (.inl (w56, (v8 + (1 : Int32))))
        else
          some (.inl (v7, (v8 + (1 : Int32))))
      else
        some (.inl (v7, (v8 + (1 : Int32))))
set_option maxRecDepth 100000 in
set_option maxHeartbeats 8000000 in
theorem bX12_lock_344 {d : Nat} {h : Hp} {v0 : Nat} {v1 : Int32} {v4 : Int32} {v5 : Int32} {v6 : Int32} {v7 : Int32} {v8 : Int32} {r : Int32} {h9 : Hp} {x : ((Int32 × Int32) ⊕ (Int32 × Hp))} (H : BX12_lock_344 h v0 v1 v4 v5 v6 v7 v8 = some x) (hb0 : ∀ s : Int32 × Int32, x = .inl s → J (d + 63) YX12_lock 344 [.ref v0, .int v1, Value.null, Value.null, .int v4, .int v5, .int v6, .int s.1, .int s.2, Value.null, Value.null] [] h (oI r) h9) (hx : ∀ z : (Int32 × Hp), x = .inr (z) → z = (r, h9)) : J (d + 63) YX12_lock 344 [.ref v0, .int v1, Value.null, Value.null, .int v4, .int v5, .int v6, .int v7, .int v8, Value.null, Value.null] [] h (oI r) h9 := by
  unfold BX12_lock_344 at H
  refine J_iload dX12_lock_344 rfl ?_
  refine J_iconst (-1 : Int32) dX12_lock_346 kc_m1 ?_
  refine J_icmp_eq 423 dX12_lock_347 rfl (fun q35 => ?_) (fun q35 => ?_)
  · replace H := br1 q35 H
    obtain ⟨y0, H90, rfl⟩ := up1_el H
    replace H := H90
    obtain rfl := hx _ rfl
    exact J_dr (kX12_lock_423 H ) ⟨rfl, ⟨rfl, ⟨rfl, ⟨rfl, trivial⟩⟩⟩⟩
  · replace H := br0 q35 H
    refine J_iload dX12_lock_350 rfl ?_
    refine J_aload_n 0 dX12_lock_352 rfl rfl ?_
    obtain ⟨g47, H⟩ := gd H
    refine J_gP 11 1 dX12_lock_353 g47 flX12_8 rfl rfl ?_
    refine J_iload dX12_lock_356 rfl ?_
    refine J_iconst (1 : Int32) dX12_lock_358 kc_1 ?_
    refine J_iadd dX12_lock_359 ?_
    obtain ⟨g48, H⟩ := gd H
    obtain ⟨g49, H⟩ := gd H
    refine J_iald dX12_lock_360 g48 (inB_ok g49) ?_
    refine J_icmp_ge 423 dX12_lock_361 rfl (fun q50 => ?_) (fun q50 => ?_)
    · replace H := br1 q50 H
      obtain ⟨y0, H90, rfl⟩ := up1_el H
      replace H := H90
      obtain rfl := hx _ rfl
      exact J_dr (kX12_lock_423 H ) ⟨rfl, ⟨rfl, ⟨rfl, ⟨rfl, trivial⟩⟩⟩⟩
    · replace H := br0 q50 H
      refine J_aload_n 0 dX12_lock_364 rfl rfl ?_
      refine J_gP 11 1 dX12_lock_365 g47 flX12_8 rfl rfl ?_
      refine J_iload dX12_lock_368 rfl ?_
      refine J_iconst (2 : Int32) dX12_lock_370 kc_2 ?_
      refine J_iadd dX12_lock_371 ?_
      refine J_iconst (5 : Int32) dX12_lock_372 kc_5 ?_
      refine J_iload dX12_lock_373 rfl ?_
      refine J_imul dX12_lock_375 ?_
      refine J_iadd dX12_lock_376 ?_
      obtain ⟨g51, H⟩ := gd H
      refine J_iald dX12_lock_377 g48 (inB_ok g51) ?_
      refine J_bipush (6 : Int32) dX12_lock_378 kb_6 ?_
      refine J_icmp_ne 417 dX12_lock_380 rfl (fun q52 => ?_) (fun q52 => ?_)
      · replace H := br0 q52 H
        refine J_iinc (v8 + (1 : Int32)) dX12_lock_417 rfl (congrArg (HAdd.hAdd v8) kc_1) (by decide) (ls' := [.ref v0, .int v1, Value.null, Value.null, .int v4, .int v5, .int v6, .int v7, .int (v8 + (1 : Int32)), Value.null, Value.null]) rfl ?_
        refine J_goto 344 dX12_lock_420 rfl ?_
        cases H
        exact J_dr (hb0 _ rfl) ⟨rfl, ⟨rfl, ⟨rfl, ⟨rfl, ⟨rfl, ⟨rfl, ⟨rfl, trivial⟩⟩⟩⟩⟩⟩⟩
      · replace H := br1 q52 H
        refine J_aload_n 0 dX12_lock_383 rfl rfl ?_
        refine J_gP 11 1 dX12_lock_384 g47 flX12_8 rfl rfl ?_
        refine J_iload dX12_lock_387 rfl ?_
        refine J_iconst (3 : Int32) dX12_lock_389 kc_3 ?_
        refine J_iadd dX12_lock_390 ?_
        refine J_iconst (5 : Int32) dX12_lock_391 kc_5 ?_
        refine J_iload dX12_lock_392 rfl ?_
        refine J_imul dX12_lock_394 ?_
        refine J_iadd dX12_lock_395 ?_
        obtain ⟨g53, H⟩ := gd H
        refine J_iald dX12_lock_396 g48 (inB_ok g53) ?_
        refine J_iload_n 1 dX12_lock_397 rfl rfl ?_
        refine J_icmp_ne 417 dX12_lock_398 rfl (fun q54 => ?_) (fun q54 => ?_)
        · replace H := br0 q54 H
          refine J_iinc (v8 + (1 : Int32)) dX12_lock_417 rfl (congrArg (HAdd.hAdd v8) kc_1) (by decide) (ls' := [.ref v0, .int v1, Value.null, Value.null, .int v4, .int v5, .int v6, .int v7, .int (v8 + (1 : Int32)), Value.null, Value.null]) rfl ?_
          refine J_goto 344 dX12_lock_420 rfl ?_
          cases H
          exact J_dr (hb0 _ rfl) ⟨rfl, ⟨rfl, ⟨rfl, ⟨rfl, ⟨rfl, ⟨rfl, ⟨rfl, trivial⟩⟩⟩⟩⟩⟩⟩
        · replace H := br1 q54 H
          refine J_aload_n 0 dX12_lock_401 rfl rfl ?_
          refine J_gP 11 1 dX12_lock_402 g47 flX12_8 rfl rfl ?_
          refine J_iload dX12_lock_405 rfl ?_
          refine J_iconst (4 : Int32) dX12_lock_407 kc_4 ?_
          refine J_iadd dX12_lock_408 ?_
          refine J_iconst (5 : Int32) dX12_lock_409 kc_5 ?_
          refine J_iload dX12_lock_410 rfl ?_
          refine J_imul dX12_lock_412 ?_
          refine J_iadd dX12_lock_413 ?_
          obtain ⟨g55, H⟩ := gd H
          refine J_iald dX12_lock_414 g48 (inB_ok g55) ?_
          obtain ⟨w56, e57, H⟩ := lt_el H
          refine J_nmI e57 ?_
          refine J_istore dX12_lock_415 (by decide) (ls' := [.ref v0, .int v1, Value.null, Value.null, .int v4, .int v5, .int v6, .int w56, .int v8, Value.null, Value.null]) rfl ?_
          refine J_iinc (v8 + (1 : Int32)) dX12_lock_417 rfl (congrArg (HAdd.hAdd v8) kc_1) (by decide) (ls' := [.ref v0, .int v1, Value.null, Value.null, .int v4, .int v5, .int v6, .int w56, .int (v8 + (1 : Int32)), Value.null, Value.null]) rfl ?_
          refine J_goto 344 dX12_lock_420 rfl ?_
          cases H
          exact J_dr (hb0 _ rfl) ⟨rfl, ⟨rfl, ⟨rfl, ⟨rfl, ⟨rfl, ⟨rfl, ⟨rfl, trivial⟩⟩⟩⟩⟩⟩⟩
noncomputable def MX12_lock_344 (h : Hp) (v0 : Nat) (v1 : Int32) (v4 : Int32) (v5 : Int32) (v6 : Int32) (v7 : Int32) (v8 : Int32) : Option (Int32 × Hp) := it (fun q : Int32 × Int32 => BX12_lock_344 h v0 v1 v4 v5 v6 q.1 q.2) (v7, v8)
set_option maxRecDepth 100000 in
set_option maxHeartbeats 8000000 in
theorem kX12_lock_344 {d : Nat} {h : Hp} {v0 : Nat} {v1 : Int32} {v4 : Int32} {v5 : Int32} {v6 : Int32} {v7 : Int32} {v8 : Int32} {r : Int32} {h9 : Hp} (H : MX12_lock_344 h v0 v1 v4 v5 v6 v7 v8 = some (r, h9)) : J (d + 63) YX12_lock 344 [.ref v0, .int v1, Value.null, Value.null, .int v4, .int v5, .int v6, .int v7, .int v8, Value.null, Value.null] [] h (oI r) h9 := by
  unfold MX12_lock_344 at H
  refine it_J (G := (fun q : Int32 × Int32 => J (d + 63) YX12_lock 344 [.ref v0, .int v1, Value.null, Value.null, .int v4, .int v5, .int v6, .int q.1, .int q.2, Value.null, Value.null] [] h (oI r) h9)) (Q := (fun y : (Int32 × Hp) => y = (r, h9))) (fun q x Hq hm => ?_) H rfl
  exact bX12_lock_344 Hq (fun s hs => by subst hs; exact hm) (fun z hz => by subst hz; exact hm)
noncomputable def MX12_lock_298 (h : Hp) (v0 : Nat) (v1 : Int32) (v4 : Int32) (v5 : Int32) : Option (Int32 × Hp) :=
  gg (β := (Int32 × Hp)) (kd h v0 = 11) <|
  gg (β := (Int32 × Hp)) (kd h (gP h v0 1) = 20) <|
  gg (β := (Int32 × Hp)) (inB (v4 + (2 : Int32)) (ln h (gP h v0 1)) = true) <|
  lt (α := Hp) (β := Option (Int32 × Hp)) (sI h (gP h v0 1) (v4 + (2 : Int32)).toNatClampNeg v5) fun (h21 : Hp) =>
  gg (β := (Int32 × Hp)) (inB (0 : Int32) (ln h (gP h v0 1)) = true) <|
  gg (β := (Int32 × Hp)) (inB (v4 + (3 : Int32)) (ln h (gP h v0 1)) = true) <|
  lt (α := Hp) (β := Option (Int32 × Hp)) (sI h21 (gP h v0 1) (v4 + (3 : Int32)).toNatClampNeg (gI h21 (gP h v0 1) (0 : Int32).toNatClampNeg)) fun (h28 : Hp) =>
  Option.bind (α := Int32) (β := (Int32 × Hp)) (MX12_styleOf h28 v0 (gI h28 (gP h v0 1) (0 : Int32).toNatClampNeg)) fun (t34 : Int32) =>
  MX12_lock_344 h28 v0 v1 v4 v5 t34 (600 : Int32) (0 : Int32)
set_option maxRecDepth 100000 in
set_option maxHeartbeats 8000000 in
theorem kX12_lock_298 {d : Nat} {h : Hp} {v0 : Nat} {v1 : Int32} {v4 : Int32} {v5 : Int32} {r : Int32} {h9 : Hp} (H : MX12_lock_298 h v0 v1 v4 v5 = some (r, h9)) : J (d + 63) YX12_lock 298 [.ref v0, .int v1, Value.null, Value.null, .int v4, .int v5, Value.null, Value.null, Value.null, Value.null, Value.null] [] h (oI r) h9 := by
  unfold MX12_lock_298 at H
  refine J_aload_n 0 dX12_lock_298 rfl rfl ?_
  obtain ⟨g18, H⟩ := gd H
  refine J_gP 11 1 dX12_lock_299 g18 flX12_8 rfl rfl ?_
  refine J_iload dX12_lock_302 rfl ?_
  refine J_iconst (2 : Int32) dX12_lock_304 kc_2 ?_
  refine J_iadd dX12_lock_305 ?_
  refine J_iload dX12_lock_306 rfl ?_
  obtain ⟨g19, H⟩ := gd H
  obtain ⟨g20, H⟩ := gd H
  obtain ⟨h21, e22, H⟩ := lt_el H
  refine J_sI dX12_lock_308 g19 (inB_ok g20) e22 ?_
  have c23 := ekI e22
  have c24 := elI e22
  have c25 := epI e22
  refine J_aload_n 0 dX12_lock_309 rfl rfl ?_
  refine J_gP 11 1 dX12_lock_310 (kq c23 g18) flX12_8 rfl (congrFun (congrFun c25 v0) 1) ?_
  refine J_iload dX12_lock_313 rfl ?_
  refine J_iconst (3 : Int32) dX12_lock_315 kc_3 ?_
  refine J_iadd dX12_lock_316 ?_
  refine J_aload_n 0 dX12_lock_317 rfl rfl ?_
  refine J_gP 11 1 dX12_lock_318 (kq c23 g18) flX12_8 rfl (congrFun (congrFun c25 v0) 1) ?_
  refine J_iconst (0 : Int32) dX12_lock_321 kc_0 ?_
  obtain ⟨g26, H⟩ := gd H
  refine J_iald dX12_lock_322 (kq c23 g19) (lq c24 g26) ?_
  obtain ⟨g27, H⟩ := gd H
  obtain ⟨h28, e29, H⟩ := lt_el H
  refine J_sI dX12_lock_323 (kq c23 g19) (lq c24 g27) e29 ?_
  have c30 := (ekI e29).trans c23
  have c31 := (elI e29).trans c24
  have c32 := (epI e29).trans c25
  refine J_aload_n 0 dX12_lock_324 rfl rfl ?_
  refine J_aload_n 0 dX12_lock_325 rfl rfl ?_
  refine J_gP 11 1 dX12_lock_326 (kq c30 g18) flX12_8 rfl (congrFun (congrFun c32 v0) 1) ?_
  refine J_iconst (0 : Int32) dX12_lock_329 kc_0 ?_
  refine J_iald dX12_lock_330 (kq c30 g19) (lq c31 g26) ?_
  obtain ⟨t34, e33, H⟩ := bd H
  refine J_cV (as := [.int (gI h28 (gP h v0 1) (0 : Int32).toNatClampNeg)]) 11 YX12_styleOf 1 dX12_lock_331 moX12_styleOf mvX12_styleOf mlX12_284 (kq c30 g18) rfl rfl (okX12_styleOf (d := d + 62) e33) rfl rfl [] rfl rfl (st2 := [.int t34]) rfl ?_
  refine J_istore dX12_lock_334 (by decide) (ls' := [.ref v0, .int v1, Value.null, Value.null, .int v4, .int v5, .int t34, Value.null, Value.null, Value.null, Value.null]) rfl ?_
  refine J_sipush (600 : Int32) dX12_lock_336 ks_600 ?_
  refine J_istore dX12_lock_339 (by decide) (ls' := [.ref v0, .int v1, Value.null, Value.null, .int v4, .int v5, .int t34, .int (600 : Int32), Value.null, Value.null, Value.null]) rfl ?_
  refine J_iconst (0 : Int32) dX12_lock_341 kc_0 ?_
  refine J_istore dX12_lock_342 (by decide) (ls' := [.ref v0, .int v1, Value.null, Value.null, .int v4, .int v5, .int t34, .int (600 : Int32), .int (0 : Int32), Value.null, Value.null]) rfl ?_
  exact J_dr (kX12_lock_344 H ) ⟨rfl, ⟨rfl, ⟨rfl, ⟨rfl, ⟨rfl, ⟨rfl, ⟨rfl, trivial⟩⟩⟩⟩⟩⟩⟩
noncomputable def BX12_lock_230 (h : Hp) (v0 : Nat) (v1 : Int32) (v4 : Int32) (v5 : Int32) (v6 : Int32) (v7 : Int32) (v8 : Int32) (v9 : Int32) (v10 : Int32) : Option ((Int32 × Int32 × Hp) ⊕ ((Int32 × Int32 × Hp) ⊕ ((Int32 × Int32 × Hp) ⊕ ((Int32 × Int32 × Hp) ⊕ (Int32 × Hp))))) :=
  gg (β := ((Int32 × Int32 × Hp) ⊕ ((Int32 × Int32 × Hp) ⊕ ((Int32 × Int32 × Hp) ⊕ ((Int32 × Int32 × Hp) ⊕ (Int32 × Hp)))))) (kd h v0 = 11) <|
  gg (β := ((Int32 × Int32 × Hp) ⊕ ((Int32 × Int32 × Hp) ⊕ ((Int32 × Int32 × Hp) ⊕ ((Int32 × Int32 × Hp) ⊕ (Int32 × Hp)))))) (kd h (gP h v0 1) = 20) <|
  gg (β := ((Int32 × Int32 × Hp) ⊕ ((Int32 × Int32 × Hp) ⊕ ((Int32 × Int32 × Hp) ⊕ ((Int32 × Int32 × Hp) ⊕ (Int32 × Hp)))))) (inB (v9 + (4 : Int32)) (ln h (gP h v0 1)) = true) <|
  if (gI h (gP h v0 1) (v9 + (4 : Int32)).toNatClampNeg) ≤ v10 then
    some (.inr (.inl (v5, (v8 + (1 : Int32)), h)))
  else
    gg (β := ((Int32 × Int32 × Hp) ⊕ ((Int32 × Int32 × Hp) ⊕ ((Int32 × Int32 × Hp) ⊕ ((Int32 × Int32 × Hp) ⊕ (Int32 × Hp)))))) (inB ((v9 + (45 : Int32)) + v10) (ln h (gP h v0 1)) = true) <|
    gg (β := ((Int32 × Int32 × Hp) ⊕ ((Int32 × Int32 × Hp) ⊕ ((Int32 × Int32 × Hp) ⊕ ((Int32 × Int32 × Hp) ⊕ (Int32 × Hp)))))) (inB ((v4 + (5 : Int32)) + v5) (ln h (gP h v0 1)) = true) <|
    lt (α := Hp) (β := Option ((Int32 × Int32 × Hp) ⊕ ((Int32 × Int32 × Hp) ⊕ ((Int32 × Int32 × Hp) ⊕ ((Int32 × Int32 × Hp) ⊕ (Int32 × Hp)))))) (sI h (gP h v0 1) ((v4 + (5 : Int32)) + v5).toNatClampNeg ((gI h (gP h v0 1) ((v9 + (45 : Int32)) + v10).toNatClampNeg) - (1 : Int32))) fun (h77 : Hp) =>
    some (.inl ((v5 + (1 : Int32)), (v10 + (1 : Int32)), h77))
set_option maxRecDepth 100000 in
set_option maxHeartbeats 8000000 in
theorem bX12_lock_230 {d : Nat} {h : Hp} {v0 : Nat} {v1 : Int32} {v4 : Int32} {v5 : Int32} {v6 : Int32} {v7 : Int32} {v8 : Int32} {v9 : Int32} {v10 : Int32} {r : Int32} {h9 : Hp} {x : ((Int32 × Int32 × Hp) ⊕ ((Int32 × Int32 × Hp) ⊕ ((Int32 × Int32 × Hp) ⊕ ((Int32 × Int32 × Hp) ⊕ (Int32 × Hp)))))} (H : BX12_lock_230 h v0 v1 v4 v5 v6 v7 v8 v9 v10 = some x) (hb0 : ∀ s : Int32 × Int32 × Hp, x = .inl s → J (d + 63) YX12_lock 230 [.ref v0, .int v1, Value.null, Value.null, .int v4, .int s.1, .int v6, .int v7, .int v8, .int v9, .int s.2.1] [] s.2.2 (oI r) h9) (hb1 : ∀ s : Int32 × Int32 × Hp, x = .inr (.inl s) → J (d + 63) YX12_lock 186 [.ref v0, .int v1, Value.null, Value.null, .int v4, .int s.1, .int v6, .int v7, .int s.2.1, Value.null, Value.null] [] s.2.2 (oI r) h9) (hb2 : ∀ s : Int32 × Int32 × Hp, x = .inr (.inr (.inl s)) → J (d + 63) YX12_lock 174 [.ref v0, .int v1, Value.null, Value.null, .int v4, .int s.1, .int v6, .int s.2.1, Value.null, Value.null, Value.null] [] s.2.2 (oI r) h9) (hb3 : ∀ s : Int32 × Int32 × Hp, x = .inr (.inr (.inr (.inl s))) → J (d + 63) YX12_lock 165 [.ref v0, .int v1, Value.null, Value.null, .int v4, .int s.1, .int s.2.1, Value.null, Value.null, Value.null, Value.null] [] s.2.2 (oI r) h9) (hx : ∀ z : (Int32 × Hp), x = .inr (.inr (.inr (.inr (z)))) → z = (r, h9)) : J (d + 63) YX12_lock 230 [.ref v0, .int v1, Value.null, Value.null, .int v4, .int v5, .int v6, .int v7, .int v8, .int v9, .int v10] [] h (oI r) h9 := by
  unfold BX12_lock_230 at H
  refine J_iload dX12_lock_230 rfl ?_
  refine J_aload_n 0 dX12_lock_232 rfl rfl ?_
  obtain ⟨g71, H⟩ := gd H
  refine J_gP 11 1 dX12_lock_233 g71 flX12_8 rfl rfl ?_
  refine J_iload dX12_lock_236 rfl ?_
  refine J_iconst (4 : Int32) dX12_lock_238 kc_4 ?_
  refine J_iadd dX12_lock_239 ?_
  obtain ⟨g72, H⟩ := gd H
  obtain ⟨g73, H⟩ := gd H
  refine J_iald dX12_lock_240 g72 (inB_ok g73) ?_
  refine J_icmp_ge 280 dX12_lock_241 rfl (fun q74 => ?_) (fun q74 => ?_)
  · replace H := br1 q74 H
    refine J_iinc (v8 + (1 : Int32)) dX12_lock_280 rfl (congrArg (HAdd.hAdd v8) kc_1) (by decide) (ls' := [.ref v0, .int v1, Value.null, Value.null, .int v4, .int v5, .int v6, .int v7, .int (v8 + (1 : Int32)), .int v9, .int v10]) rfl ?_
    refine J_goto 186 dX12_lock_283 rfl ?_
    cases H
    exact J_dr (hb1 _ rfl) ⟨rfl, ⟨rfl, ⟨rfl, ⟨rfl, ⟨rfl, ⟨rfl, ⟨rfl, trivial⟩⟩⟩⟩⟩⟩⟩
  · replace H := br0 q74 H
    refine J_aload_n 0 dX12_lock_244 rfl rfl ?_
    refine J_gP 11 1 dX12_lock_245 g71 flX12_8 rfl rfl ?_
    refine J_iload dX12_lock_248 rfl ?_
    refine J_iconst (5 : Int32) dX12_lock_250 kc_5 ?_
    refine J_iadd dX12_lock_251 ?_
    refine J_iload dX12_lock_252 rfl ?_
    refine J_iadd dX12_lock_254 ?_
    refine J_aload_n 0 dX12_lock_255 rfl rfl ?_
    refine J_gP 11 1 dX12_lock_256 g71 flX12_8 rfl rfl ?_
    refine J_iload dX12_lock_259 rfl ?_
    refine J_bipush (45 : Int32) dX12_lock_261 kb_45 ?_
    refine J_iadd dX12_lock_263 ?_
    refine J_iload dX12_lock_264 rfl ?_
    refine J_iadd dX12_lock_266 ?_
    obtain ⟨g75, H⟩ := gd H
    refine J_iald dX12_lock_267 g72 (inB_ok g75) ?_
    refine J_iconst (1 : Int32) dX12_lock_268 kc_1 ?_
    refine J_isub dX12_lock_269 ?_
    obtain ⟨g76, H⟩ := gd H
    obtain ⟨h77, e78, H⟩ := lt_el H
    refine J_sI dX12_lock_270 g72 (inB_ok g76) e78 ?_
    have c79 := ekI e78
    have c80 := elI e78
    have c81 := epI e78
    refine J_iinc (v5 + (1 : Int32)) dX12_lock_271 rfl (congrArg (HAdd.hAdd v5) kc_1) (by decide) (ls' := [.ref v0, .int v1, Value.null, Value.null, .int v4, .int (v5 + (1 : Int32)), .int v6, .int v7, .int v8, .int v9, .int v10]) rfl ?_
    refine J_iinc (v10 + (1 : Int32)) dX12_lock_274 rfl (congrArg (HAdd.hAdd v10) kc_1) (by decide) (ls' := [.ref v0, .int v1, Value.null, Value.null, .int v4, .int (v5 + (1 : Int32)), .int v6, .int v7, .int v8, .int v9, .int (v10 + (1 : Int32))]) rfl ?_
    refine J_goto 230 dX12_lock_277 rfl ?_
    cases H
    exact J_dr (hb0 _ rfl) ⟨rfl, ⟨rfl, ⟨rfl, ⟨rfl, ⟨rfl, ⟨rfl, ⟨rfl, ⟨rfl, ⟨rfl, trivial⟩⟩⟩⟩⟩⟩⟩⟩⟩
noncomputable def MX12_lock_230 (h : Hp) (v0 : Nat) (v1 : Int32) (v4 : Int32) (v5 : Int32) (v6 : Int32) (v7 : Int32) (v8 : Int32) (v9 : Int32) (v10 : Int32) : Option ((Int32 × Int32 × Hp) ⊕ ((Int32 × Int32 × Hp) ⊕ ((Int32 × Int32 × Hp) ⊕ (Int32 × Hp)))) := it (fun q : Int32 × Int32 × Hp => BX12_lock_230 q.2.2 v0 v1 v4 q.1 v6 v7 v8 v9 q.2.1) (v5, v10, h)
set_option maxRecDepth 100000 in
set_option maxHeartbeats 8000000 in
theorem kX12_lock_230 {d : Nat} {h : Hp} {v0 : Nat} {v1 : Int32} {v4 : Int32} {v5 : Int32} {v6 : Int32} {v7 : Int32} {v8 : Int32} {v9 : Int32} {v10 : Int32} {r : Int32} {h9 : Hp} {x : ((Int32 × Int32 × Hp) ⊕ ((Int32 × Int32 × Hp) ⊕ ((Int32 × Int32 × Hp) ⊕ (Int32 × Hp))))} (H : MX12_lock_230 h v0 v1 v4 v5 v6 v7 v8 v9 v10 = some x) (hb0 : ∀ s : Int32 × Int32 × Hp, x = .inl s → J (d + 63) YX12_lock 186 [.ref v0, .int v1, Value.null, Value.null, .int v4, .int s.1, .int v6, .int v7, .int s.2.1, Value.null, Value.null] [] s.2.2 (oI r) h9) (hb1 : ∀ s : Int32 × Int32 × Hp, x = .inr (.inl s) → J (d + 63) YX12_lock 174 [.ref v0, .int v1, Value.null, Value.null, .int v4, .int s.1, .int v6, .int s.2.1, Value.null, Value.null, Value.null] [] s.2.2 (oI r) h9) (hb2 : ∀ s : Int32 × Int32 × Hp, x = .inr (.inr (.inl s)) → J (d + 63) YX12_lock 165 [.ref v0, .int v1, Value.null, Value.null, .int v4, .int s.1, .int s.2.1, Value.null, Value.null, Value.null, Value.null] [] s.2.2 (oI r) h9) (hx : ∀ z : (Int32 × Hp), x = .inr (.inr (.inr (z))) → z = (r, h9)) : J (d + 63) YX12_lock 230 [.ref v0, .int v1, Value.null, Value.null, .int v4, .int v5, .int v6, .int v7, .int v8, .int v9, .int v10] [] h (oI r) h9 := by
  unfold MX12_lock_230 at H
  refine it_J (G := (fun q : Int32 × Int32 × Hp => J (d + 63) YX12_lock 230 [.ref v0, .int v1, Value.null, Value.null, .int v4, .int q.1, .int v6, .int v7, .int v8, .int v9, .int q.2.1] [] q.2.2 (oI r) h9)) (Q := (fun y : ((Int32 × Int32 × Hp) ⊕ ((Int32 × Int32 × Hp) ⊕ ((Int32 × Int32 × Hp) ⊕ (Int32 × Hp)))) => (∀ s : Int32 × Int32 × Hp, y = .inl s → J (d + 63) YX12_lock 186 [.ref v0, .int v1, Value.null, Value.null, .int v4, .int s.1, .int v6, .int v7, .int s.2.1, Value.null, Value.null] [] s.2.2 (oI r) h9) ∧ (∀ s : Int32 × Int32 × Hp, y = .inr (.inl s) → J (d + 63) YX12_lock 174 [.ref v0, .int v1, Value.null, Value.null, .int v4, .int s.1, .int v6, .int s.2.1, Value.null, Value.null, Value.null] [] s.2.2 (oI r) h9) ∧ (∀ s : Int32 × Int32 × Hp, y = .inr (.inr (.inl s)) → J (d + 63) YX12_lock 165 [.ref v0, .int v1, Value.null, Value.null, .int v4, .int s.1, .int s.2.1, Value.null, Value.null, Value.null, Value.null] [] s.2.2 (oI r) h9) ∧ (∀ z : (Int32 × Hp), y = .inr (.inr (.inr (z))) → z = (r, h9)))) (fun q x Hq hm => ?_) H ⟨hb0, hb1, hb2, hx⟩
  exact bX12_lock_230 Hq (fun s hs => by subst hs; exact hm) (fun s hs => by subst hs; exact (hm.1) s rfl) (fun s hs => by subst hs; exact (hm.2.1) s rfl) (fun s hs => by subst hs; exact (hm.2.2.1) s rfl) (fun z hz => by subst hz; exact (hm.2.2.2) z rfl)
noncomputable def BX12_lock_186 (h : Hp) (v0 : Nat) (v1 : Int32) (v4 : Int32) (v5 : Int32) (v6 : Int32) (v7 : Int32) (v8 : Int32) : Option ((Int32 × Int32 × Hp) ⊕ ((Int32 × Int32 × Hp) ⊕ ((Int32 × Int32 × Hp) ⊕ (Int32 × Hp)))) :=
  gg (β := ((Int32 × Int32 × Hp) ⊕ ((Int32 × Int32 × Hp) ⊕ ((Int32 × Int32 × Hp) ⊕ (Int32 × Hp))))) (kd h v0 = 11) <|
  gg (β := ((Int32 × Int32 × Hp) ⊕ ((Int32 × Int32 × Hp) ⊕ ((Int32 × Int32 × Hp) ⊕ (Int32 × Hp))))) (kd h (gP h v0 49) = 20) <|
  gg (β := ((Int32 × Int32 × Hp) ⊕ ((Int32 × Int32 × Hp) ⊕ ((Int32 × Int32 × Hp) ⊕ (Int32 × Hp))))) (inB v7 (ln h (gP h v0 49)) = true) <|
  if (gI h (gP h v0 49) v7.toNatClampNeg) ≤ v8 then
    some (.inr (.inl (v5, (v7 + (1 : Int32)), h)))
  else
    gg (β := ((Int32 × Int32 × Hp) ⊕ ((Int32 × Int32 × Hp) ⊕ ((Int32 × Int32 × Hp) ⊕ (Int32 × Hp))))) (kd h (gP h v0 48) = 20) <|
    gg (β := ((Int32 × Int32 × Hp) ⊕ ((Int32 × Int32 × Hp) ⊕ ((Int32 × Int32 × Hp) ⊕ (Int32 × Hp))))) (inB v7 (ln h (gP h v0 48)) = true) <|
    if (gI h (gP h v0 48) v7.toNatClampNeg) = v6 then
      gg (β := ((Int32 × Int32 × Hp) ⊕ ((Int32 × Int32 × Hp) ⊕ ((Int32 × Int32 × Hp) ⊕ (Int32 × Hp))))) (kd h (gP h v0 45) = 20) <|
      gg (β := ((Int32 × Int32 × Hp) ⊕ ((Int32 × Int32 × Hp) ⊕ ((Int32 × Int32 × Hp) ⊕ (Int32 × Hp))))) (inB v7 (ln h (gP h v0 45)) = true) <|
      Option.bind (α := Int32) (β := ((Int32 × Int32 × Hp) ⊕ ((Int32 × Int32 × Hp) ⊕ ((Int32 × Int32 × Hp) ⊕ (Int32 × Hp))))) (MX12_part0 h (((5 : Int32) * (gI h (gP h v0 45) v7.toNatClampNeg)) + v8)) fun (t70 : Int32) =>
      MX12_lock_230 h v0 v1 v4 v5 v6 v7 v8 t70 (0 : Int32)
    else
      some (.inr (.inl (v5, (v7 + (1 : Int32)), h)))
set_option maxRecDepth 100000 in
set_option maxHeartbeats 8000000 in
theorem bX12_lock_186 {d : Nat} {h : Hp} {v0 : Nat} {v1 : Int32} {v4 : Int32} {v5 : Int32} {v6 : Int32} {v7 : Int32} {v8 : Int32} {r : Int32} {h9 : Hp} {x : ((Int32 × Int32 × Hp) ⊕ ((Int32 × Int32 × Hp) ⊕ ((Int32 × Int32 × Hp) ⊕ (Int32 × Hp))))} (H : BX12_lock_186 h v0 v1 v4 v5 v6 v7 v8 = some x) (hb0 : ∀ s : Int32 × Int32 × Hp, x = .inl s → J (d + 63) YX12_lock 186 [.ref v0, .int v1, Value.null, Value.null, .int v4, .int s.1, .int v6, .int v7, .int s.2.1, Value.null, Value.null] [] s.2.2 (oI r) h9) (hb1 : ∀ s : Int32 × Int32 × Hp, x = .inr (.inl s) → J (d + 63) YX12_lock 174 [.ref v0, .int v1, Value.null, Value.null, .int v4, .int s.1, .int v6, .int s.2.1, Value.null, Value.null, Value.null] [] s.2.2 (oI r) h9) (hb2 : ∀ s : Int32 × Int32 × Hp, x = .inr (.inr (.inl s)) → J (d + 63) YX12_lock 165 [.ref v0, .int v1, Value.null, Value.null, .int v4, .int s.1, .int s.2.1, Value.null, Value.null, Value.null, Value.null] [] s.2.2 (oI r) h9) (hx : ∀ z : (Int32 × Hp), x = .inr (.inr (.inr (z))) → z = (r, h9)) : J (d + 63) YX12_lock 186 [.ref v0, .int v1, Value.null, Value.null, .int v4, .int v5, .int v6, .int v7, .int v8, Value.null, Value.null] [] h (oI r) h9 := by
  unfold BX12_lock_186 at H
  refine J_iload dX12_lock_186 rfl ?_
  refine J_aload_n 0 dX12_lock_188 rfl rfl ?_
  obtain ⟨g60, H⟩ := gd H
  refine J_gP 11 49 dX12_lock_189 g60 flX12_106 rfl rfl ?_
  refine J_iload dX12_lock_192 rfl ?_
  obtain ⟨g61, H⟩ := gd H
  obtain ⟨g62, H⟩ := gd H
  refine J_iald dX12_lock_194 g61 (inB_ok g62) ?_
  refine J_icmp_ge 286 dX12_lock_195 rfl (fun q63 => ?_) (fun q63 => ?_)
  · replace H := br1 q63 H
    refine J_iinc (v7 + (1 : Int32)) dX12_lock_286 rfl (congrArg (HAdd.hAdd v7) kc_1) (by decide) (ls' := [.ref v0, .int v1, Value.null, Value.null, .int v4, .int v5, .int v6, .int (v7 + (1 : Int32)), .int v8, Value.null, Value.null]) rfl ?_
    refine J_goto 174 dX12_lock_289 rfl ?_
    cases H
    exact J_dr (hb1 _ rfl) ⟨rfl, ⟨rfl, ⟨rfl, ⟨rfl, ⟨rfl, ⟨rfl, trivial⟩⟩⟩⟩⟩⟩
  · replace H := br0 q63 H
    refine J_aload_n 0 dX12_lock_198 rfl rfl ?_
    refine J_gP 11 48 dX12_lock_199 g60 flX12_103 rfl rfl ?_
    refine J_iload dX12_lock_202 rfl ?_
    obtain ⟨g64, H⟩ := gd H
    obtain ⟨g65, H⟩ := gd H
    refine J_iald dX12_lock_204 g64 (inB_ok g65) ?_
    refine J_iload dX12_lock_205 rfl ?_
    refine J_icmp_ne 286 dX12_lock_207 rfl (fun q66 => ?_) (fun q66 => ?_)
    · replace H := br0 q66 H
      refine J_iinc (v7 + (1 : Int32)) dX12_lock_286 rfl (congrArg (HAdd.hAdd v7) kc_1) (by decide) (ls' := [.ref v0, .int v1, Value.null, Value.null, .int v4, .int v5, .int v6, .int (v7 + (1 : Int32)), .int v8, Value.null, Value.null]) rfl ?_
      refine J_goto 174 dX12_lock_289 rfl ?_
      cases H
      exact J_dr (hb1 _ rfl) ⟨rfl, ⟨rfl, ⟨rfl, ⟨rfl, ⟨rfl, ⟨rfl, trivial⟩⟩⟩⟩⟩⟩
    · replace H := br1 q66 H
      refine J_iconst (5 : Int32) dX12_lock_210 kc_5 ?_
      refine J_aload_n 0 dX12_lock_211 rfl rfl ?_
      refine J_gP 11 45 dX12_lock_212 g60 flX12_94 rfl rfl ?_
      refine J_iload dX12_lock_215 rfl ?_
      obtain ⟨g67, H⟩ := gd H
      obtain ⟨g68, H⟩ := gd H
      refine J_iald dX12_lock_217 g67 (inB_ok g68) ?_
      refine J_imul dX12_lock_218 ?_
      refine J_iload dX12_lock_219 rfl ?_
      refine J_iadd dX12_lock_221 ?_
      obtain ⟨t70, e69, H⟩ := bd H
      refine J_cS (as := [.int (((5 : Int32) * (gI h (gP h v0 45) v7.toNatClampNeg)) + v8)]) YX12_part0 1 dX12_lock_222 moX12_part0 msX12_part0 mlX12_164 (okX12_part0 (d := d + 62) e69) rfl rfl [] rfl rfl (st2 := [.int t70]) rfl ?_
      refine J_istore dX12_lock_225 (by decide) (ls' := [.ref v0, .int v1, Value.null, Value.null, .int v4, .int v5, .int v6, .int v7, .int v8, .int t70, Value.null]) rfl ?_
      refine J_iconst (0 : Int32) dX12_lock_227 kc_0 ?_
      refine J_istore dX12_lock_228 (by decide) (ls' := [.ref v0, .int v1, Value.null, Value.null, .int v4, .int v5, .int v6, .int v7, .int v8, .int t70, .int (0 : Int32)]) rfl ?_
      exact J_dr (kX12_lock_230 H hb0 hb1 hb2 hx) ⟨rfl, ⟨rfl, ⟨rfl, ⟨rfl, ⟨rfl, ⟨rfl, ⟨rfl, ⟨rfl, ⟨rfl, trivial⟩⟩⟩⟩⟩⟩⟩⟩⟩
noncomputable def MX12_lock_186 (h : Hp) (v0 : Nat) (v1 : Int32) (v4 : Int32) (v5 : Int32) (v6 : Int32) (v7 : Int32) (v8 : Int32) : Option ((Int32 × Int32 × Hp) ⊕ ((Int32 × Int32 × Hp) ⊕ (Int32 × Hp))) := it (fun q : Int32 × Int32 × Hp => BX12_lock_186 q.2.2 v0 v1 v4 q.1 v6 v7 q.2.1) (v5, v8, h)
set_option maxRecDepth 100000 in
set_option maxHeartbeats 8000000 in
theorem kX12_lock_186 {d : Nat} {h : Hp} {v0 : Nat} {v1 : Int32} {v4 : Int32} {v5 : Int32} {v6 : Int32} {v7 : Int32} {v8 : Int32} {r : Int32} {h9 : Hp} {x : ((Int32 × Int32 × Hp) ⊕ ((Int32 × Int32 × Hp) ⊕ (Int32 × Hp)))} (H : MX12_lock_186 h v0 v1 v4 v5 v6 v7 v8 = some x) (hb0 : ∀ s : Int32 × Int32 × Hp, x = .inl s → J (d + 63) YX12_lock 174 [.ref v0, .int v1, Value.null, Value.null, .int v4, .int s.1, .int v6, .int s.2.1, Value.null, Value.null, Value.null] [] s.2.2 (oI r) h9) (hb1 : ∀ s : Int32 × Int32 × Hp, x = .inr (.inl s) → J (d + 63) YX12_lock 165 [.ref v0, .int v1, Value.null, Value.null, .int v4, .int s.1, .int s.2.1, Value.null, Value.null, Value.null, Value.null] [] s.2.2 (oI r) h9) (hx : ∀ z : (Int32 × Hp), x = .inr (.inr (z)) → z = (r, h9)) : J (d + 63) YX12_lock 186 [.ref v0, .int v1, Value.null, Value.null, .int v4, .int v5, .int v6, .int v7, .int v8, Value.null, Value.null] [] h (oI r) h9 := by
  unfold MX12_lock_186 at H
  refine it_J (G := (fun q : Int32 × Int32 × Hp => J (d + 63) YX12_lock 186 [.ref v0, .int v1, Value.null, Value.null, .int v4, .int q.1, .int v6, .int v7, .int q.2.1, Value.null, Value.null] [] q.2.2 (oI r) h9)) (Q := (fun y : ((Int32 × Int32 × Hp) ⊕ ((Int32 × Int32 × Hp) ⊕ (Int32 × Hp))) => (∀ s : Int32 × Int32 × Hp, y = .inl s → J (d + 63) YX12_lock 174 [.ref v0, .int v1, Value.null, Value.null, .int v4, .int s.1, .int v6, .int s.2.1, Value.null, Value.null, Value.null] [] s.2.2 (oI r) h9) ∧ (∀ s : Int32 × Int32 × Hp, y = .inr (.inl s) → J (d + 63) YX12_lock 165 [.ref v0, .int v1, Value.null, Value.null, .int v4, .int s.1, .int s.2.1, Value.null, Value.null, Value.null, Value.null] [] s.2.2 (oI r) h9) ∧ (∀ z : (Int32 × Hp), y = .inr (.inr (z)) → z = (r, h9)))) (fun q x Hq hm => ?_) H ⟨hb0, hb1, hx⟩
  exact bX12_lock_186 Hq (fun s hs => by subst hs; exact hm) (fun s hs => by subst hs; exact (hm.1) s rfl) (fun s hs => by subst hs; exact (hm.2.1) s rfl) (fun z hz => by subst hz; exact (hm.2.2) z rfl)
noncomputable def BX12_lock_174 (h : Hp) (v0 : Nat) (v1 : Int32) (v4 : Int32) (v5 : Int32) (v6 : Int32) (v7 : Int32) : Option ((Int32 × Int32 × Hp) ⊕ ((Int32 × Int32 × Hp) ⊕ (Int32 × Hp))) :=
  gg (β := ((Int32 × Int32 × Hp) ⊕ ((Int32 × Int32 × Hp) ⊕ (Int32 × Hp)))) (kd h v0 = 11) <|
  if (gI h v0 51) ≤ v7 then
    some (.inr (.inl (v5, (v6 + (1 : Int32)), h)))
  else
    MX12_lock_186 h v0 v1 v4 v5 v6 v7 (0 : Int32)
set_option maxRecDepth 100000 in
set_option maxHeartbeats 8000000 in
theorem bX12_lock_174 {d : Nat} {h : Hp} {v0 : Nat} {v1 : Int32} {v4 : Int32} {v5 : Int32} {v6 : Int32} {v7 : Int32} {r : Int32} {h9 : Hp} {x : ((Int32 × Int32 × Hp) ⊕ ((Int32 × Int32 × Hp) ⊕ (Int32 × Hp)))} (H : BX12_lock_174 h v0 v1 v4 v5 v6 v7 = some x) (hb0 : ∀ s : Int32 × Int32 × Hp, x = .inl s → J (d + 63) YX12_lock 174 [.ref v0, .int v1, Value.null, Value.null, .int v4, .int s.1, .int v6, .int s.2.1, Value.null, Value.null, Value.null] [] s.2.2 (oI r) h9) (hb1 : ∀ s : Int32 × Int32 × Hp, x = .inr (.inl s) → J (d + 63) YX12_lock 165 [.ref v0, .int v1, Value.null, Value.null, .int v4, .int s.1, .int s.2.1, Value.null, Value.null, Value.null, Value.null] [] s.2.2 (oI r) h9) (hx : ∀ z : (Int32 × Hp), x = .inr (.inr (z)) → z = (r, h9)) : J (d + 63) YX12_lock 174 [.ref v0, .int v1, Value.null, Value.null, .int v4, .int v5, .int v6, .int v7, Value.null, Value.null, Value.null] [] h (oI r) h9 := by
  unfold BX12_lock_174 at H
  refine J_iload dX12_lock_174 rfl ?_
  refine J_aload_n 0 dX12_lock_176 rfl rfl ?_
  obtain ⟨g58, H⟩ := gd H
  refine J_getI 11 51 dX12_lock_177 g58 flX12_421 rfl ?_
  refine J_icmp_ge 292 dX12_lock_180 rfl (fun q59 => ?_) (fun q59 => ?_)
  · replace H := br1 q59 H
    refine J_iinc (v6 + (1 : Int32)) dX12_lock_292 rfl (congrArg (HAdd.hAdd v6) kc_1) (by decide) (ls' := [.ref v0, .int v1, Value.null, Value.null, .int v4, .int v5, .int (v6 + (1 : Int32)), .int v7, Value.null, Value.null, Value.null]) rfl ?_
    refine J_goto 165 dX12_lock_295 rfl ?_
    cases H
    exact J_dr (hb1 _ rfl) ⟨rfl, ⟨rfl, ⟨rfl, ⟨rfl, ⟨rfl, trivial⟩⟩⟩⟩⟩
  · replace H := br0 q59 H
    refine J_iconst (0 : Int32) dX12_lock_183 kc_0 ?_
    refine J_istore dX12_lock_184 (by decide) (ls' := [.ref v0, .int v1, Value.null, Value.null, .int v4, .int v5, .int v6, .int v7, .int (0 : Int32), Value.null, Value.null]) rfl ?_
    exact J_dr (kX12_lock_186 H hb0 hb1 hx) ⟨rfl, ⟨rfl, ⟨rfl, ⟨rfl, ⟨rfl, ⟨rfl, ⟨rfl, trivial⟩⟩⟩⟩⟩⟩⟩
noncomputable def MX12_lock_174 (h : Hp) (v0 : Nat) (v1 : Int32) (v4 : Int32) (v5 : Int32) (v6 : Int32) (v7 : Int32) : Option ((Int32 × Int32 × Hp) ⊕ (Int32 × Hp)) := it (fun q : Int32 × Int32 × Hp => BX12_lock_174 q.2.2 v0 v1 v4 q.1 v6 q.2.1) (v5, v7, h)
set_option maxRecDepth 100000 in
set_option maxHeartbeats 8000000 in
theorem kX12_lock_174 {d : Nat} {h : Hp} {v0 : Nat} {v1 : Int32} {v4 : Int32} {v5 : Int32} {v6 : Int32} {v7 : Int32} {r : Int32} {h9 : Hp} {x : ((Int32 × Int32 × Hp) ⊕ (Int32 × Hp))} (H : MX12_lock_174 h v0 v1 v4 v5 v6 v7 = some x) (hb0 : ∀ s : Int32 × Int32 × Hp, x = .inl s → J (d + 63) YX12_lock 165 [.ref v0, .int v1, Value.null, Value.null, .int v4, .int s.1, .int s.2.1, Value.null, Value.null, Value.null, Value.null] [] s.2.2 (oI r) h9) (hx : ∀ z : (Int32 × Hp), x = .inr (z) → z = (r, h9)) : J (d + 63) YX12_lock 174 [.ref v0, .int v1, Value.null, Value.null, .int v4, .int v5, .int v6, .int v7, Value.null, Value.null, Value.null] [] h (oI r) h9 := by
  unfold MX12_lock_174 at H
  refine it_J (G := (fun q : Int32 × Int32 × Hp => J (d + 63) YX12_lock 174 [.ref v0, .int v1, Value.null, Value.null, .int v4, .int q.1, .int v6, .int q.2.1, Value.null, Value.null, Value.null] [] q.2.2 (oI r) h9)) (Q := (fun y : ((Int32 × Int32 × Hp) ⊕ (Int32 × Hp)) => (∀ s : Int32 × Int32 × Hp, y = .inl s → J (d + 63) YX12_lock 165 [.ref v0, .int v1, Value.null, Value.null, .int v4, .int s.1, .int s.2.1, Value.null, Value.null, Value.null, Value.null] [] s.2.2 (oI r) h9) ∧ (∀ z : (Int32 × Hp), y = .inr (z) → z = (r, h9)))) (fun q x Hq hm => ?_) H ⟨hb0, hx⟩
  exact bX12_lock_174 Hq (fun s hs => by subst hs; exact hm) (fun s hs => by subst hs; exact (hm.1) s rfl) (fun z hz => by subst hz; exact (hm.2) z rfl)
noncomputable def BX12_lock_165 (h : Hp) (v0 : Nat) (v1 : Int32) (v4 : Int32) (v5 : Int32) (v6 : Int32) : Option ((Int32 × Int32 × Hp) ⊕ (Int32 × Hp)) :=
  if (3 : Int32) ≤ v6 then
    up1 (MX12_lock_298 h v0 v1 v4 v5)
  else
    MX12_lock_174 h v0 v1 v4 v5 v6 (0 : Int32)
set_option maxRecDepth 100000 in
set_option maxHeartbeats 8000000 in
theorem bX12_lock_165 {d : Nat} {h : Hp} {v0 : Nat} {v1 : Int32} {v4 : Int32} {v5 : Int32} {v6 : Int32} {r : Int32} {h9 : Hp} {x : ((Int32 × Int32 × Hp) ⊕ (Int32 × Hp))} (H : BX12_lock_165 h v0 v1 v4 v5 v6 = some x) (hb0 : ∀ s : Int32 × Int32 × Hp, x = .inl s → J (d + 63) YX12_lock 165 [.ref v0, .int v1, Value.null, Value.null, .int v4, .int s.1, .int s.2.1, Value.null, Value.null, Value.null, Value.null] [] s.2.2 (oI r) h9) (hx : ∀ z : (Int32 × Hp), x = .inr (z) → z = (r, h9)) : J (d + 63) YX12_lock 165 [.ref v0, .int v1, Value.null, Value.null, .int v4, .int v5, .int v6, Value.null, Value.null, Value.null, Value.null] [] h (oI r) h9 := by
  unfold BX12_lock_165 at H
  refine J_iload dX12_lock_165 rfl ?_
  refine J_iconst (3 : Int32) dX12_lock_167 kc_3 ?_
  refine J_icmp_ge 298 dX12_lock_168 rfl (fun q17 => ?_) (fun q17 => ?_)
  · replace H := br1 q17 H
    obtain ⟨y0, H90, rfl⟩ := up1_el H
    replace H := H90
    obtain rfl := hx _ rfl
    exact J_dr (kX12_lock_298 H ) ⟨rfl, ⟨rfl, ⟨rfl, ⟨rfl, trivial⟩⟩⟩⟩
  · replace H := br0 q17 H
    refine J_iconst (0 : Int32) dX12_lock_171 kc_0 ?_
    refine J_istore dX12_lock_172 (by decide) (ls' := [.ref v0, .int v1, Value.null, Value.null, .int v4, .int v5, .int v6, .int (0 : Int32), Value.null, Value.null, Value.null]) rfl ?_
    exact J_dr (kX12_lock_174 H hb0 hx) ⟨rfl, ⟨rfl, ⟨rfl, ⟨rfl, ⟨rfl, ⟨rfl, trivial⟩⟩⟩⟩⟩⟩
noncomputable def MX12_lock_165 (h : Hp) (v0 : Nat) (v1 : Int32) (v4 : Int32) (v5 : Int32) (v6 : Int32) : Option (Int32 × Hp) := it (fun q : Int32 × Int32 × Hp => BX12_lock_165 q.2.2 v0 v1 v4 q.1 q.2.1) (v5, v6, h)
set_option maxRecDepth 100000 in
set_option maxHeartbeats 8000000 in
theorem kX12_lock_165 {d : Nat} {h : Hp} {v0 : Nat} {v1 : Int32} {v4 : Int32} {v5 : Int32} {v6 : Int32} {r : Int32} {h9 : Hp} (H : MX12_lock_165 h v0 v1 v4 v5 v6 = some (r, h9)) : J (d + 63) YX12_lock 165 [.ref v0, .int v1, Value.null, Value.null, .int v4, .int v5, .int v6, Value.null, Value.null, Value.null, Value.null] [] h (oI r) h9 := by
  unfold MX12_lock_165 at H
  refine it_J (G := (fun q : Int32 × Int32 × Hp => J (d + 63) YX12_lock 165 [.ref v0, .int v1, Value.null, Value.null, .int v4, .int q.1, .int q.2.1, Value.null, Value.null, Value.null, Value.null] [] q.2.2 (oI r) h9)) (Q := (fun y : (Int32 × Hp) => y = (r, h9))) (fun q x Hq hm => ?_) H rfl
  exact bX12_lock_165 Hq (fun s hs => by subst hs; exact hm) (fun z hz => by subst hz; exact hm)
noncomputable def MX12_lock_143 (h : Hp) (v0 : Nat) (v1 : Int32) (v3 : Int32) : Option (Int32 × Hp) :=
  if v3 = 0 then
    some ((-1 : Int32), h)
  else
    MX12_lock_165 h v0 v1 ((327382 : Int32) + ((185 : Int32) * v1)) (0 : Int32) (0 : Int32)
set_option maxRecDepth 100000 in
set_option maxHeartbeats 8000000 in
theorem kX12_lock_143 {d : Nat} {h : Hp} {v0 : Nat} {v1 : Int32} {v3 : Int32} {r : Int32} {h9 : Hp} (H : MX12_lock_143 h v0 v1 v3 = some (r, h9)) : J (d + 63) YX12_lock 143 [.ref v0, .int v1, Value.null, .int v3, Value.null, Value.null, Value.null, Value.null, Value.null, Value.null, Value.null] [] h (oI r) h9 := by
  unfold MX12_lock_143 at H
  refine J_iload_n 3 dX12_lock_143 rfl rfl ?_
  refine J_if_ne 149 dX12_lock_144 rfl (fun q16 => ?_) (fun q16 => ?_)
  · replace H := br0 q16 H
    refine J_ldc (327382 : Int32) coX12_121 dX12_lock_149 ?_
    refine J_sipush (185 : Int32) dX12_lock_151 ks_185 ?_
    refine J_iload_n 1 dX12_lock_154 rfl rfl ?_
    refine J_imul dX12_lock_155 ?_
    refine J_iadd dX12_lock_156 ?_
    refine J_istore dX12_lock_157 (by decide) (ls' := [.ref v0, .int v1, Value.null, .int v3, .int ((327382 : Int32) + ((185 : Int32) * v1)), Value.null, Value.null, Value.null, Value.null, Value.null, Value.null]) rfl ?_
    refine J_iconst (0 : Int32) dX12_lock_159 kc_0 ?_
    refine J_istore dX12_lock_160 (by decide) (ls' := [.ref v0, .int v1, Value.null, .int v3, .int ((327382 : Int32) + ((185 : Int32) * v1)), .int (0 : Int32), Value.null, Value.null, Value.null, Value.null, Value.null]) rfl ?_
    refine J_iconst (0 : Int32) dX12_lock_162 kc_0 ?_
    refine J_istore dX12_lock_163 (by decide) (ls' := [.ref v0, .int v1, Value.null, .int v3, .int ((327382 : Int32) + ((185 : Int32) * v1)), .int (0 : Int32), .int (0 : Int32), Value.null, Value.null, Value.null, Value.null]) rfl ?_
    exact J_dr (kX12_lock_165 H ) ⟨rfl, ⟨rfl, ⟨rfl, ⟨rfl, ⟨rfl, trivial⟩⟩⟩⟩⟩
  · replace H := br1 q16 H
    refine J_iconst (-1 : Int32) dX12_lock_147 kc_m1 ?_
    cases H
    exact J_iretI dX12_lock_148 rfl
noncomputable def MX12_lock_124 (h : Hp) (v0 : Nat) (v1 : Int32) (v4 : Int32) (v5 : Int32) (v6 : Int32) (v7 : Int32) (s0 : Int32) : Option ((Int32 × Int32 × Hp) ⊕ ((Int32 × Int32 × Hp) ⊕ ((Int32 × Int32 × Hp) ⊕ (Int32 × Hp)))) :=
  some (.inl (s0, (v7 + (1 : Int32)), h))
set_option maxRecDepth 100000 in
set_option maxHeartbeats 8000000 in
theorem kX12_lock_124 {d : Nat} {h : Hp} {v0 : Nat} {v1 : Int32} {v4 : Int32} {v5 : Int32} {v6 : Int32} {v7 : Int32} {s0 : Int32} {r : Int32} {h9 : Hp} {x : ((Int32 × Int32 × Hp) ⊕ ((Int32 × Int32 × Hp) ⊕ ((Int32 × Int32 × Hp) ⊕ (Int32 × Hp))))} (H : MX12_lock_124 h v0 v1 v4 v5 v6 v7 s0 = some x) (hb0 : ∀ s : Int32 × Int32 × Hp, x = .inl s → J (d + 63) YX12_lock 87 [.ref v0, .int v1, Value.null, .int s.1, .int v4, .int v5, .int v6, .int s.2.1, Value.null, Value.null, Value.null] [] s.2.2 (oI r) h9) (hb1 : ∀ s : Int32 × Int32 × Hp, x = .inr (.inl s) → J (d + 63) YX12_lock 58 [.ref v0, .int v1, Value.null, .int s.1, .int v4, .int s.2.1, Value.null, Value.null, Value.null, Value.null, Value.null] [] s.2.2 (oI r) h9) (hb2 : ∀ s : Int32 × Int32 × Hp, x = .inr (.inr (.inl s)) → J (d + 63) YX12_lock 42 [.ref v0, .int v1, Value.null, .int s.1, .int s.2.1, Value.null, Value.null, Value.null, Value.null, Value.null, Value.null] [] s.2.2 (oI r) h9) (hx : ∀ z : (Int32 × Hp), x = .inr (.inr (.inr (z))) → z = (r, h9)) : J (d + 63) YX12_lock 124 [.ref v0, .int v1, Value.null, Value.null, .int v4, .int v5, .int v6, .int v7, Value.null, Value.null, Value.null] [.int s0] h (oI r) h9 := by
  unfold MX12_lock_124 at H
  refine J_istore_n 3 dX12_lock_124 rfl (by decide) (ls' := [.ref v0, .int v1, Value.null, .int s0, .int v4, .int v5, .int v6, .int v7, Value.null, Value.null, Value.null]) rfl ?_
  refine J_iinc (v7 + (1 : Int32)) dX12_lock_125 rfl (congrArg (HAdd.hAdd v7) kc_1) (by decide) (ls' := [.ref v0, .int v1, Value.null, .int s0, .int v4, .int v5, .int v6, .int (v7 + (1 : Int32)), Value.null, Value.null, Value.null]) rfl ?_
  refine J_goto 87 dX12_lock_128 rfl ?_
  cases H
  exact J_dr (hb0 _ rfl) ⟨rfl, ⟨rfl, ⟨rfl, ⟨rfl, ⟨rfl, ⟨rfl, ⟨rfl, trivial⟩⟩⟩⟩⟩⟩⟩
noncomputable def MX12_lock_123 (h : Hp) (v0 : Nat) (v1 : Int32) (v4 : Int32) (v5 : Int32) (v6 : Int32) (v7 : Int32) : Option ((Int32 × Int32 × Hp) ⊕ ((Int32 × Int32 × Hp) ⊕ ((Int32 × Int32 × Hp) ⊕ (Int32 × Hp)))) :=
  MX12_lock_124 h v0 v1 v4 v5 v6 v7 (0 : Int32)
set_option maxRecDepth 100000 in
set_option maxHeartbeats 8000000 in
theorem kX12_lock_123 {d : Nat} {h : Hp} {v0 : Nat} {v1 : Int32} {v4 : Int32} {v5 : Int32} {v6 : Int32} {v7 : Int32} {r : Int32} {h9 : Hp} {x : ((Int32 × Int32 × Hp) ⊕ ((Int32 × Int32 × Hp) ⊕ ((Int32 × Int32 × Hp) ⊕ (Int32 × Hp))))} (H : MX12_lock_123 h v0 v1 v4 v5 v6 v7 = some x) (hb0 : ∀ s : Int32 × Int32 × Hp, x = .inl s → J (d + 63) YX12_lock 87 [.ref v0, .int v1, Value.null, .int s.1, .int v4, .int v5, .int v6, .int s.2.1, Value.null, Value.null, Value.null] [] s.2.2 (oI r) h9) (hb1 : ∀ s : Int32 × Int32 × Hp, x = .inr (.inl s) → J (d + 63) YX12_lock 58 [.ref v0, .int v1, Value.null, .int s.1, .int v4, .int s.2.1, Value.null, Value.null, Value.null, Value.null, Value.null] [] s.2.2 (oI r) h9) (hb2 : ∀ s : Int32 × Int32 × Hp, x = .inr (.inr (.inl s)) → J (d + 63) YX12_lock 42 [.ref v0, .int v1, Value.null, .int s.1, .int s.2.1, Value.null, Value.null, Value.null, Value.null, Value.null, Value.null] [] s.2.2 (oI r) h9) (hx : ∀ z : (Int32 × Hp), x = .inr (.inr (.inr (z))) → z = (r, h9)) : J (d + 63) YX12_lock 123 [.ref v0, .int v1, Value.null, Value.null, .int v4, .int v5, .int v6, .int v7, Value.null, Value.null, Value.null] [] h (oI r) h9 := by
  unfold MX12_lock_123 at H
  refine J_iconst (0 : Int32) dX12_lock_123 kc_0 ?_
  exact J_dr (kX12_lock_124 H hb0 hb1 hb2 hx) ⟨rfl, ⟨rfl, ⟨rfl, ⟨rfl, ⟨rfl, ⟨rfl, trivial⟩⟩⟩⟩⟩⟩
noncomputable def BX12_lock_87 (h : Hp) (v0 : Nat) (v1 : Int32) (v3 : Int32) (v4 : Int32) (v5 : Int32) (v6 : Int32) (v7 : Int32) : Option ((Int32 × Int32 × Hp) ⊕ ((Int32 × Int32 × Hp) ⊕ ((Int32 × Int32 × Hp) ⊕ (Int32 × Hp)))) :=
  gg (β := ((Int32 × Int32 × Hp) ⊕ ((Int32 × Int32 × Hp) ⊕ ((Int32 × Int32 × Hp) ⊕ (Int32 × Hp))))) (kd h v0 = 11) <|
  Option.bind (α := Int32) (β := ((Int32 × Int32 × Hp) ⊕ ((Int32 × Int32 × Hp) ⊕ ((Int32 × Int32 × Hp) ⊕ (Int32 × Hp))))) (MX12_part0 h v6) fun (t91 : Int32) =>
  gg (β := ((Int32 × Int32 × Hp) ⊕ ((Int32 × Int32 × Hp) ⊕ ((Int32 × Int32 × Hp) ⊕ (Int32 × Hp))))) (kd h (gP h v0 1) = 20) <|
  gg (β := ((Int32 × Int32 × Hp) ⊕ ((Int32 × Int32 × Hp) ⊕ ((Int32 × Int32 × Hp) ⊕ (Int32 × Hp))))) (inB (t91 + (4 : Int32)) (ln h (gP h v0 1)) = true) <|
  if (gI h (gP h v0 1) (t91 + (4 : Int32)).toNatClampNeg) ≤ v7 then
    some (.inr (.inl (v3, (v5 + (1 : Int32)), h)))
  else
    if v3 = 0 then
      MX12_lock_123 h v0 v1 v4 v5 v6 v7
    else
      b2 (α := Int32) (β := Hp) (γ := ((Int32 × Int32 × Hp) ⊕ ((Int32 × Int32 × Hp) ⊕ ((Int32 × Int32 × Hp) ⊕ (Int32 × Hp))))) (MX12_isRight h v0 v6 v7) fun (t98 : Int32) (h97 : Hp) =>
      if t98 = 0 then
        MX12_lock_123 h97 v0 v1 v4 v5 v6 v7
      else
        MX12_lock_124 h97 v0 v1 v4 v5 v6 v7 (1 : Int32)
set_option maxRecDepth 100000 in
set_option maxHeartbeats 8000000 in
theorem bX12_lock_87 {d : Nat} {h : Hp} {v0 : Nat} {v1 : Int32} {v3 : Int32} {v4 : Int32} {v5 : Int32} {v6 : Int32} {v7 : Int32} {r : Int32} {h9 : Hp} {x : ((Int32 × Int32 × Hp) ⊕ ((Int32 × Int32 × Hp) ⊕ ((Int32 × Int32 × Hp) ⊕ (Int32 × Hp))))} (H : BX12_lock_87 h v0 v1 v3 v4 v5 v6 v7 = some x) (hb0 : ∀ s : Int32 × Int32 × Hp, x = .inl s → J (d + 63) YX12_lock 87 [.ref v0, .int v1, Value.null, .int s.1, .int v4, .int v5, .int v6, .int s.2.1, Value.null, Value.null, Value.null] [] s.2.2 (oI r) h9) (hb1 : ∀ s : Int32 × Int32 × Hp, x = .inr (.inl s) → J (d + 63) YX12_lock 58 [.ref v0, .int v1, Value.null, .int s.1, .int v4, .int s.2.1, Value.null, Value.null, Value.null, Value.null, Value.null] [] s.2.2 (oI r) h9) (hb2 : ∀ s : Int32 × Int32 × Hp, x = .inr (.inr (.inl s)) → J (d + 63) YX12_lock 42 [.ref v0, .int v1, Value.null, .int s.1, .int s.2.1, Value.null, Value.null, Value.null, Value.null, Value.null, Value.null] [] s.2.2 (oI r) h9) (hx : ∀ z : (Int32 × Hp), x = .inr (.inr (.inr (z))) → z = (r, h9)) : J (d + 63) YX12_lock 87 [.ref v0, .int v1, Value.null, .int v3, .int v4, .int v5, .int v6, .int v7, Value.null, Value.null, Value.null] [] h (oI r) h9 := by
  unfold BX12_lock_87 at H
  refine J_iload dX12_lock_87 rfl ?_
  refine J_aload_n 0 dX12_lock_89 rfl rfl ?_
  obtain ⟨g89, H⟩ := gd H
  refine J_gP 11 1 dX12_lock_90 g89 flX12_8 rfl rfl ?_
  refine J_iload dX12_lock_93 rfl ?_
  obtain ⟨t91, e90, H⟩ := bd H
  refine J_cS (as := [.int v6]) YX12_part0 1 dX12_lock_95 moX12_part0 msX12_part0 mlX12_164 (okX12_part0 (d := d + 62) e90) rfl rfl [.ref (gP h v0 1), .int v7] rfl rfl (st2 := [.int t91, .ref (gP h v0 1), .int v7]) rfl ?_
  refine J_iconst (4 : Int32) dX12_lock_98 kc_4 ?_
  refine J_iadd dX12_lock_99 ?_
  obtain ⟨g92, H⟩ := gd H
  obtain ⟨g93, H⟩ := gd H
  refine J_iald dX12_lock_100 g92 (inB_ok g93) ?_
  refine J_icmp_ge 131 dX12_lock_101 rfl (fun q94 => ?_) (fun q94 => ?_)
  · replace H := br1 q94 H
    refine J_iinc (v5 + (1 : Int32)) dX12_lock_131 rfl (congrArg (HAdd.hAdd v5) kc_1) (by decide) (ls' := [.ref v0, .int v1, Value.null, .int v3, .int v4, .int (v5 + (1 : Int32)), .int v6, .int v7, Value.null, Value.null, Value.null]) rfl ?_
    refine J_goto 58 dX12_lock_134 rfl ?_
    cases H
    exact J_dr (hb1 _ rfl) ⟨rfl, ⟨rfl, ⟨rfl, ⟨rfl, ⟨rfl, trivial⟩⟩⟩⟩⟩
  · replace H := br0 q94 H
    refine J_iload_n 3 dX12_lock_104 rfl rfl ?_
    refine J_if_eq 123 dX12_lock_105 rfl (fun q95 => ?_) (fun q95 => ?_)
    · replace H := br1 q95 H
      exact J_dr (kX12_lock_123 H hb0 hb1 hb2 hx) ⟨rfl, ⟨rfl, ⟨rfl, ⟨rfl, ⟨rfl, ⟨rfl, trivial⟩⟩⟩⟩⟩⟩
    · replace H := br0 q95 H
      refine J_aload_n 0 dX12_lock_108 rfl rfl ?_
      refine J_iload dX12_lock_109 rfl ?_
      refine J_iload dX12_lock_111 rfl ?_
      obtain ⟨t98, h97, e96, H⟩ := b2_el H
      refine J_cV (as := [.int v6, .int v7]) 11 YX12_isRight 2 dX12_lock_113 moX12_isRight mvX12_isRight mlX12_339 g89 rfl rfl (okX12_isRight (d := d + 60) e96) rfl rfl [] rfl rfl (st2 := [.int t98]) rfl ?_
      refine J_if_eq 123 dX12_lock_116 rfl (fun q99 => ?_) (fun q99 => ?_)
      · replace H := br1 q99 H
        exact J_dr (kX12_lock_123 H hb0 hb1 hb2 hx) ⟨rfl, ⟨rfl, ⟨rfl, ⟨rfl, ⟨rfl, ⟨rfl, trivial⟩⟩⟩⟩⟩⟩
      · replace H := br0 q99 H
        refine J_iconst (1 : Int32) dX12_lock_119 kc_1 ?_
        refine J_goto 124 dX12_lock_120 rfl ?_
        exact J_dr (kX12_lock_124 H hb0 hb1 hb2 hx) ⟨rfl, ⟨rfl, ⟨rfl, ⟨rfl, ⟨rfl, ⟨rfl, trivial⟩⟩⟩⟩⟩⟩
noncomputable def MX12_lock_87 (h : Hp) (v0 : Nat) (v1 : Int32) (v3 : Int32) (v4 : Int32) (v5 : Int32) (v6 : Int32) (v7 : Int32) : Option ((Int32 × Int32 × Hp) ⊕ ((Int32 × Int32 × Hp) ⊕ (Int32 × Hp))) := it (fun q : Int32 × Int32 × Hp => BX12_lock_87 q.2.2 v0 v1 q.1 v4 v5 v6 q.2.1) (v3, v7, h)
set_option maxRecDepth 100000 in
set_option maxHeartbeats 8000000 in
theorem kX12_lock_87 {d : Nat} {h : Hp} {v0 : Nat} {v1 : Int32} {v3 : Int32} {v4 : Int32} {v5 : Int32} {v6 : Int32} {v7 : Int32} {r : Int32} {h9 : Hp} {x : ((Int32 × Int32 × Hp) ⊕ ((Int32 × Int32 × Hp) ⊕ (Int32 × Hp)))} (H : MX12_lock_87 h v0 v1 v3 v4 v5 v6 v7 = some x) (hb0 : ∀ s : Int32 × Int32 × Hp, x = .inl s → J (d + 63) YX12_lock 58 [.ref v0, .int v1, Value.null, .int s.1, .int v4, .int s.2.1, Value.null, Value.null, Value.null, Value.null, Value.null] [] s.2.2 (oI r) h9) (hb1 : ∀ s : Int32 × Int32 × Hp, x = .inr (.inl s) → J (d + 63) YX12_lock 42 [.ref v0, .int v1, Value.null, .int s.1, .int s.2.1, Value.null, Value.null, Value.null, Value.null, Value.null, Value.null] [] s.2.2 (oI r) h9) (hx : ∀ z : (Int32 × Hp), x = .inr (.inr (z)) → z = (r, h9)) : J (d + 63) YX12_lock 87 [.ref v0, .int v1, Value.null, .int v3, .int v4, .int v5, .int v6, .int v7, Value.null, Value.null, Value.null] [] h (oI r) h9 := by
  unfold MX12_lock_87 at H
  refine it_J (G := (fun q : Int32 × Int32 × Hp => J (d + 63) YX12_lock 87 [.ref v0, .int v1, Value.null, .int q.1, .int v4, .int v5, .int v6, .int q.2.1, Value.null, Value.null, Value.null] [] q.2.2 (oI r) h9)) (Q := (fun y : ((Int32 × Int32 × Hp) ⊕ ((Int32 × Int32 × Hp) ⊕ (Int32 × Hp))) => (∀ s : Int32 × Int32 × Hp, y = .inl s → J (d + 63) YX12_lock 58 [.ref v0, .int v1, Value.null, .int s.1, .int v4, .int s.2.1, Value.null, Value.null, Value.null, Value.null, Value.null] [] s.2.2 (oI r) h9) ∧ (∀ s : Int32 × Int32 × Hp, y = .inr (.inl s) → J (d + 63) YX12_lock 42 [.ref v0, .int v1, Value.null, .int s.1, .int s.2.1, Value.null, Value.null, Value.null, Value.null, Value.null, Value.null] [] s.2.2 (oI r) h9) ∧ (∀ z : (Int32 × Hp), y = .inr (.inr (z)) → z = (r, h9)))) (fun q x Hq hm => ?_) H ⟨hb0, hb1, hx⟩
  exact bX12_lock_87 Hq (fun s hs => by subst hs; exact hm) (fun s hs => by subst hs; exact (hm.1) s rfl) (fun s hs => by subst hs; exact (hm.2.1) s rfl) (fun z hz => by subst hz; exact (hm.2.2) z rfl)
noncomputable def BX12_lock_58 (h : Hp) (v0 : Nat) (v1 : Int32) (v3 : Int32) (v4 : Int32) (v5 : Int32) : Option ((Int32 × Int32 × Hp) ⊕ ((Int32 × Int32 × Hp) ⊕ (Int32 × Hp))) :=
  gg (β := ((Int32 × Int32 × Hp) ⊕ ((Int32 × Int32 × Hp) ⊕ (Int32 × Hp)))) (kd h v0 = 11) <|
  gg (β := ((Int32 × Int32 × Hp) ⊕ ((Int32 × Int32 × Hp) ⊕ (Int32 × Hp)))) (kd h (gP h v0 49) = 20) <|
  gg (β := ((Int32 × Int32 × Hp) ⊕ ((Int32 × Int32 × Hp) ⊕ (Int32 × Hp)))) (inB v4 (ln h (gP h v0 49)) = true) <|
  if (gI h (gP h v0 49) v4.toNatClampNeg) ≤ v5 then
    some (.inr (.inl (v3, (v4 + (1 : Int32)), h)))
  else
    gg (β := ((Int32 × Int32 × Hp) ⊕ ((Int32 × Int32 × Hp) ⊕ (Int32 × Hp)))) (kd h (gP h v0 45) = 20) <|
    gg (β := ((Int32 × Int32 × Hp) ⊕ ((Int32 × Int32 × Hp) ⊕ (Int32 × Hp)))) (inB v4 (ln h (gP h v0 45)) = true) <|
    MX12_lock_87 h v0 v1 v3 v4 v5 (((5 : Int32) * (gI h (gP h v0 45) v4.toNatClampNeg)) + v5) (0 : Int32)
set_option maxRecDepth 100000 in
set_option maxHeartbeats 8000000 in
theorem bX12_lock_58 {d : Nat} {h : Hp} {v0 : Nat} {v1 : Int32} {v3 : Int32} {v4 : Int32} {v5 : Int32} {r : Int32} {h9 : Hp} {x : ((Int32 × Int32 × Hp) ⊕ ((Int32 × Int32 × Hp) ⊕ (Int32 × Hp)))} (H : BX12_lock_58 h v0 v1 v3 v4 v5 = some x) (hb0 : ∀ s : Int32 × Int32 × Hp, x = .inl s → J (d + 63) YX12_lock 58 [.ref v0, .int v1, Value.null, .int s.1, .int v4, .int s.2.1, Value.null, Value.null, Value.null, Value.null, Value.null] [] s.2.2 (oI r) h9) (hb1 : ∀ s : Int32 × Int32 × Hp, x = .inr (.inl s) → J (d + 63) YX12_lock 42 [.ref v0, .int v1, Value.null, .int s.1, .int s.2.1, Value.null, Value.null, Value.null, Value.null, Value.null, Value.null] [] s.2.2 (oI r) h9) (hx : ∀ z : (Int32 × Hp), x = .inr (.inr (z)) → z = (r, h9)) : J (d + 63) YX12_lock 58 [.ref v0, .int v1, Value.null, .int v3, .int v4, .int v5, Value.null, Value.null, Value.null, Value.null, Value.null] [] h (oI r) h9 := by
  unfold BX12_lock_58 at H
  refine J_iload dX12_lock_58 rfl ?_
  refine J_aload_n 0 dX12_lock_60 rfl rfl ?_
  obtain ⟨g83, H⟩ := gd H
  refine J_gP 11 49 dX12_lock_61 g83 flX12_106 rfl rfl ?_
  refine J_iload dX12_lock_64 rfl ?_
  obtain ⟨g84, H⟩ := gd H
  obtain ⟨g85, H⟩ := gd H
  refine J_iald dX12_lock_66 g84 (inB_ok g85) ?_
  refine J_icmp_ge 137 dX12_lock_67 rfl (fun q86 => ?_) (fun q86 => ?_)
  · replace H := br1 q86 H
    refine J_iinc (v4 + (1 : Int32)) dX12_lock_137 rfl (congrArg (HAdd.hAdd v4) kc_1) (by decide) (ls' := [.ref v0, .int v1, Value.null, .int v3, .int (v4 + (1 : Int32)), .int v5, Value.null, Value.null, Value.null, Value.null, Value.null]) rfl ?_
    refine J_goto 42 dX12_lock_140 rfl ?_
    cases H
    exact J_dr (hb1 _ rfl) ⟨rfl, ⟨rfl, ⟨rfl, ⟨rfl, trivial⟩⟩⟩⟩
  · replace H := br0 q86 H
    refine J_iconst (5 : Int32) dX12_lock_70 kc_5 ?_
    refine J_aload_n 0 dX12_lock_71 rfl rfl ?_
    refine J_gP 11 45 dX12_lock_72 g83 flX12_94 rfl rfl ?_
    refine J_iload dX12_lock_75 rfl ?_
    obtain ⟨g87, H⟩ := gd H
    obtain ⟨g88, H⟩ := gd H
    refine J_iald dX12_lock_77 g87 (inB_ok g88) ?_
    refine J_imul dX12_lock_78 ?_
    refine J_iload dX12_lock_79 rfl ?_
    refine J_iadd dX12_lock_81 ?_
    refine J_istore dX12_lock_82 (by decide) (ls' := [.ref v0, .int v1, Value.null, .int v3, .int v4, .int v5, .int (((5 : Int32) * (gI h (gP h v0 45) v4.toNatClampNeg)) + v5), Value.null, Value.null, Value.null, Value.null]) rfl ?_
    refine J_iconst (0 : Int32) dX12_lock_84 kc_0 ?_
    refine J_istore dX12_lock_85 (by decide) (ls' := [.ref v0, .int v1, Value.null, .int v3, .int v4, .int v5, .int (((5 : Int32) * (gI h (gP h v0 45) v4.toNatClampNeg)) + v5), .int (0 : Int32), Value.null, Value.null, Value.null]) rfl ?_
    exact J_dr (kX12_lock_87 H hb0 hb1 hx) ⟨rfl, ⟨rfl, ⟨rfl, ⟨rfl, ⟨rfl, ⟨rfl, ⟨rfl, trivial⟩⟩⟩⟩⟩⟩⟩
noncomputable def MX12_lock_58 (h : Hp) (v0 : Nat) (v1 : Int32) (v3 : Int32) (v4 : Int32) (v5 : Int32) : Option ((Int32 × Int32 × Hp) ⊕ (Int32 × Hp)) := it (fun q : Int32 × Int32 × Hp => BX12_lock_58 q.2.2 v0 v1 q.1 v4 q.2.1) (v3, v5, h)
set_option maxRecDepth 100000 in
set_option maxHeartbeats 8000000 in
theorem kX12_lock_58 {d : Nat} {h : Hp} {v0 : Nat} {v1 : Int32} {v3 : Int32} {v4 : Int32} {v5 : Int32} {r : Int32} {h9 : Hp} {x : ((Int32 × Int32 × Hp) ⊕ (Int32 × Hp))} (H : MX12_lock_58 h v0 v1 v3 v4 v5 = some x) (hb0 : ∀ s : Int32 × Int32 × Hp, x = .inl s → J (d + 63) YX12_lock 42 [.ref v0, .int v1, Value.null, .int s.1, .int s.2.1, Value.null, Value.null, Value.null, Value.null, Value.null, Value.null] [] s.2.2 (oI r) h9) (hx : ∀ z : (Int32 × Hp), x = .inr (z) → z = (r, h9)) : J (d + 63) YX12_lock 58 [.ref v0, .int v1, Value.null, .int v3, .int v4, .int v5, Value.null, Value.null, Value.null, Value.null, Value.null] [] h (oI r) h9 := by
  unfold MX12_lock_58 at H
  refine it_J (G := (fun q : Int32 × Int32 × Hp => J (d + 63) YX12_lock 58 [.ref v0, .int v1, Value.null, .int q.1, .int v4, .int q.2.1, Value.null, Value.null, Value.null, Value.null, Value.null] [] q.2.2 (oI r) h9)) (Q := (fun y : ((Int32 × Int32 × Hp) ⊕ (Int32 × Hp)) => (∀ s : Int32 × Int32 × Hp, y = .inl s → J (d + 63) YX12_lock 42 [.ref v0, .int v1, Value.null, .int s.1, .int s.2.1, Value.null, Value.null, Value.null, Value.null, Value.null, Value.null] [] s.2.2 (oI r) h9) ∧ (∀ z : (Int32 × Hp), y = .inr (z) → z = (r, h9)))) (fun q x Hq hm => ?_) H ⟨hb0, hx⟩
  exact bX12_lock_58 Hq (fun s hs => by subst hs; exact hm) (fun s hs => by subst hs; exact (hm.1) s rfl) (fun z hz => by subst hz; exact (hm.2) z rfl)
noncomputable def BX12_lock_42 (h : Hp) (v0 : Nat) (v1 : Int32) (v3 : Int32) (v4 : Int32) : Option ((Int32 × Int32 × Hp) ⊕ (Int32 × Hp)) :=
  gg (β := ((Int32 × Int32 × Hp) ⊕ (Int32 × Hp))) (kd h v0 = 11) <|
  if (gI h v0 51) ≤ v4 then
    up1 (MX12_lock_143 h v0 v1 v3)
  else
    if v3 = 0 then
      up1 (MX12_lock_143 h v0 v1 v3)
    else
      MX12_lock_58 h v0 v1 v3 v4 (0 : Int32)
set_option maxRecDepth 100000 in
set_option maxHeartbeats 8000000 in
theorem bX12_lock_42 {d : Nat} {h : Hp} {v0 : Nat} {v1 : Int32} {v3 : Int32} {v4 : Int32} {r : Int32} {h9 : Hp} {x : ((Int32 × Int32 × Hp) ⊕ (Int32 × Hp))} (H : BX12_lock_42 h v0 v1 v3 v4 = some x) (hb0 : ∀ s : Int32 × Int32 × Hp, x = .inl s → J (d + 63) YX12_lock 42 [.ref v0, .int v1, Value.null, .int s.1, .int s.2.1, Value.null, Value.null, Value.null, Value.null, Value.null, Value.null] [] s.2.2 (oI r) h9) (hx : ∀ z : (Int32 × Hp), x = .inr (z) → z = (r, h9)) : J (d + 63) YX12_lock 42 [.ref v0, .int v1, Value.null, .int v3, .int v4, Value.null, Value.null, Value.null, Value.null, Value.null, Value.null] [] h (oI r) h9 := by
  unfold BX12_lock_42 at H
  refine J_iload dX12_lock_42 rfl ?_
  refine J_aload_n 0 dX12_lock_44 rfl rfl ?_
  obtain ⟨g14, H⟩ := gd H
  refine J_getI 11 51 dX12_lock_45 g14 flX12_421 rfl ?_
  refine J_icmp_ge 143 dX12_lock_48 rfl (fun q15 => ?_) (fun q15 => ?_)
  · replace H := br1 q15 H
    obtain ⟨y0, H90, rfl⟩ := up1_el H
    replace H := H90
    obtain rfl := hx _ rfl
    exact J_dr (kX12_lock_143 H ) ⟨rfl, ⟨rfl, ⟨rfl, trivial⟩⟩⟩
  · replace H := br0 q15 H
    refine J_iload_n 3 dX12_lock_51 rfl rfl ?_
    refine J_if_eq 143 dX12_lock_52 rfl (fun q82 => ?_) (fun q82 => ?_)
    · replace H := br1 q82 H
      obtain ⟨y0, H90, rfl⟩ := up1_el H
      replace H := H90
      obtain rfl := hx _ rfl
      exact J_dr (kX12_lock_143 H ) ⟨rfl, ⟨rfl, ⟨rfl, trivial⟩⟩⟩
    · replace H := br0 q82 H
      refine J_iconst (0 : Int32) dX12_lock_55 kc_0 ?_
      refine J_istore dX12_lock_56 (by decide) (ls' := [.ref v0, .int v1, Value.null, .int v3, .int v4, .int (0 : Int32), Value.null, Value.null, Value.null, Value.null, Value.null]) rfl ?_
      exact J_dr (kX12_lock_58 H hb0 hx) ⟨rfl, ⟨rfl, ⟨rfl, ⟨rfl, ⟨rfl, trivial⟩⟩⟩⟩⟩
noncomputable def MX12_lock_42 (h : Hp) (v0 : Nat) (v1 : Int32) (v3 : Int32) (v4 : Int32) : Option (Int32 × Hp) := it (fun q : Int32 × Int32 × Hp => BX12_lock_42 q.2.2 v0 v1 q.1 q.2.1) (v3, v4, h)
set_option maxRecDepth 100000 in
set_option maxHeartbeats 8000000 in
theorem kX12_lock_42 {d : Nat} {h : Hp} {v0 : Nat} {v1 : Int32} {v3 : Int32} {v4 : Int32} {r : Int32} {h9 : Hp} (H : MX12_lock_42 h v0 v1 v3 v4 = some (r, h9)) : J (d + 63) YX12_lock 42 [.ref v0, .int v1, Value.null, .int v3, .int v4, Value.null, Value.null, Value.null, Value.null, Value.null, Value.null] [] h (oI r) h9 := by
  unfold MX12_lock_42 at H
  refine it_J (G := (fun q : Int32 × Int32 × Hp => J (d + 63) YX12_lock 42 [.ref v0, .int v1, Value.null, .int q.1, .int q.2.1, Value.null, Value.null, Value.null, Value.null, Value.null, Value.null] [] q.2.2 (oI r) h9)) (Q := (fun y : (Int32 × Hp) => y = (r, h9))) (fun q x Hq hm => ?_) H rfl
  exact bX12_lock_42 Hq (fun s hs => by subst hs; exact hm) (fun z hz => by subst hz; exact hm)
noncomputable def MX12_lock_38 (h : Hp) (v0 : Nat) (v1 : Int32) (s0 : Int32) : Option (Int32 × Hp) :=
  MX12_lock_42 h v0 v1 s0 (0 : Int32)
set_option maxRecDepth 100000 in
set_option maxHeartbeats 8000000 in
theorem kX12_lock_38 {d : Nat} {h : Hp} {v0 : Nat} {v1 : Int32} {s0 : Int32} {r : Int32} {h9 : Hp} (H : MX12_lock_38 h v0 v1 s0 = some (r, h9)) : J (d + 63) YX12_lock 38 [.ref v0, .int v1, Value.null, Value.null, Value.null, Value.null, Value.null, Value.null, Value.null, Value.null, Value.null] [.int s0] h (oI r) h9 := by
  unfold MX12_lock_38 at H
  refine J_istore_n 3 dX12_lock_38 rfl (by decide) (ls' := [.ref v0, .int v1, Value.null, .int s0, Value.null, Value.null, Value.null, Value.null, Value.null, Value.null, Value.null]) rfl ?_
  refine J_iconst (0 : Int32) dX12_lock_39 kc_0 ?_
  refine J_istore dX12_lock_40 (by decide) (ls' := [.ref v0, .int v1, Value.null, .int s0, .int (0 : Int32), Value.null, Value.null, Value.null, Value.null, Value.null, Value.null]) rfl ?_
  exact J_dr (kX12_lock_42 H ) ⟨rfl, ⟨rfl, ⟨rfl, ⟨rfl, trivial⟩⟩⟩⟩
noncomputable def MX12_lock (h : Hp) (v0 : Nat) (v1 : Int32) (v2 : Int32) : Option (Int32 × Hp) :=
  gg (β := (Int32 × Hp)) (kd h v0 = 11) <|
  Option.bind (α := Int32) (β := (Int32 × Hp)) (MX12_notFit h v0 v1 v2) fun (t3 : Int32) =>
  lt (α := Hp) (β := Option (Int32 × Hp)) (sI h v0 0 t3) fun (h4 : Hp) =>
  if (gI h4 v0 0) ≤ 0 then
    Option.bind (α := Hp) (β := (Int32 × Hp)) (MX12_fitting h4 v0 v1 v2) fun (h11 : Hp) =>
    gg (β := (Int32 × Hp)) (kd h11 v0 = 11) <|
    if (gI h11 v0 52) = (-1 : Int32) then
      MX12_lock_38 h11 v0 v1 (0 : Int32)
    else
      MX12_lock_38 h11 v0 v1 (1 : Int32)
  else
    some ((0 : Int32), h4)
set_option maxRecDepth 100000 in
set_option maxHeartbeats 8000000 in
theorem eX12_lock {d : Nat} {h : Hp} {v0 : Nat} {v1 : Int32} {v2 : Int32} {r : Int32} {h9 : Hp} (H : MX12_lock h v0 v1 v2 = some (r, h9)) : J (d + 63) YX12_lock 0 [.ref v0, .int v1, .int v2, Value.null, Value.null, Value.null, Value.null, Value.null, Value.null, Value.null, Value.null] [] h (oI r) h9 := by
  unfold MX12_lock at H
  refine J_aload_n 0 dX12_lock_0 rfl rfl ?_
  refine J_aload_n 0 dX12_lock_1 rfl rfl ?_
  refine J_iload_n 1 dX12_lock_2 rfl rfl ?_
  refine J_iload_n 2 dX12_lock_3 rfl rfl ?_
  obtain ⟨g2, H⟩ := gd H
  obtain ⟨t3, e1, H⟩ := bd H
  refine J_cV (as := [.int v1, .int v2]) 11 YX12_notFit 2 dX12_lock_4 moX12_notFit mvX12_notFit mlX12_436 g2 rfl rfl (okX12_notFit (d := d + 61) e1) rfl rfl [.ref v0] rfl rfl (st2 := [.int t3, .ref v0]) rfl ?_
  obtain ⟨h4, e5, H⟩ := lt_el H
  refine J_pI 11 0 dX12_lock_7 g2 flX12_122 rfl rfl e5 ?_
  have c6 := ekI e5
  have c7 := elI e5
  have c8 := epI e5
  refine J_aload_n 0 dX12_lock_10 rfl rfl ?_
  refine J_getI 11 0 dX12_lock_11 (kq c6 g2) flX12_122 rfl ?_
  refine J_if_le 19 dX12_lock_14 rfl (fun q9 => ?_) (fun q9 => ?_)
  · replace H := br1 q9 H
    refine J_aload_n 0 dX12_lock_19 rfl rfl ?_
    refine J_iload_n 1 dX12_lock_20 rfl rfl ?_
    refine J_iload_n 2 dX12_lock_21 rfl rfl ?_
    obtain ⟨h11, e10, H⟩ := bd H
    refine J_cV (as := [.int v1, .int v2]) 11 YX12_fitting 2 dX12_lock_22 moX12_fitting mvX12_fitting mlX12_439 (kq c6 g2) rfl rfl (okX12_fitting (d := d) e10) rfl rfl [] rfl rfl (st2 := []) rfl ?_
    refine J_aload_n 0 dX12_lock_25 rfl rfl ?_
    obtain ⟨g12, H⟩ := gd H
    refine J_getI 11 52 dX12_lock_26 g12 flX12_424 rfl ?_
    refine J_iconst (-1 : Int32) dX12_lock_29 kc_m1 ?_
    refine J_icmp_eq 37 dX12_lock_30 rfl (fun q13 => ?_) (fun q13 => ?_)
    · replace H := br1 q13 H
      refine J_iconst (0 : Int32) dX12_lock_37 kc_0 ?_
      exact J_dr (kX12_lock_38 H ) ⟨rfl, ⟨rfl, trivial⟩⟩
    · replace H := br0 q13 H
      refine J_iconst (1 : Int32) dX12_lock_33 kc_1 ?_
      refine J_goto 38 dX12_lock_34 rfl ?_
      exact J_dr (kX12_lock_38 H ) ⟨rfl, ⟨rfl, trivial⟩⟩
  · replace H := br0 q9 H
    refine J_iconst (0 : Int32) dX12_lock_17 kc_0 ?_
    cases H
    exact J_iretI dX12_lock_18 rfl
theorem okX12_lock {d : Nat} {h : Hp} {v0 : Nat} {v1 : Int32} {v2 : Int32} {r : Int32} {h9 : Hp} (H : MX12_lock h v0 v1 v2 = some (r, h9)) : CT (d + 63) YX12_lock [.ref v0, .int v1, .int v2] h (oI r) h9 := CT_of (by decide +kernel) (Nat.le_of_ble_eq_true rfl) (eX12_lock H)
noncomputable def MX12_locked_26 (h : Hp) (v0 : Nat) (v1 : Int32) (v2 : Int32) (s0 : Nat) (s1 : Int32) : Option (Int32 × Hp) :=
  gg (β := (Int32 × Hp)) (kd h s0 = 11) <|
  lt (α := Hp) (β := Option (Int32 × Hp)) (sI h s0 0 s1) fun (h8 : Hp) =>
  gg (β := (Int32 × Hp)) (kd h v0 = 11) <|
  if (gI h8 v0 0) ≤ 0 then
    if v2 = 0 then
      gg (β := (Int32 × Hp)) (kd h (gP h v0 1) = 20) <|
      gg (β := (Int32 × Hp)) (inB (((327382 : Int32) + ((185 : Int32) * v1)) + (2 : Int32)) (ln h (gP h v0 1)) = true) <|
      some ((gI h8 (gP h v0 1) (((327382 : Int32) + ((185 : Int32) * v1)) + (2 : Int32)).toNatClampNeg), h8)
    else
      if v2 = (1 : Int32) then
        gg (β := (Int32 × Hp)) (kd h (gP h v0 1) = 20) <|
        gg (β := (Int32 × Hp)) (inB (((327382 : Int32) + ((185 : Int32) * v1)) + (3 : Int32)) (ln h (gP h v0 1)) = true) <|
        some ((gI h8 (gP h v0 1) (((327382 : Int32) + ((185 : Int32) * v1)) + (3 : Int32)).toNatClampNeg), h8)
      else
        if v2 = (2 : Int32) then
          gg (β := (Int32 × Hp)) (kd h (gP h v0 1) = 20) <|
          gg (β := (Int32 × Hp)) (inB (((327382 : Int32) + ((185 : Int32) * v1)) + (4 : Int32)) (ln h (gP h v0 1)) = true) <|
          some ((gI h8 (gP h v0 1) (((327382 : Int32) + ((185 : Int32) * v1)) + (4 : Int32)).toNatClampNeg), h8)
        else
          gg (β := (Int32 × Hp)) (kd h (gP h v0 1) = 20) <|
          gg (β := (Int32 × Hp)) (inB ((((327382 : Int32) + ((185 : Int32) * v1)) + v2) - (3 : Int32)) (ln h (gP h v0 1)) = true) <|
          some ((gI h8 (gP h v0 1) ((((327382 : Int32) + ((185 : Int32) * v1)) + v2) - (3 : Int32)).toNatClampNeg), h8)
  else
    some ((0 : Int32), h8)
set_option maxRecDepth 100000 in
set_option maxHeartbeats 8000000 in
theorem kX12_locked_26 {d : Nat} {h : Hp} {v0 : Nat} {v1 : Int32} {v2 : Int32} {s0 : Nat} {s1 : Int32} {r : Int32} {h9 : Hp} (H : MX12_locked_26 h v0 v1 v2 s0 s1 = some (r, h9)) : J (d + 1) YX12_locked 26 [.ref v0, .int v1, .int v2, Value.null] [.int s1, .ref s0] h (oI r) h9 := by
  unfold MX12_locked_26 at H
  obtain ⟨g7, H⟩ := gd H
  obtain ⟨h8, e9, H⟩ := lt_el H
  refine J_pI 11 0 dX12_locked_26 g7 flX12_122 rfl rfl e9 ?_
  have c10 := ekI e9
  have c11 := elI e9
  have c12 := epI e9
  refine J_aload_n 0 dX12_locked_29 rfl rfl ?_
  obtain ⟨g13, H⟩ := gd H
  refine J_getI 11 0 dX12_locked_30 (kq c10 g13) flX12_122 rfl ?_
  refine J_if_le 38 dX12_locked_33 rfl (fun q14 => ?_) (fun q14 => ?_)
  · replace H := br1 q14 H
    refine J_ldc (327382 : Int32) coX12_121 dX12_locked_38 ?_
    refine J_sipush (185 : Int32) dX12_locked_40 ks_185 ?_
    refine J_iload_n 1 dX12_locked_43 rfl rfl ?_
    refine J_imul dX12_locked_44 ?_
    refine J_iadd dX12_locked_45 ?_
    refine J_istore_n 3 dX12_locked_46 rfl (by decide) (ls' := [.ref v0, .int v1, .int v2, .int ((327382 : Int32) + ((185 : Int32) * v1))]) rfl ?_
    refine J_iload_n 2 dX12_locked_47 rfl rfl ?_
    refine J_if_ne 62 dX12_locked_48 rfl (fun q15 => ?_) (fun q15 => ?_)
    · replace H := br0 q15 H
      refine J_iload_n 2 dX12_locked_62 rfl rfl ?_
      refine J_iconst (1 : Int32) dX12_locked_63 kc_1 ?_
      refine J_icmp_ne 78 dX12_locked_64 rfl (fun q16 => ?_) (fun q16 => ?_)
      · replace H := br0 q16 H
        refine J_iload_n 2 dX12_locked_78 rfl rfl ?_
        refine J_iconst (2 : Int32) dX12_locked_79 kc_2 ?_
        refine J_icmp_ne 94 dX12_locked_80 rfl (fun q17 => ?_) (fun q17 => ?_)
        · replace H := br0 q17 H
          refine J_aload_n 0 dX12_locked_94 rfl rfl ?_
          refine J_gP 11 1 dX12_locked_95 (kq c10 g13) flX12_8 rfl (congrFun (congrFun c12 v0) 1) ?_
          refine J_iload_n 3 dX12_locked_98 rfl rfl ?_
          refine J_iload_n 2 dX12_locked_99 rfl rfl ?_
          refine J_iadd dX12_locked_100 ?_
          refine J_iconst (3 : Int32) dX12_locked_101 kc_3 ?_
          refine J_isub dX12_locked_102 ?_
          obtain ⟨g18, H⟩ := gd H
          obtain ⟨g19, H⟩ := gd H
          refine J_iald dX12_locked_103 (kq c10 g18) (lq c11 g19) ?_
          cases H
          exact J_iretI dX12_locked_104 rfl
        · replace H := br1 q17 H
          refine J_aload_n 0 dX12_locked_83 rfl rfl ?_
          refine J_gP 11 1 dX12_locked_84 (kq c10 g13) flX12_8 rfl (congrFun (congrFun c12 v0) 1) ?_
          refine J_iload_n 3 dX12_locked_87 rfl rfl ?_
          refine J_iconst (4 : Int32) dX12_locked_88 kc_4 ?_
          refine J_iadd dX12_locked_89 ?_
          obtain ⟨g20, H⟩ := gd H
          obtain ⟨g21, H⟩ := gd H
          refine J_iald dX12_locked_90 (kq c10 g20) (lq c11 g21) ?_
          refine J_goto 104 dX12_locked_91 rfl ?_
          cases H
          exact J_iretI dX12_locked_104 rfl
      · replace H := br1 q16 H
        refine J_aload_n 0 dX12_locked_67 rfl rfl ?_
        refine J_gP 11 1 dX12_locked_68 (kq c10 g13) flX12_8 rfl (congrFun (congrFun c12 v0) 1) ?_
        refine J_iload_n 3 dX12_locked_71 rfl rfl ?_
        refine J_iconst (3 : Int32) dX12_locked_72 kc_3 ?_
        refine J_iadd dX12_locked_73 ?_
        obtain ⟨g22, H⟩ := gd H
        obtain ⟨g23, H⟩ := gd H
        refine J_iald dX12_locked_74 (kq c10 g22) (lq c11 g23) ?_
        refine J_goto 104 dX12_locked_75 rfl ?_
        cases H
        exact J_iretI dX12_locked_104 rfl
    · replace H := br1 q15 H
      refine J_aload_n 0 dX12_locked_51 rfl rfl ?_
      refine J_gP 11 1 dX12_locked_52 (kq c10 g13) flX12_8 rfl (congrFun (congrFun c12 v0) 1) ?_
      refine J_iload_n 3 dX12_locked_55 rfl rfl ?_
      refine J_iconst (2 : Int32) dX12_locked_56 kc_2 ?_
      refine J_iadd dX12_locked_57 ?_
      obtain ⟨g24, H⟩ := gd H
      obtain ⟨g25, H⟩ := gd H
      refine J_iald dX12_locked_58 (kq c10 g24) (lq c11 g25) ?_
      refine J_goto 104 dX12_locked_59 rfl ?_
      cases H
      exact J_iretI dX12_locked_104 rfl
  · replace H := br0 q14 H
    refine J_iconst (0 : Int32) dX12_locked_36 kc_0 ?_
    cases H
    exact J_iretI dX12_locked_37 rfl
noncomputable def MX12_locked (h : Hp) (v0 : Nat) (v1 : Int32) (v2 : Int32) : Option (Int32 × Hp) :=
  Option.bind (α := Int32) (β := (Int32 × Hp)) (MX12_isPage h v1) fun (t2 : Int32) =>
  if t2 = 0 then
    MX12_locked_26 h v0 v1 v2 v0 (1 : Int32)
  else
    Option.bind (α := Int32) (β := (Int32 × Hp)) (MX12_isIn h v2 (0 : Int32) (4 : Int32)) fun (t5 : Int32) =>
    if t5 = 0 then
      MX12_locked_26 h v0 v1 v2 v0 (2 : Int32)
    else
      MX12_locked_26 h v0 v1 v2 v0 (0 : Int32)
set_option maxRecDepth 100000 in
set_option maxHeartbeats 8000000 in
theorem eX12_locked {d : Nat} {h : Hp} {v0 : Nat} {v1 : Int32} {v2 : Int32} {r : Int32} {h9 : Hp} (H : MX12_locked h v0 v1 v2 = some (r, h9)) : J (d + 1) YX12_locked 0 [.ref v0, .int v1, .int v2, Value.null] [] h (oI r) h9 := by
  unfold MX12_locked at H
  refine J_aload_n 0 dX12_locked_0 rfl rfl ?_
  refine J_iload_n 1 dX12_locked_1 rfl rfl ?_
  obtain ⟨t2, e1, H⟩ := bd H
  refine J_cS (as := [.int v1]) YX12_isPage 1 dX12_locked_2 moX12_isPage msX12_isPage mlX12_418 (okX12_isPage (d := d) e1) rfl rfl [.ref v0] rfl rfl (st2 := [.int t2, .ref v0]) rfl ?_
  refine J_if_ne 12 dX12_locked_5 rfl (fun q3 => ?_) (fun q3 => ?_)
  · replace H := br0 q3 H
    refine J_iload_n 2 dX12_locked_12 rfl rfl ?_
    refine J_iconst (0 : Int32) dX12_locked_13 kc_0 ?_
    refine J_iconst (4 : Int32) dX12_locked_14 kc_4 ?_
    obtain ⟨t5, e4, H⟩ := bd H
    refine J_cS (as := [.int v2, .int (0 : Int32), .int (4 : Int32)]) YX12_isIn 3 dX12_locked_15 moX12_isIn msX12_isIn mlX12_157 (okX12_isIn (d := d) e4) rfl rfl [.ref v0] rfl rfl (st2 := [.int t5, .ref v0]) rfl ?_
    refine J_if_ne 25 dX12_locked_18 rfl (fun q6 => ?_) (fun q6 => ?_)
    · replace H := br0 q6 H
      refine J_iconst (0 : Int32) dX12_locked_25 kc_0 ?_
      exact J_dr (kX12_locked_26 H ) ⟨rfl, ⟨rfl, ⟨rfl, trivial⟩⟩⟩
    · replace H := br1 q6 H
      refine J_iconst (2 : Int32) dX12_locked_21 kc_2 ?_
      refine J_goto 26 dX12_locked_22 rfl ?_
      exact J_dr (kX12_locked_26 H ) ⟨rfl, ⟨rfl, ⟨rfl, trivial⟩⟩⟩
  · replace H := br1 q3 H
    refine J_iconst (1 : Int32) dX12_locked_8 kc_1 ?_
    refine J_goto 26 dX12_locked_9 rfl ?_
    exact J_dr (kX12_locked_26 H ) ⟨rfl, ⟨rfl, ⟨rfl, trivial⟩⟩⟩
theorem okX12_locked {d : Nat} {h : Hp} {v0 : Nat} {v1 : Int32} {v2 : Int32} {r : Int32} {h9 : Hp} (H : MX12_locked h v0 v1 v2 = some (r, h9)) : CT (d + 1) YX12_locked [.ref v0, .int v1, .int v2] h (oI r) h9 := CT_of (by decide +kernel) (Nat.le_of_ble_eq_true rfl) (eX12_locked H)
noncomputable def MX12_machine_88 (h : Hp) (v0 : Nat) (v2 : Int32) (v3 : Int32) : Option (Int32 × Hp) :=
  gg (β := (Int32 × Hp)) (kd h v0 = 11) <|
  gg (β := (Int32 × Hp)) (kd h (gP h v0 1) = 20) <|
  gg (β := (Int32 × Hp)) (inB (v3 + (27 : Int32)) (ln h (gP h v0 1)) = true) <|
  lt (α := Hp) (β := Option (Int32 × Hp)) (sI h (gP h v0 1) (v3 + (27 : Int32)).toNatClampNeg v2) fun (h20 : Hp) =>
  gg (β := (Int32 × Hp)) (inB (3 : Int32) (ln h (gP h v0 1)) = true) <|
  lt (α := Hp) (β := Option (Int32 × Hp)) (sI h20 (gP h v0 1) (3 : Int32).toNatClampNeg ((gI h20 (gP h v0 1) (3 : Int32).toNatClampNeg) + (1 : Int32))) fun (h26 : Hp) =>
  some (((gI h26 (gP h v0 1) (3 : Int32).toNatClampNeg) - (1 : Int32)), h26)
set_option maxRecDepth 100000 in
set_option maxHeartbeats 8000000 in
theorem kX12_machine_88 {d : Nat} {h : Hp} {v0 : Nat} {v2 : Int32} {v3 : Int32} {r : Int32} {h9 : Hp} (H : MX12_machine_88 h v0 v2 v3 = some (r, h9)) : J (d + 1) YX12_machine 88 [.ref v0, Value.null, .int v2, .int v3, Value.null] [] h (oI r) h9 := by
  unfold MX12_machine_88 at H
  refine J_aload_n 0 dX12_machine_88 rfl rfl ?_
  obtain ⟨g17, H⟩ := gd H
  refine J_gP 11 1 dX12_machine_89 g17 flX12_8 rfl rfl ?_
  refine J_iload_n 3 dX12_machine_92 rfl rfl ?_
  refine J_bipush (27 : Int32) dX12_machine_93 kb_27 ?_
  refine J_iadd dX12_machine_95 ?_
  refine J_iload_n 2 dX12_machine_96 rfl rfl ?_
  obtain ⟨g18, H⟩ := gd H
  obtain ⟨g19, H⟩ := gd H
  obtain ⟨h20, e21, H⟩ := lt_el H
  refine J_sI dX12_machine_97 g18 (inB_ok g19) e21 ?_
  have c22 := ekI e21
  have c23 := elI e21
  have c24 := epI e21
  refine J_aload_n 0 dX12_machine_98 rfl rfl ?_
  refine J_gP 11 1 dX12_machine_99 (kq c22 g17) flX12_8 rfl (congrFun (congrFun c24 v0) 1) ?_
  refine J_iconst (3 : Int32) dX12_machine_102 kc_3 ?_
  refine J_dup2 dX12_machine_103 rfl rfl ?_
  obtain ⟨g25, H⟩ := gd H
  refine J_iald dX12_machine_104 (kq c22 g18) (lq c23 g25) ?_
  refine J_iconst (1 : Int32) dX12_machine_105 kc_1 ?_
  refine J_iadd dX12_machine_106 ?_
  obtain ⟨h26, e27, H⟩ := lt_el H
  refine J_sI dX12_machine_107 (kq c22 g18) (lq c23 g25) e27 ?_
  have c28 := (ekI e27).trans c22
  have c29 := (elI e27).trans c23
  have c30 := (epI e27).trans c24
  refine J_aload_n 0 dX12_machine_108 rfl rfl ?_
  refine J_gP 11 1 dX12_machine_109 (kq c28 g17) flX12_8 rfl (congrFun (congrFun c30 v0) 1) ?_
  refine J_iconst (3 : Int32) dX12_machine_112 kc_3 ?_
  refine J_iald dX12_machine_113 (kq c28 g18) (lq c29 g25) ?_
  refine J_iconst (1 : Int32) dX12_machine_114 kc_1 ?_
  refine J_isub dX12_machine_115 ?_
  cases H
  exact J_iretI dX12_machine_116 rfl
noncomputable def BX12_machine_65 (h : Hp) (v0 : Nat) (v1 : Int32) (v2 : Int32) (v3 : Int32) (v4 : Int32) : Option ((Int32 × Hp) ⊕ (Int32 × Hp)) :=
  if (27 : Int32) ≤ v4 then
    up1 (MX12_machine_88 h v0 v2 v3)
  else
    gg (β := ((Int32 × Hp) ⊕ (Int32 × Hp))) (kd h v0 = 11) <|
    gg (β := ((Int32 × Hp) ⊕ (Int32 × Hp))) (kd h (gP h v0 1) = 20) <|
    gg (β := ((Int32 × Hp) ⊕ (Int32 × Hp))) (inB (v3 + v4) (ln h (gP h v0 1)) = true) <|
    lt (α := Hp) (β := Option ((Int32 × Hp) ⊕ (Int32 × Hp))) (sI h (gP h v0 1) (v3 + v4).toNatClampNeg v1) fun (h34 : Hp) =>
    some (.inl ((v4 + (1 : Int32)), h34))
set_option maxRecDepth 100000 in
set_option maxHeartbeats 8000000 in
theorem bX12_machine_65 {d : Nat} {h : Hp} {v0 : Nat} {v1 : Int32} {v2 : Int32} {v3 : Int32} {v4 : Int32} {r : Int32} {h9 : Hp} {x : ((Int32 × Hp) ⊕ (Int32 × Hp))} (H : BX12_machine_65 h v0 v1 v2 v3 v4 = some x) (hb0 : ∀ s : Int32 × Hp, x = .inl s → J (d + 1) YX12_machine 65 [.ref v0, .int v1, .int v2, .int v3, .int s.1] [] s.2 (oI r) h9) (hx : ∀ z : (Int32 × Hp), x = .inr (z) → z = (r, h9)) : J (d + 1) YX12_machine 65 [.ref v0, .int v1, .int v2, .int v3, .int v4] [] h (oI r) h9 := by
  unfold BX12_machine_65 at H
  refine J_iload dX12_machine_65 rfl ?_
  refine J_bipush (27 : Int32) dX12_machine_67 kb_27 ?_
  refine J_icmp_ge 88 dX12_machine_69 rfl (fun q16 => ?_) (fun q16 => ?_)
  · replace H := br1 q16 H
    obtain ⟨y0, H90, rfl⟩ := up1_el H
    replace H := H90
    obtain rfl := hx _ rfl
    exact J_dr (kX12_machine_88 H ) ⟨rfl, ⟨rfl, ⟨rfl, trivial⟩⟩⟩
  · replace H := br0 q16 H
    refine J_aload_n 0 dX12_machine_72 rfl rfl ?_
    obtain ⟨g31, H⟩ := gd H
    refine J_gP 11 1 dX12_machine_73 g31 flX12_8 rfl rfl ?_
    refine J_iload_n 3 dX12_machine_76 rfl rfl ?_
    refine J_iload dX12_machine_77 rfl ?_
    refine J_iadd dX12_machine_79 ?_
    refine J_iload_n 1 dX12_machine_80 rfl rfl ?_
    obtain ⟨g32, H⟩ := gd H
    obtain ⟨g33, H⟩ := gd H
    obtain ⟨h34, e35, H⟩ := lt_el H
    refine J_sI dX12_machine_81 g32 (inB_ok g33) e35 ?_
    have c36 := ekI e35
    have c37 := elI e35
    have c38 := epI e35
    refine J_iinc (v4 + (1 : Int32)) dX12_machine_82 rfl (congrArg (HAdd.hAdd v4) kc_1) (by decide) (ls' := [.ref v0, .int v1, .int v2, .int v3, .int (v4 + (1 : Int32))]) rfl ?_
    refine J_goto 65 dX12_machine_85 rfl ?_
    cases H
    exact J_dr (hb0 _ rfl) ⟨rfl, ⟨rfl, ⟨rfl, ⟨rfl, ⟨rfl, trivial⟩⟩⟩⟩⟩
noncomputable def MX12_machine_65 (h : Hp) (v0 : Nat) (v1 : Int32) (v2 : Int32) (v3 : Int32) (v4 : Int32) : Option (Int32 × Hp) := it (fun q : Int32 × Hp => BX12_machine_65 q.2 v0 v1 v2 v3 q.1) (v4, h)
set_option maxRecDepth 100000 in
set_option maxHeartbeats 8000000 in
theorem kX12_machine_65 {d : Nat} {h : Hp} {v0 : Nat} {v1 : Int32} {v2 : Int32} {v3 : Int32} {v4 : Int32} {r : Int32} {h9 : Hp} (H : MX12_machine_65 h v0 v1 v2 v3 v4 = some (r, h9)) : J (d + 1) YX12_machine 65 [.ref v0, .int v1, .int v2, .int v3, .int v4] [] h (oI r) h9 := by
  unfold MX12_machine_65 at H
  refine it_J (G := (fun q : Int32 × Hp => J (d + 1) YX12_machine 65 [.ref v0, .int v1, .int v2, .int v3, .int q.1] [] q.2 (oI r) h9)) (Q := (fun y : (Int32 × Hp) => y = (r, h9))) (fun q x Hq hm => ?_) H rfl
  exact bX12_machine_65 Hq (fun s hs => by subst hs; exact hm) (fun z hz => by subst hz; exact hm)
noncomputable def MX12_machine_40 (h : Hp) (v0 : Nat) (v1 : Int32) (v2 : Int32) (s0 : Nat) (s1 : Int32) : Option (Int32 × Hp) :=
  gg (β := (Int32 × Hp)) (kd h s0 = 11) <|
  lt (α := Hp) (β := Option (Int32 × Hp)) (sI h s0 0 s1) fun (h5 : Hp) =>
  gg (β := (Int32 × Hp)) (kd h v0 = 11) <|
  if (gI h5 v0 0) ≤ 0 then
    gg (β := (Int32 × Hp)) (kd h (gP h v0 1) = 20) <|
    gg (β := (Int32 × Hp)) (inB (3 : Int32) (ln h (gP h v0 1)) = true) <|
    Option.bind (α := Int32) (β := (Int32 × Hp)) (MX12_machine0 h5 (gI h5 (gP h v0 1) (3 : Int32).toNatClampNeg)) fun (t15 : Int32) =>
    MX12_machine_65 h5 v0 v1 v2 t15 (0 : Int32)
  else
    some ((0 : Int32), h5)
set_option maxRecDepth 100000 in
set_option maxHeartbeats 8000000 in
theorem kX12_machine_40 {d : Nat} {h : Hp} {v0 : Nat} {v1 : Int32} {v2 : Int32} {s0 : Nat} {s1 : Int32} {r : Int32} {h9 : Hp} (H : MX12_machine_40 h v0 v1 v2 s0 s1 = some (r, h9)) : J (d + 1) YX12_machine 40 [.ref v0, .int v1, .int v2, Value.null, Value.null] [.int s1, .ref s0] h (oI r) h9 := by
  unfold MX12_machine_40 at H
  obtain ⟨g4, H⟩ := gd H
  obtain ⟨h5, e6, H⟩ := lt_el H
  refine J_pI 11 0 dX12_machine_40 g4 flX12_122 rfl rfl e6 ?_
  have c7 := ekI e6
  have c8 := elI e6
  have c9 := epI e6
  refine J_aload_n 0 dX12_machine_43 rfl rfl ?_
  obtain ⟨g10, H⟩ := gd H
  refine J_getI 11 0 dX12_machine_44 (kq c7 g10) flX12_122 rfl ?_
  refine J_if_le 52 dX12_machine_47 rfl (fun q11 => ?_) (fun q11 => ?_)
  · replace H := br1 q11 H
    refine J_aload_n 0 dX12_machine_52 rfl rfl ?_
    refine J_gP 11 1 dX12_machine_53 (kq c7 g10) flX12_8 rfl (congrFun (congrFun c9 v0) 1) ?_
    refine J_iconst (3 : Int32) dX12_machine_56 kc_3 ?_
    obtain ⟨g12, H⟩ := gd H
    obtain ⟨g13, H⟩ := gd H
    refine J_iald dX12_machine_57 (kq c7 g12) (lq c8 g13) ?_
    obtain ⟨t15, e14, H⟩ := bd H
    refine J_cS (as := [.int (gI h5 (gP h v0 1) (3 : Int32).toNatClampNeg)]) YX12_machine0 1 dX12_machine_58 moX12_machine0 msX12_machine0 mlX12_360 (okX12_machine0 (d := d) e14) rfl rfl [] rfl rfl (st2 := [.int t15]) rfl ?_
    refine J_istore_n 3 dX12_machine_61 rfl (by decide) (ls' := [.ref v0, .int v1, .int v2, .int t15, Value.null]) rfl ?_
    refine J_iconst (0 : Int32) dX12_machine_62 kc_0 ?_
    refine J_istore dX12_machine_63 (by decide) (ls' := [.ref v0, .int v1, .int v2, .int t15, .int (0 : Int32)]) rfl ?_
    exact J_dr (kX12_machine_65 H ) ⟨rfl, ⟨rfl, ⟨rfl, ⟨rfl, ⟨rfl, trivial⟩⟩⟩⟩⟩
  · replace H := br0 q11 H
    refine J_iconst (0 : Int32) dX12_machine_50 kc_0 ?_
    cases H
    exact J_iretI dX12_machine_51 rfl
noncomputable def MX12_machine_21 (h : Hp) (v0 : Nat) (v1 : Int32) (v2 : Int32) (s0 : Nat) : Option (Int32 × Hp) :=
  MX12_machine_40 h v0 v1 v2 s0 (1 : Int32)
set_option maxRecDepth 100000 in
set_option maxHeartbeats 8000000 in
theorem kX12_machine_21 {d : Nat} {h : Hp} {v0 : Nat} {v1 : Int32} {v2 : Int32} {s0 : Nat} {r : Int32} {h9 : Hp} (H : MX12_machine_21 h v0 v1 v2 s0 = some (r, h9)) : J (d + 1) YX12_machine 21 [.ref v0, .int v1, .int v2, Value.null, Value.null] [.ref s0] h (oI r) h9 := by
  unfold MX12_machine_21 at H
  refine J_iconst (1 : Int32) dX12_machine_21 kc_1 ?_
  refine J_goto 40 dX12_machine_22 rfl ?_
  exact J_dr (kX12_machine_40 H ) ⟨rfl, ⟨rfl, ⟨rfl, trivial⟩⟩⟩
noncomputable def MX12_machine (h : Hp) (v0 : Nat) (v1 : Int32) (v2 : Int32) : Option (Int32 × Hp) :=
  Option.bind (α := Int32) (β := (Int32 × Hp)) (MX12_isIn h v1 (0 : Int32) (40 : Int32)) fun (t2 : Int32) =>
  if t2 = 0 then
    MX12_machine_21 h v0 v1 v2 v0
  else
    Option.bind (α := Int32) (β := (Int32 × Hp)) (MX12_isIn h v2 (0 : Int32) (9 : Int32)) fun (t40 : Int32) =>
    if t40 = 0 then
      MX12_machine_21 h v0 v1 v2 v0
    else
      gg (β := (Int32 × Hp)) (kd h v0 = 11) <|
      gg (β := (Int32 × Hp)) (kd h (gP h v0 1) = 20) <|
      gg (β := (Int32 × Hp)) (inB (3 : Int32) (ln h (gP h v0 1)) = true) <|
      if (gI h (gP h v0 1) (3 : Int32).toNatClampNeg) = (4 : Int32) then
        MX12_machine_40 h v0 v1 v2 v0 (2 : Int32)
      else
        MX12_machine_40 h v0 v1 v2 v0 (0 : Int32)
set_option maxRecDepth 100000 in
set_option maxHeartbeats 8000000 in
theorem eX12_machine {d : Nat} {h : Hp} {v0 : Nat} {v1 : Int32} {v2 : Int32} {r : Int32} {h9 : Hp} (H : MX12_machine h v0 v1 v2 = some (r, h9)) : J (d + 1) YX12_machine 0 [.ref v0, .int v1, .int v2, Value.null, Value.null] [] h (oI r) h9 := by
  unfold MX12_machine at H
  refine J_aload_n 0 dX12_machine_0 rfl rfl ?_
  refine J_iload_n 1 dX12_machine_1 rfl rfl ?_
  refine J_iconst (0 : Int32) dX12_machine_2 kc_0 ?_
  refine J_bipush (40 : Int32) dX12_machine_3 kb_40 ?_
  obtain ⟨t2, e1, H⟩ := bd H
  refine J_cS (as := [.int v1, .int (0 : Int32), .int (40 : Int32)]) YX12_isIn 3 dX12_machine_5 moX12_isIn msX12_isIn mlX12_157 (okX12_isIn (d := d) e1) rfl rfl [.ref v0] rfl rfl (st2 := [.int t2, .ref v0]) rfl ?_
  refine J_if_eq 21 dX12_machine_8 rfl (fun q3 => ?_) (fun q3 => ?_)
  · replace H := br1 q3 H
    exact J_dr (kX12_machine_21 H ) ⟨rfl, ⟨rfl, ⟨rfl, trivial⟩⟩⟩
  · replace H := br0 q3 H
    refine J_iload_n 2 dX12_machine_11 rfl rfl ?_
    refine J_iconst (0 : Int32) dX12_machine_12 kc_0 ?_
    refine J_bipush (9 : Int32) dX12_machine_13 kb_9 ?_
    obtain ⟨t40, e39, H⟩ := bd H
    refine J_cS (as := [.int v2, .int (0 : Int32), .int (9 : Int32)]) YX12_isIn 3 dX12_machine_15 moX12_isIn msX12_isIn mlX12_157 (okX12_isIn (d := d) e39) rfl rfl [.ref v0] rfl rfl (st2 := [.int t40, .ref v0]) rfl ?_
    refine J_if_ne 25 dX12_machine_18 rfl (fun q41 => ?_) (fun q41 => ?_)
    · replace H := br0 q41 H
      refine J_aload_n 0 dX12_machine_25 rfl rfl ?_
      obtain ⟨g42, H⟩ := gd H
      refine J_gP 11 1 dX12_machine_26 g42 flX12_8 rfl rfl ?_
      refine J_iconst (3 : Int32) dX12_machine_29 kc_3 ?_
      obtain ⟨g43, H⟩ := gd H
      obtain ⟨g44, H⟩ := gd H
      refine J_iald dX12_machine_30 g43 (inB_ok g44) ?_
      refine J_iconst (4 : Int32) dX12_machine_31 kc_4 ?_
      refine J_icmp_ne 39 dX12_machine_32 rfl (fun q45 => ?_) (fun q45 => ?_)
      · replace H := br0 q45 H
        refine J_iconst (0 : Int32) dX12_machine_39 kc_0 ?_
        exact J_dr (kX12_machine_40 H ) ⟨rfl, ⟨rfl, ⟨rfl, trivial⟩⟩⟩
      · replace H := br1 q45 H
        refine J_iconst (2 : Int32) dX12_machine_35 kc_2 ?_
        refine J_goto 40 dX12_machine_36 rfl ?_
        exact J_dr (kX12_machine_40 H ) ⟨rfl, ⟨rfl, ⟨rfl, trivial⟩⟩⟩
    · replace H := br1 q41 H
      exact J_dr (kX12_machine_21 H ) ⟨rfl, ⟨rfl, ⟨rfl, trivial⟩⟩⟩
theorem okX12_machine {d : Nat} {h : Hp} {v0 : Nat} {v1 : Int32} {v2 : Int32} {r : Int32} {h9 : Hp} (H : MX12_machine h v0 v1 v2 = some (r, h9)) : CT (d + 1) YX12_machine [.ref v0, .int v1, .int v2] h (oI r) h9 := CT_of (by decide +kernel) (Nat.le_of_ble_eq_true rfl) (eX12_machine H)
noncomputable def MX12_minutes_57 (h : Hp) (v0 : Nat) : Option (Int32 × Hp) :=
  gg (β := (Int32 × Hp)) (kd h v0 = 11) <|
  gg (β := (Int32 × Hp)) (kd h (gP h v0 1) = 20) <|
  gg (β := (Int32 × Hp)) (inB (0 : Int32) (ln h (gP h v0 1)) = true) <|
  some ((gI h (gP h v0 1) (0 : Int32).toNatClampNeg), h)
set_option maxRecDepth 100000 in
set_option maxHeartbeats 8000000 in
theorem kX12_minutes_57 {d : Nat} {h : Hp} {v0 : Nat} {r : Int32} {h9 : Hp} (H : MX12_minutes_57 h v0 = some (r, h9)) : J (d + 7) YX12_minutes 57 [.ref v0, Value.null, Value.null] [] h (oI r) h9 := by
  unfold MX12_minutes_57 at H
  refine J_aload_n 0 dX12_minutes_57 rfl rfl ?_
  obtain ⟨g13, H⟩ := gd H
  refine J_gP 11 1 dX12_minutes_58 g13 flX12_8 rfl rfl ?_
  refine J_iconst (0 : Int32) dX12_minutes_61 kc_0 ?_
  obtain ⟨g14, H⟩ := gd H
  obtain ⟨g15, H⟩ := gd H
  refine J_iald dX12_minutes_62 g14 (inB_ok g15) ?_
  cases H
  exact J_iretI dX12_minutes_63 rfl
noncomputable def BX12_minutes_30 (h : Hp) (v0 : Nat) (v1 : Int32) (v2 : Int32) : Option ((Int32 × Hp) ⊕ (Int32 × Hp)) :=
  if v1 ≤ v2 then
    up1 (MX12_minutes_57 h v0)
  else
    gg (β := ((Int32 × Hp) ⊕ (Int32 × Hp))) (kd h v0 = 11) <|
    gg (β := ((Int32 × Hp) ⊕ (Int32 × Hp))) (kd h (gP h v0 1) = 20) <|
    gg (β := ((Int32 × Hp) ⊕ (Int32 × Hp))) (inB (0 : Int32) (ln h (gP h v0 1)) = true) <|
    if (600 : Int32) ≤ (gI h (gP h v0 1) (0 : Int32).toNatClampNeg) then
      up1 (MX12_minutes_57 h v0)
    else
      Option.bind (α := Hp) (β := ((Int32 × Hp) ⊕ (Int32 × Hp))) (MX12_minute h v0) fun (h21 : Hp) =>
      some (.inl ((v2 + (1 : Int32)), h21))
set_option maxRecDepth 100000 in
set_option maxHeartbeats 8000000 in
theorem bX12_minutes_30 {d : Nat} {h : Hp} {v0 : Nat} {v1 : Int32} {v2 : Int32} {r : Int32} {h9 : Hp} {x : ((Int32 × Hp) ⊕ (Int32 × Hp))} (H : BX12_minutes_30 h v0 v1 v2 = some x) (hb0 : ∀ s : Int32 × Hp, x = .inl s → J (d + 7) YX12_minutes 30 [.ref v0, .int v1, .int s.1] [] s.2 (oI r) h9) (hx : ∀ z : (Int32 × Hp), x = .inr (z) → z = (r, h9)) : J (d + 7) YX12_minutes 30 [.ref v0, .int v1, .int v2] [] h (oI r) h9 := by
  unfold BX12_minutes_30 at H
  refine J_iload_n 2 dX12_minutes_30 rfl rfl ?_
  refine J_iload_n 1 dX12_minutes_31 rfl rfl ?_
  refine J_icmp_ge 57 dX12_minutes_32 rfl (fun q12 => ?_) (fun q12 => ?_)
  · replace H := br1 q12 H
    obtain ⟨y0, H90, rfl⟩ := up1_el H
    replace H := H90
    obtain rfl := hx _ rfl
    exact J_dr (kX12_minutes_57 H ) ⟨rfl, trivial⟩
  · replace H := br0 q12 H
    refine J_aload_n 0 dX12_minutes_35 rfl rfl ?_
    obtain ⟨g16, H⟩ := gd H
    refine J_gP 11 1 dX12_minutes_36 g16 flX12_8 rfl rfl ?_
    refine J_iconst (0 : Int32) dX12_minutes_39 kc_0 ?_
    obtain ⟨g17, H⟩ := gd H
    obtain ⟨g18, H⟩ := gd H
    refine J_iald dX12_minutes_40 g17 (inB_ok g18) ?_
    refine J_sipush (600 : Int32) dX12_minutes_41 ks_600 ?_
    refine J_icmp_ge 57 dX12_minutes_44 rfl (fun q19 => ?_) (fun q19 => ?_)
    · replace H := br1 q19 H
      obtain ⟨y0, H90, rfl⟩ := up1_el H
      replace H := H90
      obtain rfl := hx _ rfl
      exact J_dr (kX12_minutes_57 H ) ⟨rfl, trivial⟩
    · replace H := br0 q19 H
      refine J_aload_n 0 dX12_minutes_47 rfl rfl ?_
      obtain ⟨h21, e20, H⟩ := bd H
      refine J_cV (as := []) 11 YX12_minute 0 dX12_minutes_48 moX12_minute mvX12_minute mlX12_394 g16 rfl rfl (okX12_minute (d := d) e20) rfl rfl [] rfl rfl (st2 := []) rfl ?_
      refine J_iinc (v2 + (1 : Int32)) dX12_minutes_51 rfl (congrArg (HAdd.hAdd v2) kc_1) (by decide) (ls' := [.ref v0, .int v1, .int (v2 + (1 : Int32))]) rfl ?_
      refine J_goto 30 dX12_minutes_54 rfl ?_
      cases H
      exact J_dr (hb0 _ rfl) ⟨rfl, ⟨rfl, ⟨rfl, trivial⟩⟩⟩
noncomputable def MX12_minutes_30 (h : Hp) (v0 : Nat) (v1 : Int32) (v2 : Int32) : Option (Int32 × Hp) := it (fun q : Int32 × Hp => BX12_minutes_30 q.2 v0 v1 q.1) (v2, h)
set_option maxRecDepth 100000 in
set_option maxHeartbeats 8000000 in
theorem kX12_minutes_30 {d : Nat} {h : Hp} {v0 : Nat} {v1 : Int32} {v2 : Int32} {r : Int32} {h9 : Hp} (H : MX12_minutes_30 h v0 v1 v2 = some (r, h9)) : J (d + 7) YX12_minutes 30 [.ref v0, .int v1, .int v2] [] h (oI r) h9 := by
  unfold MX12_minutes_30 at H
  refine it_J (G := (fun q : Int32 × Hp => J (d + 7) YX12_minutes 30 [.ref v0, .int v1, .int q.1] [] q.2 (oI r) h9)) (Q := (fun y : (Int32 × Hp) => y = (r, h9))) (fun q x Hq hm => ?_) H rfl
  exact bX12_minutes_30 Hq (fun s hs => by subst hs; exact hm) (fun z hz => by subst hz; exact hm)
noncomputable def MX12_minutes_16 (h : Hp) (v0 : Nat) (v1 : Int32) (s0 : Nat) (s1 : Int32) : Option (Int32 × Hp) :=
  gg (β := (Int32 × Hp)) (kd h s0 = 11) <|
  lt (α := Hp) (β := Option (Int32 × Hp)) (sI h s0 0 s1) fun (h5 : Hp) =>
  gg (β := (Int32 × Hp)) (kd h v0 = 11) <|
  if (gI h5 v0 0) ≤ 0 then
    MX12_minutes_30 h5 v0 v1 (0 : Int32)
  else
    some ((0 : Int32), h5)
set_option maxRecDepth 100000 in
set_option maxHeartbeats 8000000 in
theorem kX12_minutes_16 {d : Nat} {h : Hp} {v0 : Nat} {v1 : Int32} {s0 : Nat} {s1 : Int32} {r : Int32} {h9 : Hp} (H : MX12_minutes_16 h v0 v1 s0 s1 = some (r, h9)) : J (d + 7) YX12_minutes 16 [.ref v0, .int v1, Value.null] [.int s1, .ref s0] h (oI r) h9 := by
  unfold MX12_minutes_16 at H
  obtain ⟨g4, H⟩ := gd H
  obtain ⟨h5, e6, H⟩ := lt_el H
  refine J_pI 11 0 dX12_minutes_16 g4 flX12_122 rfl rfl e6 ?_
  have c7 := ekI e6
  have c8 := elI e6
  have c9 := epI e6
  refine J_aload_n 0 dX12_minutes_19 rfl rfl ?_
  obtain ⟨g10, H⟩ := gd H
  refine J_getI 11 0 dX12_minutes_20 (kq c7 g10) flX12_122 rfl ?_
  refine J_if_le 28 dX12_minutes_23 rfl (fun q11 => ?_) (fun q11 => ?_)
  · replace H := br1 q11 H
    refine J_iconst (0 : Int32) dX12_minutes_28 kc_0 ?_
    refine J_istore_n 2 dX12_minutes_29 rfl (by decide) (ls' := [.ref v0, .int v1, .int (0 : Int32)]) rfl ?_
    exact J_dr (kX12_minutes_30 H ) ⟨rfl, ⟨rfl, ⟨rfl, trivial⟩⟩⟩
  · replace H := br0 q11 H
    refine J_iconst (0 : Int32) dX12_minutes_26 kc_0 ?_
    cases H
    exact J_iretI dX12_minutes_27 rfl
noncomputable def MX12_minutes (h : Hp) (v0 : Nat) (v1 : Int32) : Option (Int32 × Hp) :=
  Option.bind (α := Int32) (β := (Int32 × Hp)) (MX12_isIn h v1 (0 : Int32) (120 : Int32)) fun (t2 : Int32) =>
  if t2 = 0 then
    MX12_minutes_16 h v0 v1 v0 (1 : Int32)
  else
    MX12_minutes_16 h v0 v1 v0 (0 : Int32)
set_option maxRecDepth 100000 in
set_option maxHeartbeats 8000000 in
theorem eX12_minutes {d : Nat} {h : Hp} {v0 : Nat} {v1 : Int32} {r : Int32} {h9 : Hp} (H : MX12_minutes h v0 v1 = some (r, h9)) : J (d + 7) YX12_minutes 0 [.ref v0, .int v1, Value.null] [] h (oI r) h9 := by
  unfold MX12_minutes at H
  refine J_aload_n 0 dX12_minutes_0 rfl rfl ?_
  refine J_iload_n 1 dX12_minutes_1 rfl rfl ?_
  refine J_iconst (0 : Int32) dX12_minutes_2 kc_0 ?_
  refine J_bipush (120 : Int32) dX12_minutes_3 kb_120 ?_
  obtain ⟨t2, e1, H⟩ := bd H
  refine J_cS (as := [.int v1, .int (0 : Int32), .int (120 : Int32)]) YX12_isIn 3 dX12_minutes_5 moX12_isIn msX12_isIn mlX12_157 (okX12_isIn (d := d + 6) e1) rfl rfl [.ref v0] rfl rfl (st2 := [.int t2, .ref v0]) rfl ?_
  refine J_if_ne 15 dX12_minutes_8 rfl (fun q3 => ?_) (fun q3 => ?_)
  · replace H := br0 q3 H
    refine J_iconst (0 : Int32) dX12_minutes_15 kc_0 ?_
    exact J_dr (kX12_minutes_16 H ) ⟨rfl, ⟨rfl, trivial⟩⟩
  · replace H := br1 q3 H
    refine J_iconst (1 : Int32) dX12_minutes_11 kc_1 ?_
    refine J_goto 16 dX12_minutes_12 rfl ?_
    exact J_dr (kX12_minutes_16 H ) ⟨rfl, ⟨rfl, trivial⟩⟩
theorem okX12_minutes {d : Nat} {h : Hp} {v0 : Nat} {v1 : Int32} {r : Int32} {h9 : Hp} (H : MX12_minutes h v0 v1 = some (r, h9)) : CT (d + 7) YX12_minutes [.ref v0, .int v1] h (oI r) h9 := CT_of (by decide +kernel) (Nat.le_of_ble_eq_true rfl) (eX12_minutes H)
noncomputable def MX12_page_36 (h : Hp) (v0 : Nat) (v1 : Int32) (v2 : Int32) (v3 : Int32) (s0 : Nat) (s1 : Int32) : Option Hp :=
  gg (β := Hp) (kd h s0 = 11) <|
  lt (α := Hp) (β := Option Hp) (sI h s0 0 s1) fun (h8 : Hp) =>
  gg (β := Hp) (kd h v0 = 11) <|
  if (gI h8 v0 0) ≤ 0 then
    gg (β := Hp) (kd h (gP h v0 1) = 20) <|
    gg (β := Hp) (inB ((327382 : Int32) + ((185 : Int32) * v1)) (ln h (gP h v0 1)) = true) <|
    lt (α := Hp) (β := Option Hp) (sI h8 (gP h v0 1) ((327382 : Int32) + ((185 : Int32) * v1)).toNatClampNeg v2) fun (h17 : Hp) =>
    gg (β := Hp) (inB (((327382 : Int32) + ((185 : Int32) * v1)) + (1 : Int32)) (ln h (gP h v0 1)) = true) <|
    lt (α := Hp) (β := Option Hp) (sI h17 (gP h v0 1) (((327382 : Int32) + ((185 : Int32) * v1)) + (1 : Int32)).toNatClampNeg v3) fun (h23 : Hp) =>
    some h23
  else
    some h8
set_option maxRecDepth 100000 in
set_option maxHeartbeats 8000000 in
theorem kX12_page_36 {d : Nat} {h : Hp} {v0 : Nat} {v1 : Int32} {v2 : Int32} {v3 : Int32} {s0 : Nat} {s1 : Int32} {h9 : Hp} (H : MX12_page_36 h v0 v1 v2 v3 s0 s1 = some h9) : J (d + 1) YX12_page 36 [.ref v0, .int v1, .int v2, .int v3] [.int s1, .ref s0] h oV h9 := by
  unfold MX12_page_36 at H
  obtain ⟨g7, H⟩ := gd H
  obtain ⟨h8, e9, H⟩ := lt_el H
  refine J_pI 11 0 dX12_page_36 g7 flX12_122 rfl rfl e9 ?_
  have c10 := ekI e9
  have c11 := elI e9
  have c12 := epI e9
  refine J_aload_n 0 dX12_page_39 rfl rfl ?_
  obtain ⟨g13, H⟩ := gd H
  refine J_getI 11 0 dX12_page_40 (kq c10 g13) flX12_122 rfl ?_
  refine J_if_le 47 dX12_page_43 rfl (fun q14 => ?_) (fun q14 => ?_)
  · replace H := br1 q14 H
    refine J_aload_n 0 dX12_page_47 rfl rfl ?_
    refine J_gP 11 1 dX12_page_48 (kq c10 g13) flX12_8 rfl (congrFun (congrFun c12 v0) 1) ?_
    refine J_ldc (327382 : Int32) coX12_121 dX12_page_51 ?_
    refine J_sipush (185 : Int32) dX12_page_53 ks_185 ?_
    refine J_iload_n 1 dX12_page_56 rfl rfl ?_
    refine J_imul dX12_page_57 ?_
    refine J_iadd dX12_page_58 ?_
    refine J_iload_n 2 dX12_page_59 rfl rfl ?_
    obtain ⟨g15, H⟩ := gd H
    obtain ⟨g16, H⟩ := gd H
    obtain ⟨h17, e18, H⟩ := lt_el H
    refine J_sI dX12_page_60 (kq c10 g15) (lq c11 g16) e18 ?_
    have c19 := (ekI e18).trans c10
    have c20 := (elI e18).trans c11
    have c21 := (epI e18).trans c12
    refine J_aload_n 0 dX12_page_61 rfl rfl ?_
    refine J_gP 11 1 dX12_page_62 (kq c19 g13) flX12_8 rfl (congrFun (congrFun c21 v0) 1) ?_
    refine J_ldc (327382 : Int32) coX12_121 dX12_page_65 ?_
    refine J_sipush (185 : Int32) dX12_page_67 ks_185 ?_
    refine J_iload_n 1 dX12_page_70 rfl rfl ?_
    refine J_imul dX12_page_71 ?_
    refine J_iadd dX12_page_72 ?_
    refine J_iconst (1 : Int32) dX12_page_73 kc_1 ?_
    refine J_iadd dX12_page_74 ?_
    refine J_iload_n 3 dX12_page_75 rfl rfl ?_
    obtain ⟨g22, H⟩ := gd H
    obtain ⟨h23, e24, H⟩ := lt_el H
    refine J_sI dX12_page_76 (kq c19 g15) (lq c20 g22) e24 ?_
    have c25 := (ekI e24).trans c19
    have c26 := (elI e24).trans c20
    have c27 := (epI e24).trans c21
    cases H
    exact J_ret dX12_page_77 rfl
  · replace H := br0 q14 H
    cases H
    exact J_ret dX12_page_46 rfl
noncomputable def MX12_page_31 (h : Hp) (v0 : Nat) (v1 : Int32) (v2 : Int32) (v3 : Int32) (s0 : Nat) : Option Hp :=
  MX12_page_36 h v0 v1 v2 v3 s0 (2 : Int32)
set_option maxRecDepth 100000 in
set_option maxHeartbeats 8000000 in
theorem kX12_page_31 {d : Nat} {h : Hp} {v0 : Nat} {v1 : Int32} {v2 : Int32} {v3 : Int32} {s0 : Nat} {h9 : Hp} (H : MX12_page_31 h v0 v1 v2 v3 s0 = some h9) : J (d + 1) YX12_page 31 [.ref v0, .int v1, .int v2, .int v3] [.ref s0] h oV h9 := by
  unfold MX12_page_31 at H
  refine J_iconst (2 : Int32) dX12_page_31 kc_2 ?_
  refine J_goto 36 dX12_page_32 rfl ?_
  exact J_dr (kX12_page_36 H ) ⟨rfl, ⟨rfl, ⟨rfl, ⟨rfl, trivial⟩⟩⟩⟩
noncomputable def MX12_page (h : Hp) (v0 : Nat) (v1 : Int32) (v2 : Int32) (v3 : Int32) : Option Hp :=
  Option.bind (α := Int32) (β := Hp) (MX12_isPage h v1) fun (t2 : Int32) =>
  if t2 = 0 then
    MX12_page_36 h v0 v1 v2 v3 v0 (1 : Int32)
  else
    Option.bind (α := Int32) (β := Hp) (MX12_isIn h v2 (1 : Int32) (3 : Int32)) fun (t5 : Int32) =>
    if t5 = 0 then
      MX12_page_31 h v0 v1 v2 v3 v0
    else
      Option.bind (α := Int32) (β := Hp) (MX12_isIn h v3 (1 : Int32) (60 : Int32)) fun (t29 : Int32) =>
      if t29 = 0 then
        MX12_page_31 h v0 v1 v2 v3 v0
      else
        MX12_page_36 h v0 v1 v2 v3 v0 (0 : Int32)
set_option maxRecDepth 100000 in
set_option maxHeartbeats 8000000 in
theorem eX12_page {d : Nat} {h : Hp} {v0 : Nat} {v1 : Int32} {v2 : Int32} {v3 : Int32} {h9 : Hp} (H : MX12_page h v0 v1 v2 v3 = some h9) : J (d + 1) YX12_page 0 [.ref v0, .int v1, .int v2, .int v3] [] h oV h9 := by
  unfold MX12_page at H
  refine J_aload_n 0 dX12_page_0 rfl rfl ?_
  refine J_iload_n 1 dX12_page_1 rfl rfl ?_
  obtain ⟨t2, e1, H⟩ := bd H
  refine J_cS (as := [.int v1]) YX12_isPage 1 dX12_page_2 moX12_isPage msX12_isPage mlX12_418 (okX12_isPage (d := d) e1) rfl rfl [.ref v0] rfl rfl (st2 := [.int t2, .ref v0]) rfl ?_
  refine J_if_ne 12 dX12_page_5 rfl (fun q3 => ?_) (fun q3 => ?_)
  · replace H := br0 q3 H
    refine J_iload_n 2 dX12_page_12 rfl rfl ?_
    refine J_iconst (1 : Int32) dX12_page_13 kc_1 ?_
    refine J_iconst (3 : Int32) dX12_page_14 kc_3 ?_
    obtain ⟨t5, e4, H⟩ := bd H
    refine J_cS (as := [.int v2, .int (1 : Int32), .int (3 : Int32)]) YX12_isIn 3 dX12_page_15 moX12_isIn msX12_isIn mlX12_157 (okX12_isIn (d := d) e4) rfl rfl [.ref v0] rfl rfl (st2 := [.int t5, .ref v0]) rfl ?_
    refine J_if_eq 31 dX12_page_18 rfl (fun q6 => ?_) (fun q6 => ?_)
    · replace H := br1 q6 H
      exact J_dr (kX12_page_31 H ) ⟨rfl, ⟨rfl, ⟨rfl, ⟨rfl, trivial⟩⟩⟩⟩
    · replace H := br0 q6 H
      refine J_iload_n 3 dX12_page_21 rfl rfl ?_
      refine J_iconst (1 : Int32) dX12_page_22 kc_1 ?_
      refine J_bipush (60 : Int32) dX12_page_23 kb_60 ?_
      obtain ⟨t29, e28, H⟩ := bd H
      refine J_cS (as := [.int v3, .int (1 : Int32), .int (60 : Int32)]) YX12_isIn 3 dX12_page_25 moX12_isIn msX12_isIn mlX12_157 (okX12_isIn (d := d) e28) rfl rfl [.ref v0] rfl rfl (st2 := [.int t29, .ref v0]) rfl ?_
      refine J_if_ne 35 dX12_page_28 rfl (fun q30 => ?_) (fun q30 => ?_)
      · replace H := br0 q30 H
        refine J_iconst (0 : Int32) dX12_page_35 kc_0 ?_
        exact J_dr (kX12_page_36 H ) ⟨rfl, ⟨rfl, ⟨rfl, ⟨rfl, trivial⟩⟩⟩⟩
      · replace H := br1 q30 H
        exact J_dr (kX12_page_31 H ) ⟨rfl, ⟨rfl, ⟨rfl, ⟨rfl, trivial⟩⟩⟩⟩
  · replace H := br1 q3 H
    refine J_iconst (1 : Int32) dX12_page_8 kc_1 ?_
    refine J_goto 36 dX12_page_9 rfl ?_
    exact J_dr (kX12_page_36 H ) ⟨rfl, ⟨rfl, ⟨rfl, ⟨rfl, trivial⟩⟩⟩⟩
theorem okX12_page {d : Nat} {h : Hp} {v0 : Nat} {v1 : Int32} {v2 : Int32} {v3 : Int32} {h9 : Hp} (H : MX12_page h v0 v1 v2 v3 = some h9) : CT (d + 1) YX12_page [.ref v0, .int v1, .int v2, .int v3] h oV h9 := CT_of (by decide +kernel) (Nat.le_of_ble_eq_true rfl) (eX12_page H)
noncomputable def MX12_part_268 (h : Hp) (v0 : Nat) (v1 : Int32) (v5 : Int32) (s0 : Int32) (s1 : Int32) : Option ((Int32 × Int32) ⊕ (Int32 × Hp)) :=
  some (.inl ((s0 + s1), (v5 + (1 : Int32))))
set_option maxRecDepth 100000 in
set_option maxHeartbeats 8000000 in
theorem kX12_part_268 {d : Nat} {h : Hp} {v0 : Nat} {v1 : Int32} {v5 : Int32} {s0 : Int32} {s1 : Int32} {r : Int32} {h9 : Hp} {x : ((Int32 × Int32) ⊕ (Int32 × Hp))} (H : MX12_part_268 h v0 v1 v5 s0 s1 = some x) (hb0 : ∀ s : Int32 × Int32, x = .inl s → J (d + 3) YX12_part 219 [.ref v0, .int v1, Value.null, Value.null, .int s.1, .int s.2] [] h (oI r) h9) (hx : ∀ z : (Int32 × Hp), x = .inr (z) → z = (r, h9)) : J (d + 3) YX12_part 268 [.ref v0, .int v1, Value.null, Value.null, Value.null, .int v5] [.int s1, .int s0] h (oI r) h9 := by
  unfold MX12_part_268 at H
  refine J_iadd dX12_part_268 ?_
  refine J_istore dX12_part_269 (by decide) (ls' := [.ref v0, .int v1, Value.null, Value.null, .int (s0 + s1), .int v5]) rfl ?_
  refine J_iinc (v5 + (1 : Int32)) dX12_part_271 rfl (congrArg (HAdd.hAdd v5) kc_1) (by decide) (ls' := [.ref v0, .int v1, Value.null, Value.null, .int (s0 + s1), .int (v5 + (1 : Int32))]) rfl ?_
  refine J_goto 219 dX12_part_274 rfl ?_
  cases H
  exact J_dr (hb0 _ rfl) ⟨rfl, ⟨rfl, ⟨rfl, ⟨rfl, trivial⟩⟩⟩⟩
noncomputable def MX12_part_267 (h : Hp) (v0 : Nat) (v1 : Int32) (v5 : Int32) (s0 : Int32) : Option ((Int32 × Int32) ⊕ (Int32 × Hp)) :=
  MX12_part_268 h v0 v1 v5 s0 (0 : Int32)
set_option maxRecDepth 100000 in
set_option maxHeartbeats 8000000 in
theorem kX12_part_267 {d : Nat} {h : Hp} {v0 : Nat} {v1 : Int32} {v5 : Int32} {s0 : Int32} {r : Int32} {h9 : Hp} {x : ((Int32 × Int32) ⊕ (Int32 × Hp))} (H : MX12_part_267 h v0 v1 v5 s0 = some x) (hb0 : ∀ s : Int32 × Int32, x = .inl s → J (d + 3) YX12_part 219 [.ref v0, .int v1, Value.null, Value.null, .int s.1, .int s.2] [] h (oI r) h9) (hx : ∀ z : (Int32 × Hp), x = .inr (z) → z = (r, h9)) : J (d + 3) YX12_part 267 [.ref v0, .int v1, Value.null, Value.null, Value.null, .int v5] [.int s0] h (oI r) h9 := by
  unfold MX12_part_267 at H
  refine J_iconst (0 : Int32) dX12_part_267 kc_0 ?_
  exact J_dr (kX12_part_268 H hb0 hx) ⟨rfl, ⟨rfl, ⟨rfl, trivial⟩⟩⟩
noncomputable def BX12_part_219 (h : Hp) (v0 : Nat) (v1 : Int32) (v4 : Int32) (v5 : Int32) : Option ((Int32 × Int32) ⊕ (Int32 × Hp)) :=
  gg (β := ((Int32 × Int32) ⊕ (Int32 × Hp))) (kd h v0 = 11) <|
  gg (β := ((Int32 × Int32) ⊕ (Int32 × Hp))) (kd h (gP h v0 1) = 20) <|
  gg (β := ((Int32 × Int32) ⊕ (Int32 × Hp))) (inB (4 : Int32) (ln h (gP h v0 1)) = true) <|
  if (gI h (gP h v0 1) (4 : Int32).toNatClampNeg) ≤ v5 then
    some (.inr ((v4, h)))
  else
    Option.bind (α := Int32) (β := ((Int32 × Int32) ⊕ (Int32 × Hp))) (MX12_slug0 h v5) fun (t30 : Int32) =>
    gg (β := ((Int32 × Int32) ⊕ (Int32 × Hp))) (inB (t30 + (0 : Int32)) (ln h (gP h v0 1)) = true) <|
    if (gI h (gP h v0 1) (t30 + (0 : Int32)).toNatClampNeg) = v1 then
      Option.bind (α := Int32) (β := ((Int32 × Int32) ⊕ (Int32 × Hp))) (MX12_slug0 h v5) fun (t34 : Int32) =>
      gg (β := ((Int32 × Int32) ⊕ (Int32 × Hp))) (inB (t34 + (4 : Int32)) (ln h (gP h v0 1)) = true) <|
      if (gI h (gP h v0 1) (t34 + (4 : Int32)).toNatClampNeg) = 0 then
        MX12_part_267 h v0 v1 v5 v4
      else
        MX12_part_268 h v0 v1 v5 v4 (1 : Int32)
    else
      MX12_part_267 h v0 v1 v5 v4
set_option maxRecDepth 100000 in
set_option maxHeartbeats 8000000 in
theorem bX12_part_219 {d : Nat} {h : Hp} {v0 : Nat} {v1 : Int32} {v4 : Int32} {v5 : Int32} {r : Int32} {h9 : Hp} {x : ((Int32 × Int32) ⊕ (Int32 × Hp))} (H : BX12_part_219 h v0 v1 v4 v5 = some x) (hb0 : ∀ s : Int32 × Int32, x = .inl s → J (d + 3) YX12_part 219 [.ref v0, .int v1, Value.null, Value.null, .int s.1, .int s.2] [] h (oI r) h9) (hx : ∀ z : (Int32 × Hp), x = .inr (z) → z = (r, h9)) : J (d + 3) YX12_part 219 [.ref v0, .int v1, Value.null, Value.null, .int v4, .int v5] [] h (oI r) h9 := by
  unfold BX12_part_219 at H
  refine J_iload dX12_part_219 rfl ?_
  refine J_aload_n 0 dX12_part_221 rfl rfl ?_
  obtain ⟨g25, H⟩ := gd H
  refine J_gP 11 1 dX12_part_222 g25 flX12_8 rfl rfl ?_
  refine J_iconst (4 : Int32) dX12_part_225 kc_4 ?_
  obtain ⟨g26, H⟩ := gd H
  obtain ⟨g27, H⟩ := gd H
  refine J_iald dX12_part_226 g26 (inB_ok g27) ?_
  refine J_icmp_ge 277 dX12_part_227 rfl (fun q28 => ?_) (fun q28 => ?_)
  · replace H := br1 q28 H
    refine J_iload dX12_part_277 rfl ?_
    cases H
    cases hx _ rfl
    exact J_iretI dX12_part_279 rfl
  · replace H := br0 q28 H
    refine J_iload dX12_part_230 rfl ?_
    refine J_aload_n 0 dX12_part_232 rfl rfl ?_
    refine J_gP 11 1 dX12_part_233 g25 flX12_8 rfl rfl ?_
    refine J_iload dX12_part_236 rfl ?_
    obtain ⟨t30, e29, H⟩ := bd H
    refine J_cS (as := [.int v5]) YX12_slug0 1 dX12_part_238 moX12_slug0 msX12_slug0 mlX12_342 (okX12_slug0 (d := d + 2) e29) rfl rfl [.ref (gP h v0 1), .int v4] rfl rfl (st2 := [.int t30, .ref (gP h v0 1), .int v4]) rfl ?_
    refine J_iconst (0 : Int32) dX12_part_241 kc_0 ?_
    refine J_iadd dX12_part_242 ?_
    obtain ⟨g31, H⟩ := gd H
    refine J_iald dX12_part_243 g26 (inB_ok g31) ?_
    refine J_iload_n 1 dX12_part_244 rfl rfl ?_
    refine J_icmp_ne 267 dX12_part_245 rfl (fun q32 => ?_) (fun q32 => ?_)
    · replace H := br0 q32 H
      exact J_dr (kX12_part_267 H hb0 hx) ⟨rfl, ⟨rfl, ⟨rfl, trivial⟩⟩⟩
    · replace H := br1 q32 H
      refine J_aload_n 0 dX12_part_248 rfl rfl ?_
      refine J_gP 11 1 dX12_part_249 g25 flX12_8 rfl rfl ?_
      refine J_iload dX12_part_252 rfl ?_
      obtain ⟨t34, e33, H⟩ := bd H
      refine J_cS (as := [.int v5]) YX12_slug0 1 dX12_part_254 moX12_slug0 msX12_slug0 mlX12_342 (okX12_slug0 (d := d + 2) e33) rfl rfl [.ref (gP h v0 1), .int v4] rfl rfl (st2 := [.int t34, .ref (gP h v0 1), .int v4]) rfl ?_
      refine J_iconst (4 : Int32) dX12_part_257 kc_4 ?_
      refine J_iadd dX12_part_258 ?_
      obtain ⟨g35, H⟩ := gd H
      refine J_iald dX12_part_259 g26 (inB_ok g35) ?_
      refine J_if_eq 267 dX12_part_260 rfl (fun q36 => ?_) (fun q36 => ?_)
      · replace H := br1 q36 H
        exact J_dr (kX12_part_267 H hb0 hx) ⟨rfl, ⟨rfl, ⟨rfl, trivial⟩⟩⟩
      · replace H := br0 q36 H
        refine J_iconst (1 : Int32) dX12_part_263 kc_1 ?_
        refine J_goto 268 dX12_part_264 rfl ?_
        exact J_dr (kX12_part_268 H hb0 hx) ⟨rfl, ⟨rfl, ⟨rfl, trivial⟩⟩⟩
noncomputable def MX12_part_219 (h : Hp) (v0 : Nat) (v1 : Int32) (v4 : Int32) (v5 : Int32) : Option (Int32 × Hp) := it (fun q : Int32 × Int32 => BX12_part_219 h v0 v1 q.1 q.2) (v4, v5)
set_option maxRecDepth 100000 in
set_option maxHeartbeats 8000000 in
theorem kX12_part_219 {d : Nat} {h : Hp} {v0 : Nat} {v1 : Int32} {v4 : Int32} {v5 : Int32} {r : Int32} {h9 : Hp} (H : MX12_part_219 h v0 v1 v4 v5 = some (r, h9)) : J (d + 3) YX12_part 219 [.ref v0, .int v1, Value.null, Value.null, .int v4, .int v5] [] h (oI r) h9 := by
  unfold MX12_part_219 at H
  refine it_J (G := (fun q : Int32 × Int32 => J (d + 3) YX12_part 219 [.ref v0, .int v1, Value.null, Value.null, .int q.1, .int q.2] [] h (oI r) h9)) (Q := (fun y : (Int32 × Hp) => y = (r, h9))) (fun q x Hq hm => ?_) H rfl
  exact bX12_part_219 Hq (fun s hs => by subst hs; exact hm) (fun z hz => by subst hz; exact hm)
noncomputable def MX12_part_204 (h : Hp) (v0 : Nat) (v1 : Int32) (v3 : Int32) (v5 : Int32) (s0 : Int32) (s1 : Int32) : Option ((Int32 × Int32 × Hp) ⊕ (Int32 × Hp)) :=
  some (.inl ((s0 + s1), (v5 + (1 : Int32)), h))
set_option maxRecDepth 100000 in
set_option maxHeartbeats 8000000 in
theorem kX12_part_204 {d : Nat} {h : Hp} {v0 : Nat} {v1 : Int32} {v3 : Int32} {v5 : Int32} {s0 : Int32} {s1 : Int32} {r : Int32} {h9 : Hp} {x : ((Int32 × Int32 × Hp) ⊕ (Int32 × Hp))} (H : MX12_part_204 h v0 v1 v3 v5 s0 s1 = some x) (hb0 : ∀ s : Int32 × Int32 × Hp, x = .inl s → J (d + 3) YX12_part 162 [.ref v0, .int v1, Value.null, .int v3, .int s.1, .int s.2.1] [] s.2.2 (oI r) h9) (hx : ∀ z : (Int32 × Hp), x = .inr (z) → z = (r, h9)) : J (d + 3) YX12_part 204 [.ref v0, .int v1, Value.null, .int v3, Value.null, .int v5] [.int s1, .int s0] h (oI r) h9 := by
  unfold MX12_part_204 at H
  refine J_iadd dX12_part_204 ?_
  refine J_istore dX12_part_205 (by decide) (ls' := [.ref v0, .int v1, Value.null, .int v3, .int (s0 + s1), .int v5]) rfl ?_
  refine J_iinc (v5 + (1 : Int32)) dX12_part_207 rfl (congrArg (HAdd.hAdd v5) kc_1) (by decide) (ls' := [.ref v0, .int v1, Value.null, .int v3, .int (s0 + s1), .int (v5 + (1 : Int32))]) rfl ?_
  refine J_goto 162 dX12_part_210 rfl ?_
  cases H
  exact J_dr (hb0 _ rfl) ⟨rfl, ⟨rfl, ⟨rfl, ⟨rfl, ⟨rfl, trivial⟩⟩⟩⟩⟩
noncomputable def BX12_part_162 (h : Hp) (v0 : Nat) (v1 : Int32) (v3 : Int32) (v4 : Int32) (v5 : Int32) : Option ((Int32 × Int32 × Hp) ⊕ (Int32 × Hp)) :=
  gg (β := ((Int32 × Int32 × Hp) ⊕ (Int32 × Hp))) (kd h v0 = 11) <|
  gg (β := ((Int32 × Int32 × Hp) ⊕ (Int32 × Hp))) (kd h (gP h v0 1) = 20) <|
  gg (β := ((Int32 × Int32 × Hp) ⊕ (Int32 × Hp))) (inB (v3 + (3 : Int32)) (ln h (gP h v0 1)) = true) <|
  if (gI h (gP h v0 1) (v3 + (3 : Int32)).toNatClampNeg) = (1 : Int32) then
    gg (β := ((Int32 × Int32 × Hp) ⊕ (Int32 × Hp))) (inB (v3 + (4 : Int32)) (ln h (gP h v0 1)) = true) <|
    if (gI h (gP h v0 1) (v3 + (4 : Int32)).toNatClampNeg) ≤ v5 then
      some (.inr ((v4, h)))
    else
      b2 (α := Int32) (β := Hp) (γ := ((Int32 × Int32 × Hp) ⊕ (Int32 × Hp))) (MX12_isRight h v0 v1 v5) fun (t45 : Int32) (h44 : Hp) =>
      if t45 = 0 then
        MX12_part_204 h44 v0 v1 v3 v5 v4 (0 : Int32)
      else
        MX12_part_204 h44 v0 v1 v3 v5 v4 (1 : Int32)
  else
    some (.inr ((v4, h)))
set_option maxRecDepth 100000 in
set_option maxHeartbeats 8000000 in
theorem bX12_part_162 {d : Nat} {h : Hp} {v0 : Nat} {v1 : Int32} {v3 : Int32} {v4 : Int32} {v5 : Int32} {r : Int32} {h9 : Hp} {x : ((Int32 × Int32 × Hp) ⊕ (Int32 × Hp))} (H : BX12_part_162 h v0 v1 v3 v4 v5 = some x) (hb0 : ∀ s : Int32 × Int32 × Hp, x = .inl s → J (d + 3) YX12_part 162 [.ref v0, .int v1, Value.null, .int v3, .int s.1, .int s.2.1] [] s.2.2 (oI r) h9) (hx : ∀ z : (Int32 × Hp), x = .inr (z) → z = (r, h9)) : J (d + 3) YX12_part 162 [.ref v0, .int v1, Value.null, .int v3, .int v4, .int v5] [] h (oI r) h9 := by
  unfold BX12_part_162 at H
  refine J_aload_n 0 dX12_part_162 rfl rfl ?_
  obtain ⟨g37, H⟩ := gd H
  refine J_gP 11 1 dX12_part_163 g37 flX12_8 rfl rfl ?_
  refine J_iload_n 3 dX12_part_166 rfl rfl ?_
  refine J_iconst (3 : Int32) dX12_part_167 kc_3 ?_
  refine J_iadd dX12_part_168 ?_
  obtain ⟨g38, H⟩ := gd H
  obtain ⟨g39, H⟩ := gd H
  refine J_iald dX12_part_169 g38 (inB_ok g39) ?_
  refine J_iconst (1 : Int32) dX12_part_170 kc_1 ?_
  refine J_icmp_ne 213 dX12_part_171 rfl (fun q40 => ?_) (fun q40 => ?_)
  · replace H := br0 q40 H
    refine J_iload dX12_part_213 rfl ?_
    cases H
    cases hx _ rfl
    exact J_iretI dX12_part_215 rfl
  · replace H := br1 q40 H
    refine J_iload dX12_part_174 rfl ?_
    refine J_aload_n 0 dX12_part_176 rfl rfl ?_
    refine J_gP 11 1 dX12_part_177 g37 flX12_8 rfl rfl ?_
    refine J_iload_n 3 dX12_part_180 rfl rfl ?_
    refine J_iconst (4 : Int32) dX12_part_181 kc_4 ?_
    refine J_iadd dX12_part_182 ?_
    obtain ⟨g41, H⟩ := gd H
    refine J_iald dX12_part_183 g38 (inB_ok g41) ?_
    refine J_icmp_ge 213 dX12_part_184 rfl (fun q42 => ?_) (fun q42 => ?_)
    · replace H := br1 q42 H
      refine J_iload dX12_part_213 rfl ?_
      cases H
      cases hx _ rfl
      exact J_iretI dX12_part_215 rfl
    · replace H := br0 q42 H
      refine J_iload dX12_part_187 rfl ?_
      refine J_aload_n 0 dX12_part_189 rfl rfl ?_
      refine J_iload_n 1 dX12_part_190 rfl rfl ?_
      refine J_iload dX12_part_191 rfl ?_
      obtain ⟨t45, h44, e43, H⟩ := b2_el H
      refine J_cV (as := [.int v1, .int v5]) 11 YX12_isRight 2 dX12_part_193 moX12_isRight mvX12_isRight mlX12_339 g37 rfl rfl (okX12_isRight (d := d) e43) rfl rfl [.int v4] rfl rfl (st2 := [.int t45, .int v4]) rfl ?_
      refine J_if_eq 203 dX12_part_196 rfl (fun q46 => ?_) (fun q46 => ?_)
      · replace H := br1 q46 H
        refine J_iconst (0 : Int32) dX12_part_203 kc_0 ?_
        exact J_dr (kX12_part_204 H hb0 hx) ⟨rfl, ⟨rfl, ⟨rfl, ⟨rfl, trivial⟩⟩⟩⟩
      · replace H := br0 q46 H
        refine J_iconst (1 : Int32) dX12_part_199 kc_1 ?_
        refine J_goto 204 dX12_part_200 rfl ?_
        exact J_dr (kX12_part_204 H hb0 hx) ⟨rfl, ⟨rfl, ⟨rfl, ⟨rfl, trivial⟩⟩⟩⟩
noncomputable def MX12_part_162 (h : Hp) (v0 : Nat) (v1 : Int32) (v3 : Int32) (v4 : Int32) (v5 : Int32) : Option (Int32 × Hp) := it (fun q : Int32 × Int32 × Hp => BX12_part_162 q.2.2 v0 v1 v3 q.1 q.2.1) (v4, v5, h)
set_option maxRecDepth 100000 in
set_option maxHeartbeats 8000000 in
theorem kX12_part_162 {d : Nat} {h : Hp} {v0 : Nat} {v1 : Int32} {v3 : Int32} {v4 : Int32} {v5 : Int32} {r : Int32} {h9 : Hp} (H : MX12_part_162 h v0 v1 v3 v4 v5 = some (r, h9)) : J (d + 3) YX12_part 162 [.ref v0, .int v1, Value.null, .int v3, .int v4, .int v5] [] h (oI r) h9 := by
  unfold MX12_part_162 at H
  refine it_J (G := (fun q : Int32 × Int32 × Hp => J (d + 3) YX12_part 162 [.ref v0, .int v1, Value.null, .int v3, .int q.1, .int q.2.1] [] q.2.2 (oI r) h9)) (Q := (fun y : (Int32 × Hp) => y = (r, h9))) (fun q x Hq hm => ?_) H rfl
  exact bX12_part_162 Hq (fun s hs => by subst hs; exact hm) (fun z hz => by subst hz; exact hm)
noncomputable def MX12_part_28 (h : Hp) (v0 : Nat) (v1 : Int32) (v2 : Int32) (s0 : Nat) (s1 : Int32) : Option (Int32 × Hp) :=
  gg (β := (Int32 × Hp)) (kd h s0 = 11) <|
  lt (α := Hp) (β := Option (Int32 × Hp)) (sI h s0 0 s1) fun (h9 : Hp) =>
  gg (β := (Int32 × Hp)) (kd h v0 = 11) <|
  if (gI h9 v0 0) ≤ 0 then
    Option.bind (α := Int32) (β := (Int32 × Hp)) (MX12_part0 h9 v1) fun (t17 : Int32) =>
    if v2 = 0 then
      gg (β := (Int32 × Hp)) (kd h (gP h v0 1) = 20) <|
      gg (β := (Int32 × Hp)) (inB (t17 + (0 : Int32)) (ln h (gP h v0 1)) = true) <|
      some ((gI h9 (gP h v0 1) (t17 + (0 : Int32)).toNatClampNeg), h9)
    else
      if v2 = (1 : Int32) then
        gg (β := (Int32 × Hp)) (kd h (gP h v0 1) = 20) <|
        gg (β := (Int32 × Hp)) (inB (t17 + (1 : Int32)) (ln h (gP h v0 1)) = true) <|
        some ((gI h9 (gP h v0 1) (t17 + (1 : Int32)).toNatClampNeg), h9)
      else
        if v2 = (2 : Int32) then
          gg (β := (Int32 × Hp)) (kd h (gP h v0 1) = 20) <|
          gg (β := (Int32 × Hp)) (inB ((70 : Int32) + (v1 / (5 : Int32))) (ln h (gP h v0 1)) = true) <|
          some ((gI h9 (gP h v0 1) ((70 : Int32) + (v1 / (5 : Int32))).toNatClampNeg), h9)
        else
          if v2 = (3 : Int32) then
            gg (β := (Int32 × Hp)) (kd h (gP h v0 1) = 20) <|
            gg (β := (Int32 × Hp)) (inB ((90 : Int32) + (v1 / (5 : Int32))) (ln h (gP h v0 1)) = true) <|
            some ((gI h9 (gP h v0 1) ((90 : Int32) + (v1 / (5 : Int32))).toNatClampNeg), h9)
          else
            if v2 = (4 : Int32) then
              gg (β := (Int32 × Hp)) (kd h (gP h v0 1) = 20) <|
              gg (β := (Int32 × Hp)) (inB (t17 + (2 : Int32)) (ln h (gP h v0 1)) = true) <|
              some ((gI h9 (gP h v0 1) (t17 + (2 : Int32)).toNatClampNeg), h9)
            else
              if v2 = (5 : Int32) then
                gg (β := (Int32 × Hp)) (kd h (gP h v0 1) = 20) <|
                gg (β := (Int32 × Hp)) (inB (t17 + (3 : Int32)) (ln h (gP h v0 1)) = true) <|
                if (gI h9 (gP h v0 1) (t17 + (3 : Int32)).toNatClampNeg) = (1 : Int32) then
                  gg (β := (Int32 × Hp)) (inB (t17 + (4 : Int32)) (ln h (gP h v0 1)) = true) <|
                  some ((gI h9 (gP h v0 1) (t17 + (4 : Int32)).toNatClampNeg), h9)
                else
                  some ((-1 : Int32), h9)
              else
                if v2 = (6 : Int32) then
                  MX12_part_162 h9 v0 v1 t17 (0 : Int32) (0 : Int32)
                else
                  MX12_part_219 h9 v0 v1 (0 : Int32) (0 : Int32)
  else
    some ((0 : Int32), h9)
set_option maxRecDepth 100000 in
set_option maxHeartbeats 8000000 in
theorem kX12_part_28 {d : Nat} {h : Hp} {v0 : Nat} {v1 : Int32} {v2 : Int32} {s0 : Nat} {s1 : Int32} {r : Int32} {h9 : Hp} (H : MX12_part_28 h v0 v1 v2 s0 s1 = some (r, h9)) : J (d + 3) YX12_part 28 [.ref v0, .int v1, .int v2, Value.null, Value.null, Value.null] [.int s1, .ref s0] h (oI r) h9 := by
  unfold MX12_part_28 at H
  obtain ⟨g8, H⟩ := gd H
  obtain ⟨h9, e10, H⟩ := lt_el H
  refine J_pI 11 0 dX12_part_28 g8 flX12_122 rfl rfl e10 ?_
  have c11 := ekI e10
  have c12 := elI e10
  have c13 := epI e10
  refine J_aload_n 0 dX12_part_31 rfl rfl ?_
  obtain ⟨g14, H⟩ := gd H
  refine J_getI 11 0 dX12_part_32 (kq c11 g14) flX12_122 rfl ?_
  refine J_if_le 40 dX12_part_35 rfl (fun q15 => ?_) (fun q15 => ?_)
  · replace H := br1 q15 H
    refine J_iload_n 1 dX12_part_40 rfl rfl ?_
    obtain ⟨t17, e16, H⟩ := bd H
    refine J_cS (as := [.int v1]) YX12_part0 1 dX12_part_41 moX12_part0 msX12_part0 mlX12_164 (okX12_part0 (d := d + 2) e16) rfl rfl [] rfl rfl (st2 := [.int t17]) rfl ?_
    refine J_istore_n 3 dX12_part_44 rfl (by decide) (ls' := [.ref v0, .int v1, .int v2, .int t17, Value.null, Value.null]) rfl ?_
    refine J_iload_n 2 dX12_part_45 rfl rfl ?_
    refine J_if_ne 58 dX12_part_46 rfl (fun q18 => ?_) (fun q18 => ?_)
    · replace H := br0 q18 H
      refine J_iload_n 2 dX12_part_58 rfl rfl ?_
      refine J_iconst (1 : Int32) dX12_part_59 kc_1 ?_
      refine J_icmp_ne 72 dX12_part_60 rfl (fun q19 => ?_) (fun q19 => ?_)
      · replace H := br0 q19 H
        refine J_iload_n 2 dX12_part_72 rfl rfl ?_
        refine J_iconst (2 : Int32) dX12_part_73 kc_2 ?_
        refine J_icmp_ne 89 dX12_part_74 rfl (fun q20 => ?_) (fun q20 => ?_)
        · replace H := br0 q20 H
          refine J_iload_n 2 dX12_part_89 rfl rfl ?_
          refine J_iconst (3 : Int32) dX12_part_90 kc_3 ?_
          refine J_icmp_ne 106 dX12_part_91 rfl (fun q21 => ?_) (fun q21 => ?_)
          · replace H := br0 q21 H
            refine J_iload_n 2 dX12_part_106 rfl rfl ?_
            refine J_iconst (4 : Int32) dX12_part_107 kc_4 ?_
            refine J_icmp_ne 120 dX12_part_108 rfl (fun q22 => ?_) (fun q22 => ?_)
            · replace H := br0 q22 H
              refine J_iload_n 2 dX12_part_120 rfl rfl ?_
              refine J_iconst (5 : Int32) dX12_part_121 kc_5 ?_
              refine J_icmp_ne 150 dX12_part_122 rfl (fun q23 => ?_) (fun q23 => ?_)
              · replace H := br0 q23 H
                refine J_iconst (0 : Int32) dX12_part_150 kc_0 ?_
                refine J_istore dX12_part_151 (by decide) (ls' := [.ref v0, .int v1, .int v2, .int t17, .int (0 : Int32), Value.null]) rfl ?_
                refine J_iload_n 2 dX12_part_153 rfl rfl ?_
                refine J_bipush (6 : Int32) dX12_part_154 kb_6 ?_
                refine J_icmp_ne 216 dX12_part_156 rfl (fun q24 => ?_) (fun q24 => ?_)
                · replace H := br0 q24 H
                  refine J_iconst (0 : Int32) dX12_part_216 kc_0 ?_
                  refine J_istore dX12_part_217 (by decide) (ls' := [.ref v0, .int v1, .int v2, .int t17, .int (0 : Int32), .int (0 : Int32)]) rfl ?_
                  exact J_dr (kX12_part_219 H ) ⟨rfl, ⟨rfl, ⟨rfl, ⟨rfl, trivial⟩⟩⟩⟩
                · replace H := br1 q24 H
                  refine J_iconst (0 : Int32) dX12_part_159 kc_0 ?_
                  refine J_istore dX12_part_160 (by decide) (ls' := [.ref v0, .int v1, .int v2, .int t17, .int (0 : Int32), .int (0 : Int32)]) rfl ?_
                  exact J_dr (kX12_part_162 H ) ⟨rfl, ⟨rfl, ⟨rfl, ⟨rfl, ⟨rfl, trivial⟩⟩⟩⟩⟩
              · replace H := br1 q23 H
                refine J_aload_n 0 dX12_part_125 rfl rfl ?_
                refine J_gP 11 1 dX12_part_126 (kq c11 g14) flX12_8 rfl (congrFun (congrFun c13 v0) 1) ?_
                refine J_iload_n 3 dX12_part_129 rfl rfl ?_
                refine J_iconst (3 : Int32) dX12_part_130 kc_3 ?_
                refine J_iadd dX12_part_131 ?_
                obtain ⟨g47, H⟩ := gd H
                obtain ⟨g48, H⟩ := gd H
                refine J_iald dX12_part_132 (kq c11 g47) (lq c12 g48) ?_
                refine J_iconst (1 : Int32) dX12_part_133 kc_1 ?_
                refine J_icmp_ne 148 dX12_part_134 rfl (fun q49 => ?_) (fun q49 => ?_)
                · replace H := br0 q49 H
                  refine J_iconst (-1 : Int32) dX12_part_148 kc_m1 ?_
                  cases H
                  exact J_iretI dX12_part_149 rfl
                · replace H := br1 q49 H
                  refine J_aload_n 0 dX12_part_137 rfl rfl ?_
                  refine J_gP 11 1 dX12_part_138 (kq c11 g14) flX12_8 rfl (congrFun (congrFun c13 v0) 1) ?_
                  refine J_iload_n 3 dX12_part_141 rfl rfl ?_
                  refine J_iconst (4 : Int32) dX12_part_142 kc_4 ?_
                  refine J_iadd dX12_part_143 ?_
                  obtain ⟨g50, H⟩ := gd H
                  refine J_iald dX12_part_144 (kq c11 g47) (lq c12 g50) ?_
                  refine J_goto 149 dX12_part_145 rfl ?_
                  cases H
                  exact J_iretI dX12_part_149 rfl
            · replace H := br1 q22 H
              refine J_aload_n 0 dX12_part_111 rfl rfl ?_
              refine J_gP 11 1 dX12_part_112 (kq c11 g14) flX12_8 rfl (congrFun (congrFun c13 v0) 1) ?_
              refine J_iload_n 3 dX12_part_115 rfl rfl ?_
              refine J_iconst (2 : Int32) dX12_part_116 kc_2 ?_
              refine J_iadd dX12_part_117 ?_
              obtain ⟨g51, H⟩ := gd H
              obtain ⟨g52, H⟩ := gd H
              refine J_iald dX12_part_118 (kq c11 g51) (lq c12 g52) ?_
              cases H
              exact J_iretI dX12_part_119 rfl
          · replace H := br1 q21 H
            refine J_aload_n 0 dX12_part_94 rfl rfl ?_
            refine J_gP 11 1 dX12_part_95 (kq c11 g14) flX12_8 rfl (congrFun (congrFun c13 v0) 1) ?_
            refine J_bipush (90 : Int32) dX12_part_98 kb_90 ?_
            refine J_iload_n 1 dX12_part_100 rfl rfl ?_
            refine J_iconst (5 : Int32) dX12_part_101 kc_5 ?_
            refine J_idiv dX12_part_102 (by decide) ?_
            refine J_iadd dX12_part_103 ?_
            obtain ⟨g53, H⟩ := gd H
            obtain ⟨g54, H⟩ := gd H
            refine J_iald dX12_part_104 (kq c11 g53) (lq c12 g54) ?_
            cases H
            exact J_iretI dX12_part_105 rfl
        · replace H := br1 q20 H
          refine J_aload_n 0 dX12_part_77 rfl rfl ?_
          refine J_gP 11 1 dX12_part_78 (kq c11 g14) flX12_8 rfl (congrFun (congrFun c13 v0) 1) ?_
          refine J_bipush (70 : Int32) dX12_part_81 kb_70 ?_
          refine J_iload_n 1 dX12_part_83 rfl rfl ?_
          refine J_iconst (5 : Int32) dX12_part_84 kc_5 ?_
          refine J_idiv dX12_part_85 (by decide) ?_
          refine J_iadd dX12_part_86 ?_
          obtain ⟨g55, H⟩ := gd H
          obtain ⟨g56, H⟩ := gd H
          refine J_iald dX12_part_87 (kq c11 g55) (lq c12 g56) ?_
          cases H
          exact J_iretI dX12_part_88 rfl
      · replace H := br1 q19 H
        refine J_aload_n 0 dX12_part_63 rfl rfl ?_
        refine J_gP 11 1 dX12_part_64 (kq c11 g14) flX12_8 rfl (congrFun (congrFun c13 v0) 1) ?_
        refine J_iload_n 3 dX12_part_67 rfl rfl ?_
        refine J_iconst (1 : Int32) dX12_part_68 kc_1 ?_
        refine J_iadd dX12_part_69 ?_
        obtain ⟨g57, H⟩ := gd H
        obtain ⟨g58, H⟩ := gd H
        refine J_iald dX12_part_70 (kq c11 g57) (lq c12 g58) ?_
        cases H
        exact J_iretI dX12_part_71 rfl
    · replace H := br1 q18 H
      refine J_aload_n 0 dX12_part_49 rfl rfl ?_
      refine J_gP 11 1 dX12_part_50 (kq c11 g14) flX12_8 rfl (congrFun (congrFun c13 v0) 1) ?_
      refine J_iload_n 3 dX12_part_53 rfl rfl ?_
      refine J_iconst (0 : Int32) dX12_part_54 kc_0 ?_
      refine J_iadd dX12_part_55 ?_
      obtain ⟨g59, H⟩ := gd H
      obtain ⟨g60, H⟩ := gd H
      refine J_iald dX12_part_56 (kq c11 g59) (lq c12 g60) ?_
      cases H
      exact J_iretI dX12_part_57 rfl
  · replace H := br0 q15 H
    refine J_iconst (0 : Int32) dX12_part_38 kc_0 ?_
    cases H
    exact J_iretI dX12_part_39 rfl
noncomputable def MX12_part (h : Hp) (v0 : Nat) (v1 : Int32) (v2 : Int32) : Option (Int32 × Hp) :=
  gg (β := (Int32 × Hp)) (kd h v0 = 11) <|
  Option.bind (α := Int32) (β := (Int32 × Hp)) (MX12_isPart h v0 v1) fun (t3 : Int32) =>
  if t3 = 0 then
    MX12_part_28 h v0 v1 v2 v0 (1 : Int32)
  else
    Option.bind (α := Int32) (β := (Int32 × Hp)) (MX12_isIn h v2 (0 : Int32) (7 : Int32)) fun (t6 : Int32) =>
    if t6 = 0 then
      MX12_part_28 h v0 v1 v2 v0 (2 : Int32)
    else
      MX12_part_28 h v0 v1 v2 v0 (0 : Int32)
set_option maxRecDepth 100000 in
set_option maxHeartbeats 8000000 in
theorem eX12_part {d : Nat} {h : Hp} {v0 : Nat} {v1 : Int32} {v2 : Int32} {r : Int32} {h9 : Hp} (H : MX12_part h v0 v1 v2 = some (r, h9)) : J (d + 3) YX12_part 0 [.ref v0, .int v1, .int v2, Value.null, Value.null, Value.null] [] h (oI r) h9 := by
  unfold MX12_part at H
  refine J_aload_n 0 dX12_part_0 rfl rfl ?_
  refine J_aload_n 0 dX12_part_1 rfl rfl ?_
  refine J_iload_n 1 dX12_part_2 rfl rfl ?_
  obtain ⟨g2, H⟩ := gd H
  obtain ⟨t3, e1, H⟩ := bd H
  refine J_cV (as := [.int v1]) 11 YX12_isPart 1 dX12_part_3 moX12_isPart mvX12_isPart mlX12_311 g2 rfl rfl (okX12_isPart (d := d + 2) e1) rfl rfl [.ref v0] rfl rfl (st2 := [.int t3, .ref v0]) rfl ?_
  refine J_if_ne 13 dX12_part_6 rfl (fun q4 => ?_) (fun q4 => ?_)
  · replace H := br0 q4 H
    refine J_iload_n 2 dX12_part_13 rfl rfl ?_
    refine J_iconst (0 : Int32) dX12_part_14 kc_0 ?_
    refine J_bipush (7 : Int32) dX12_part_15 kb_7 ?_
    obtain ⟨t6, e5, H⟩ := bd H
    refine J_cS (as := [.int v2, .int (0 : Int32), .int (7 : Int32)]) YX12_isIn 3 dX12_part_17 moX12_isIn msX12_isIn mlX12_157 (okX12_isIn (d := d + 2) e5) rfl rfl [.ref v0] rfl rfl (st2 := [.int t6, .ref v0]) rfl ?_
    refine J_if_ne 27 dX12_part_20 rfl (fun q7 => ?_) (fun q7 => ?_)
    · replace H := br0 q7 H
      refine J_iconst (0 : Int32) dX12_part_27 kc_0 ?_
      exact J_dr (kX12_part_28 H ) ⟨rfl, ⟨rfl, ⟨rfl, trivial⟩⟩⟩
    · replace H := br1 q7 H
      refine J_iconst (2 : Int32) dX12_part_23 kc_2 ?_
      refine J_goto 28 dX12_part_24 rfl ?_
      exact J_dr (kX12_part_28 H ) ⟨rfl, ⟨rfl, ⟨rfl, trivial⟩⟩⟩
  · replace H := br1 q4 H
    refine J_iconst (1 : Int32) dX12_part_9 kc_1 ?_
    refine J_goto 28 dX12_part_10 rfl ?_
    exact J_dr (kX12_part_28 H ) ⟨rfl, ⟨rfl, ⟨rfl, trivial⟩⟩⟩
theorem okX12_part {d : Nat} {h : Hp} {v0 : Nat} {v1 : Int32} {v2 : Int32} {r : Int32} {h9 : Hp} (H : MX12_part h v0 v1 v2 = some (r, h9)) : CT (d + 3) YX12_part [.ref v0, .int v1, .int v2] h (oI r) h9 := CT_of (by decide +kernel) (Nat.le_of_ble_eq_true rfl) (eX12_part H)
