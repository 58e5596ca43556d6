noncomputable def MX12_readStyle_141 (h : Hp) (v0 : Nat) : Option (Int32 × Hp) :=
  gg (kd h v0 = 11) <|
  b2 (MX12_fails h v0) fun t47 h46 =>
  gg (zOk t47 = true) <|
  some (t47, h46)
set_option maxRecDepth 100000 in
set_option maxHeartbeats 8000000 in
theorem kX12_readStyle_141 {d : Nat} {h : Hp} {v0 : Nat} {r : Int32} {h9 : Hp} (H : MX12_readStyle_141 h v0 = some (r, h9)) : J (d + 38) YX12_readStyle 141 [.ref v0, Value.null] [] h (oI r) h9 := by
  unfold MX12_readStyle_141 at H
  refine J_aload_n 0 dX12_readStyle_141 rfl rfl ?_
  obtain ⟨g45, H⟩ := gd H
  obtain ⟨t47, h46, e44, H⟩ := b2_el H
  refine J_cV (as := []) 11 YX12_fails 0 dX12_readStyle_142 moX12_fails mvX12_fails mlX12_223 g45 rfl (okX12_fails (d := d + 37) e44) rfl rfl [] rfl rfl (st2 := [.int t47]) rfl ?_
  obtain ⟨g48, H⟩ := gd H
  cases H
  exact J_rZ dX12_readStyle_145 rfl g48
noncomputable def MX12_readStyle_112 (h : Hp) (v0 : Nat) (s0 : Int32) : Option ((Int32 × Hp) ⊕ (Int32 × Hp)) :=
  if s0 = 0 then
    gg (kd h v0 = 11) <|
    if (gI h v0 7) ≤ (gI h v0 8) then
      some (.inl (s0, h))
    else
      up1 (MX12_readStyle_141 h v0)
  else
    gg (kd h v0 = 11) <|
    lt (sI h v0 8 ((gI h v0 8) + (1 : Int32))) fun h50 =>
    some (.inl (s0, h50))
set_option maxRecDepth 100000 in
set_option maxHeartbeats 8000000 in
theorem kX12_readStyle_112 {d : Nat} {h : Hp} {v0 : Nat} {s0 : Int32} {r : Int32} {h9 : Hp} {x : ((Int32 × Hp) ⊕ (Int32 × Hp))} (H : MX12_readStyle_112 h v0 s0 = some x) (hb0 : ∀ s : Int32 × Hp, x = .inl s → J (d + 38) YX12_readStyle 37 [.ref v0, .int s.1] [] s.2 (oI r) h9) (hx : ∀ z : (Int32 × Hp), x = .inr (z) → z = (r, h9)) : J (d + 38) YX12_readStyle 112 [.ref v0, Value.null] [.int s0] h (oI r) h9 := by
  unfold MX12_readStyle_112 at H
  refine J_istore_n 1 dX12_readStyle_112 rfl (by decide) (ls' := [.ref v0, .int s0]) rfl ?_
  refine J_iload_n 1 dX12_readStyle_113 rfl rfl ?_
  refine J_if_eq 130 dX12_readStyle_114 rfl (fun q41 => ?_) (fun q41 => ?_)
  · replace H := br1 q41 H
    refine J_aload_n 0 dX12_readStyle_130 rfl rfl ?_
    obtain ⟨g42, H⟩ := gd H
    refine J_getI 11 8 dX12_readStyle_131 g42 flX12_137 rfl ?_
    refine J_aload_n 0 dX12_readStyle_134 rfl rfl ?_
    refine J_getI 11 7 dX12_readStyle_135 g42 flX12_134 rfl ?_
    refine J_icmp_ge 37 dX12_readStyle_138 rfl (fun q43 => ?_) (fun q43 => ?_)
    · replace H := br1 q43 H
      cases H
      exact J_dr (hb0 _ rfl) ⟨rfl, ⟨rfl, trivial⟩⟩
    · replace H := br0 q43 H
      obtain ⟨y, H9, rfl⟩ := up1_el H
      replace H := H9
      obtain rfl := hx _ rfl
      exact J_dr (kX12_readStyle_141 H ) ⟨rfl, trivial⟩
  · replace H := br0 q41 H
    refine J_aload_n 0 dX12_readStyle_117 rfl rfl ?_
    refine J_dup dX12_readStyle_118 rfl ?_
    obtain ⟨g49, H⟩ := gd H
    refine J_getI 11 8 dX12_readStyle_119 g49 flX12_137 rfl ?_
    refine J_iconst (1 : Int32) dX12_readStyle_122 kc_1 ?_
    refine J_iadd dX12_readStyle_123 ?_
    obtain ⟨h50, e51, H⟩ := lt_el H
    refine J_pI 11 8 dX12_readStyle_124 g49 flX12_137 rfl rfl e51 ?_
    have c52 := ekI e51
    have c53 := elI e51
    have c54 := epI e51
    refine J_goto 37 dX12_readStyle_127 rfl ?_
    cases H
    exact J_dr (hb0 _ rfl) ⟨rfl, ⟨rfl, trivial⟩⟩
noncomputable def MX12_readStyle_111 (h : Hp) (v0 : Nat) : Option ((Int32 × Hp) ⊕ (Int32 × Hp)) :=
  MX12_readStyle_112 h v0 (0 : Int32)
set_option maxRecDepth 100000 in
set_option maxHeartbeats 8000000 in
theorem kX12_readStyle_111 {d : Nat} {h : Hp} {v0 : Nat} {r : Int32} {h9 : Hp} {x : ((Int32 × Hp) ⊕ (Int32 × Hp))} (H : MX12_readStyle_111 h v0 = some x) (hb0 : ∀ s : Int32 × Hp, x = .inl s → J (d + 38) YX12_readStyle 37 [.ref v0, .int s.1] [] s.2 (oI r) h9) (hx : ∀ z : (Int32 × Hp), x = .inr (z) → z = (r, h9)) : J (d + 38) YX12_readStyle 111 [.ref v0, Value.null] [] h (oI r) h9 := by
  unfold MX12_readStyle_111 at H
  refine J_iconst (0 : Int32) dX12_readStyle_111 kc_0 ?_
  exact J_dr (kX12_readStyle_112 H hb0 hx) ⟨rfl, trivial⟩
noncomputable def MX12_readStyle_54 (h : Hp) (v0 : Nat) : Option (Int32 × Hp) :=
  gg (kd h v0 = 11) <|
  b2 (MX12_fails h v0) fun t61 h60 =>
  gg (zOk t61 = true) <|
  some (t61, h60)
set_option maxRecDepth 100000 in
set_option maxHeartbeats 8000000 in
theorem kX12_readStyle_54 {d : Nat} {h : Hp} {v0 : Nat} {r : Int32} {h9 : Hp} (H : MX12_readStyle_54 h v0 = some (r, h9)) : J (d + 38) YX12_readStyle 54 [.ref v0, Value.null] [] h (oI r) h9 := by
  unfold MX12_readStyle_54 at H
  refine J_aload_n 0 dX12_readStyle_54 rfl rfl ?_
  obtain ⟨g59, H⟩ := gd H
  obtain ⟨t61, h60, e58, H⟩ := b2_el H
  refine J_cV (as := []) 11 YX12_fails 0 dX12_readStyle_55 moX12_fails mvX12_fails mlX12_223 g59 rfl (okX12_fails (d := d + 37) e58) rfl rfl [] rfl rfl (st2 := [.int t61]) rfl ?_
  obtain ⟨g62, H⟩ := gd H
  cases H
  exact J_rZ dX12_readStyle_58 rfl g62
noncomputable def BX12_readStyle_37 (h : Hp) (v0 : Nat) (v1 : Int32) : Option ((Int32 × Hp) ⊕ (Int32 × Hp)) :=
  if v1 = 0 then
    some (.inr (((1 : Int32), h)))
  else
    gg (kd h v0 = 11) <|
    Option.bind (MX12_blanks h v0) fun h24 =>
    gg (kd h24 v0 = 11) <|
    if (gI h24 v0 19) = (12 : Int32) then
      up1 (MX12_readStyle_54 h24 v0)
    else
      b2 (MX12_readRule h24 v0) fun t29 h28 =>
      if t29 = 0 then
        some (.inr (((0 : Int32), h28)))
      else
        gg (kd h28 v0 = 11) <|
        lt (sI h28 v0 19 ((gI h28 v0 19) + (1 : Int32))) fun h32 =>
        Option.bind (MX12_blanks h32 v0) fun h38 =>
        gg (kd h38 v0 = 11) <|
        if (gI h38 v0 7) ≤ (gI h38 v0 8) then
          MX12_readStyle_111 h38 v0
        else
          gg (kd h38 (gP h38 v0 5) = 20) <|
          gg (inB (gI h38 v0 8) (ln h38 (gP h38 v0 5)) = true) <|
          if (gI h38 (gP h38 v0 5) (gI h38 v0 8).toNatClampNeg) = (59 : Int32) then
            MX12_readStyle_112 h38 v0 (1 : Int32)
          else
            MX12_readStyle_111 h38 v0
set_option maxRecDepth 100000 in
set_option maxHeartbeats 8000000 in
theorem bX12_readStyle_37 {d : Nat} {h : Hp} {v0 : Nat} {v1 : Int32} {r : Int32} {h9 : Hp} {x : ((Int32 × Hp) ⊕ (Int32 × Hp))} (H : BX12_readStyle_37 h v0 v1 = some x) (hb0 : ∀ s : Int32 × Hp, x = .inl s → J (d + 38) YX12_readStyle 37 [.ref v0, .int s.1] [] s.2 (oI r) h9) (hx : ∀ z : (Int32 × Hp), x = .inr (z) → z = (r, h9)) : J (d + 38) YX12_readStyle 37 [.ref v0, .int v1] [] h (oI r) h9 := by
  unfold BX12_readStyle_37 at H
  refine J_iload_n 1 dX12_readStyle_37 rfl rfl ?_
  refine J_if_eq 146 dX12_readStyle_38 rfl (fun q21 => ?_) (fun q21 => ?_)
  · replace H := br1 q21 H
    refine J_iconst (1 : Int32) dX12_readStyle_146 kc_1 ?_
    cases H
    cases hx _ rfl
    exact J_rZ dX12_readStyle_147 rfl rfl
  · replace H := br0 q21 H
    refine J_aload_n 0 dX12_readStyle_41 rfl rfl ?_
    obtain ⟨g23, H⟩ := gd H
    obtain ⟨h24, e22, H⟩ := bd H
    refine J_cV (as := []) 11 YX12_blanks 0 dX12_readStyle_42 moX12_blanks mvX12_blanks mlX12_147 g23 rfl (okX12_blanks (d := d + 37) e22) rfl rfl [] rfl rfl (st2 := []) rfl ?_
    refine J_aload_n 0 dX12_readStyle_45 rfl rfl ?_
    obtain ⟨g25, H⟩ := gd H
    refine J_getI 11 19 dX12_readStyle_46 g25 flX12_245 rfl ?_
    refine J_bipush (12 : Int32) dX12_readStyle_49 kb_12 ?_
    refine J_icmp_ne 59 dX12_readStyle_51 rfl (fun q26 => ?_) (fun q26 => ?_)
    · replace H := br0 q26 H
      refine J_aload_n 0 dX12_readStyle_59 rfl rfl ?_
      obtain ⟨t29, h28, e27, H⟩ := b2_el H
      refine J_cV (as := []) 11 YX12_readRule 0 dX12_readStyle_60 moX12_readRule mvX12_readRule mlX12_267 g25 rfl (okX12_readRule (d := d) e27) rfl rfl [] rfl rfl (st2 := [.int t29]) rfl ?_
      refine J_if_ne 68 dX12_readStyle_63 rfl (fun q30 => ?_) (fun q30 => ?_)
      · replace H := br0 q30 H
        refine J_aload_n 0 dX12_readStyle_68 rfl rfl ?_
        refine J_dup dX12_readStyle_69 rfl ?_
        obtain ⟨g31, H⟩ := gd H
        refine J_getI 11 19 dX12_readStyle_70 g31 flX12_245 rfl ?_
        refine J_iconst (1 : Int32) dX12_readStyle_73 kc_1 ?_
        refine J_iadd dX12_readStyle_74 ?_
        obtain ⟨h32, e33, H⟩ := lt_el H
        refine J_pI 11 19 dX12_readStyle_75 g31 flX12_245 rfl rfl e33 ?_
        have c34 := ekI e33
        have c35 := elI e33
        have c36 := epI e33
        refine J_aload_n 0 dX12_readStyle_78 rfl rfl ?_
        obtain ⟨h38, e37, H⟩ := bd H
        refine J_cV (as := []) 11 YX12_blanks 0 dX12_readStyle_79 moX12_blanks mvX12_blanks mlX12_147 (kq c34 g31) rfl (okX12_blanks (d := d + 37) e37) rfl rfl [] rfl rfl (st2 := []) rfl ?_
        refine J_aload_n 0 dX12_readStyle_82 rfl rfl ?_
        obtain ⟨g39, H⟩ := gd H
        refine J_getI 11 8 dX12_readStyle_83 g39 flX12_137 rfl ?_
        refine J_aload_n 0 dX12_readStyle_86 rfl rfl ?_
        refine J_getI 11 7 dX12_readStyle_87 g39 flX12_134 rfl ?_
        refine J_icmp_ge 111 dX12_readStyle_90 rfl (fun q40 => ?_) (fun q40 => ?_)
        · replace H := br1 q40 H
          exact J_dr (kX12_readStyle_111 H hb0 hx) ⟨rfl, trivial⟩
        · replace H := br0 q40 H
          refine J_aload_n 0 dX12_readStyle_93 rfl rfl ?_
          refine J_gP 11 5 dX12_readStyle_94 g39 flX12_20 rfl rfl ?_
          refine J_aload_n 0 dX12_readStyle_97 rfl rfl ?_
          refine J_getI 11 8 dX12_readStyle_98 g39 flX12_137 rfl ?_
          obtain ⟨g55, H⟩ := gd H
          obtain ⟨g56, H⟩ := gd H
          refine J_iald dX12_readStyle_101 g55 (inB_ok g56) ?_
          refine J_bipush (59 : Int32) dX12_readStyle_102 kb_59 ?_
          refine J_icmp_ne 111 dX12_readStyle_104 rfl (fun q57 => ?_) (fun q57 => ?_)
          · replace H := br0 q57 H
            exact J_dr (kX12_readStyle_111 H hb0 hx) ⟨rfl, trivial⟩
          · replace H := br1 q57 H
            refine J_iconst (1 : Int32) dX12_readStyle_107 kc_1 ?_
            refine J_goto 112 dX12_readStyle_108 rfl ?_
            exact J_dr (kX12_readStyle_112 H hb0 hx) ⟨rfl, trivial⟩
      · replace H := br1 q30 H
        refine J_iconst (0 : Int32) dX12_readStyle_66 kc_0 ?_
        cases H
        cases hx _ rfl
        exact J_rZ dX12_readStyle_67 rfl rfl
    · replace H := br1 q26 H
      obtain ⟨y, H9, rfl⟩ := up1_el H
      replace H := H9
      obtain rfl := hx _ rfl
      exact J_dr (kX12_readStyle_54 H ) ⟨rfl, trivial⟩
noncomputable def MX12_readStyle_37 (h : Hp) (v0 : Nat) (v1 : Int32) : Option (Int32 × Hp) := it (fun q : Int32 × Hp => BX12_readStyle_37 q.2 v0 q.1) (v1, h)
set_option maxRecDepth 100000 in
set_option maxHeartbeats 8000000 in
theorem kX12_readStyle_37 {d : Nat} {h : Hp} {v0 : Nat} {v1 : Int32} {r : Int32} {h9 : Hp} (H : MX12_readStyle_37 h v0 v1 = some (r, h9)) : J (d + 38) YX12_readStyle 37 [.ref v0, .int v1] [] h (oI r) h9 := by
  unfold MX12_readStyle_37 at H
  refine it_J (G := (fun q : Int32 × Hp => J (d + 38) YX12_readStyle 37 [.ref v0, .int q.1] [] q.2 (oI r) h9)) (Q := (fun y : (Int32 × Hp) => y = (r, h9))) (fun q x Hq hm => ?_) H rfl
  exact bX12_readStyle_37 Hq (fun s hs => by subst hs; exact hm) (fun z hz => by subst hz; exact hm)
noncomputable def MX12_readStyle_36 (h : Hp) (v0 : Nat) (s0 : Int32) : Option (Int32 × Hp) :=
  MX12_readStyle_37 h v0 s0
set_option maxRecDepth 100000 in
set_option maxHeartbeats 8000000 in
theorem kX12_readStyle_36 {d : Nat} {h : Hp} {v0 : Nat} {s0 : Int32} {r : Int32} {h9 : Hp} (H : MX12_readStyle_36 h v0 s0 = some (r, h9)) : J (d + 38) YX12_readStyle 36 [.ref v0, Value.null] [.int s0] h (oI r) h9 := by
  unfold MX12_readStyle_36 at H
  refine J_istore_n 1 dX12_readStyle_36 rfl (by decide) (ls' := [.ref v0, .int s0]) rfl ?_
  exact J_dr (kX12_readStyle_37 H ) ⟨rfl, ⟨rfl, trivial⟩⟩
noncomputable def MX12_readStyle (h : Hp) (v0 : Nat) : Option (Int32 × Hp) :=
  gg (kd h v0 = 11) <|
  lt (sI h v0 19 (0 : Int32)) fun h2 =>
  lt (sI h2 v0 20 (62 : Int32)) fun h7 =>
  lt (sI h7 v0 10 (0 : Int32)) fun h12 =>
  Option.bind (MX12_blanks h12 v0) fun h18 =>
  gg (kd h18 v0 = 11) <|
  if (gI h18 v0 7) ≤ (gI h18 v0 8) then
    MX12_readStyle_36 h18 v0 (0 : Int32)
  else
    MX12_readStyle_36 h18 v0 (1 : Int32)
set_option maxRecDepth 100000 in
set_option maxHeartbeats 8000000 in
theorem eX12_readStyle {d : Nat} {h : Hp} {v0 : Nat} {r : Int32} {h9 : Hp} (H : MX12_readStyle h v0 = some (r, h9)) : J (d + 38) YX12_readStyle 0 [.ref v0, Value.null] [] h (oI r) h9 := by
  unfold MX12_readStyle at H
  refine J_aload_n 0 dX12_readStyle_0 rfl rfl ?_
  refine J_iconst (0 : Int32) dX12_readStyle_1 kc_0 ?_
  obtain ⟨g1, H⟩ := gd H
  obtain ⟨h2, e3, H⟩ := lt_el H
  refine J_pI 11 19 dX12_readStyle_2 g1 flX12_245 rfl rfl e3 ?_
  have c4 := ekI e3
  have c5 := elI e3
  have c6 := epI e3
  refine J_aload_n 0 dX12_readStyle_5 rfl rfl ?_
  refine J_bipush (62 : Int32) dX12_readStyle_6 kb_62 ?_
  obtain ⟨h7, e8, H⟩ := lt_el H
  refine J_pI 11 20 dX12_readStyle_8 (kq c4 g1) flX12_184 rfl rfl e8 ?_
  have c9 := (ekI e8).trans c4
  have c10 := (elI e8).trans c5
  have c11 := (epI e8).trans c6
  refine J_aload_n 0 dX12_readStyle_11 rfl rfl ?_
  refine J_iconst (0 : Int32) dX12_readStyle_12 kc_0 ?_
  obtain ⟨h12, e13, H⟩ := lt_el H
  refine J_pI 11 10 dX12_readStyle_13 (kq c9 g1) flX12_211 rfl rfl e13 ?_
  have c14 := (ekI e13).trans c9
  have c15 := (elI e13).trans c10
  have c16 := (epI e13).trans c11
  refine J_aload_n 0 dX12_readStyle_16 rfl rfl ?_
  obtain ⟨h18, e17, H⟩ := bd H
  refine J_cV (as := []) 11 YX12_blanks 0 dX12_readStyle_17 moX12_blanks mvX12_blanks mlX12_147 (kq c14 g1) rfl (okX12_blanks (d := d + 37) e17) rfl rfl [] rfl rfl (st2 := []) rfl ?_
  refine J_aload_n 0 dX12_readStyle_20 rfl rfl ?_
  obtain ⟨g19, H⟩ := gd H
  refine J_getI 11 8 dX12_readStyle_21 g19 flX12_137 rfl ?_
  refine J_aload_n 0 dX12_readStyle_24 rfl rfl ?_
  refine J_getI 11 7 dX12_readStyle_25 g19 flX12_134 rfl ?_
  refine J_icmp_ge 35 dX12_readStyle_28 rfl (fun q20 => ?_) (fun q20 => ?_)
  · replace H := br1 q20 H
    refine J_iconst (0 : Int32) dX12_readStyle_35 kc_0 ?_
    exact J_dr (kX12_readStyle_36 H ) ⟨rfl, trivial⟩
  · replace H := br0 q20 H
    refine J_iconst (1 : Int32) dX12_readStyle_31 kc_1 ?_
    refine J_goto 36 dX12_readStyle_32 rfl ?_
    exact J_dr (kX12_readStyle_36 H ) ⟨rfl, trivial⟩
theorem okX12_readStyle {d : Nat} {h : Hp} {v0 : Nat} {r : Int32} {h9 : Hp} (H : MX12_readStyle h v0 = some (r, h9)) : CT (d + 38) YX12_readStyle [.ref v0] h (oI r) h9 := CT_of (by decide +kernel) (Nat.le_of_ble_eq_true rfl) (eX12_readStyle H)
noncomputable def MX12_row_15 (h : Hp) (v0 : Nat) (v1 : Int32) (v2 : Int32) (s0 : Nat) (s1 : Int32) : Option (Int32 × Hp) :=
  gg (kd h s0 = 11) <|
  lt (sI h s0 0 s1) fun h6 =>
  gg (kd h v0 = 11) <|
  if (gI h6 v0 0) ≤ 0 then
    gg (kd h (gP h v0 1) = 20) <|
    gg (inB ((((337180 : Int32) + ((5 : Int32) * v1)) + (1 : Int32)) + v2) (ln h (gP h v0 1)) = true) <|
    some ((gI h6 (gP h v0 1) ((((337180 : Int32) + ((5 : Int32) * v1)) + (1 : Int32)) + v2).toNatClampNeg), h6)
  else
    some ((0 : Int32), h6)
set_option maxRecDepth 100000 in
set_option maxHeartbeats 8000000 in
theorem kX12_row_15 {d : Nat} {h : Hp} {v0 : Nat} {v1 : Int32} {v2 : Int32} {s0 : Nat} {s1 : Int32} {r : Int32} {h9 : Hp} (H : MX12_row_15 h v0 v1 v2 s0 s1 = some (r, h9)) : J (d + 2) YX12_row 15 [.ref v0, .int v1, .int v2] [.int s1, .ref s0] h (oI r) h9 := by
  unfold MX12_row_15 at H
  obtain ⟨g5, H⟩ := gd H
  obtain ⟨h6, e7, H⟩ := lt_el H
  refine J_pI 11 0 dX12_row_15 g5 flX12_122 rfl rfl e7 ?_
  have c8 := ekI e7
  have c9 := elI e7
  have c10 := epI e7
  refine J_aload_n 0 dX12_row_18 rfl rfl ?_
  obtain ⟨g11, H⟩ := gd H
  refine J_getI 11 0 dX12_row_19 (kq c8 g11) flX12_122 rfl ?_
  refine J_if_le 27 dX12_row_22 rfl (fun q12 => ?_) (fun q12 => ?_)
  · replace H := br1 q12 H
    refine J_aload_n 0 dX12_row_27 rfl rfl ?_
    refine J_gP 11 1 dX12_row_28 (kq c8 g11) flX12_8 rfl (congrFun (congrFun c10 v0) 1) ?_
    refine J_ldcw (337180 : Int32) coX12_390 dX12_row_31 ?_
    refine J_iconst (5 : Int32) dX12_row_34 kc_5 ?_
    refine J_iload_n 1 dX12_row_35 rfl rfl ?_
    refine J_imul dX12_row_36 ?_
    refine J_iadd dX12_row_37 ?_
    refine J_iconst (1 : Int32) dX12_row_38 kc_1 ?_
    refine J_iadd dX12_row_39 ?_
    refine J_iload_n 2 dX12_row_40 rfl rfl ?_
    refine J_iadd dX12_row_41 ?_
    obtain ⟨g13, H⟩ := gd H
    obtain ⟨g14, H⟩ := gd H
    refine J_iald dX12_row_42 (kq c8 g13) (lq c9 g14) ?_
    cases H
    exact J_iretI dX12_row_43 rfl
  · replace H := br0 q12 H
    refine J_iconst (0 : Int32) dX12_row_25 kc_0 ?_
    cases H
    exact J_iretI dX12_row_26 rfl
noncomputable def MX12_row (h : Hp) (v0 : Nat) (v1 : Int32) (v2 : Int32) : Option (Int32 × Hp) :=
  gg (kd h v0 = 11) <|
  Option.bind (MX12_isRow h v0 v1 v2) fun t3 =>
  if t3 = 0 then
    MX12_row_15 h v0 v1 v2 v0 (1 : Int32)
  else
    MX12_row_15 h v0 v1 v2 v0 (0 : Int32)
set_option maxRecDepth 100000 in
set_option maxHeartbeats 8000000 in
theorem eX12_row {d : Nat} {h : Hp} {v0 : Nat} {v1 : Int32} {v2 : Int32} {r : Int32} {h9 : Hp} (H : MX12_row h v0 v1 v2 = some (r, h9)) : J (d + 2) YX12_row 0 [.ref v0, .int v1, .int v2] [] h (oI r) h9 := by
  unfold MX12_row at H
  refine J_aload_n 0 dX12_row_0 rfl rfl ?_
  refine J_aload_n 0 dX12_row_1 rfl rfl ?_
  refine J_iload_n 1 dX12_row_2 rfl rfl ?_
  refine J_iload_n 2 dX12_row_3 rfl rfl ?_
  obtain ⟨g2, H⟩ := gd H
  obtain ⟨t3, e1, H⟩ := bd H
  refine J_cV (as := [.int v1, .int v2]) 11 YX12_isRow 2 dX12_row_4 moX12_isRow mvX12_isRow mlX12_481 g2 rfl (okX12_isRow (d := d) e1) rfl rfl [.ref v0] rfl rfl (st2 := [.int t3, .ref v0]) rfl ?_
  refine J_if_ne 14 dX12_row_7 rfl (fun q4 => ?_) (fun q4 => ?_)
  · replace H := br0 q4 H
    refine J_iconst (0 : Int32) dX12_row_14 kc_0 ?_
    exact J_dr (kX12_row_15 H ) ⟨rfl, ⟨rfl, ⟨rfl, trivial⟩⟩⟩
  · replace H := br1 q4 H
    refine J_iconst (1 : Int32) dX12_row_10 kc_1 ?_
    refine J_goto 15 dX12_row_11 rfl ?_
    exact J_dr (kX12_row_15 H ) ⟨rfl, ⟨rfl, ⟨rfl, trivial⟩⟩⟩
theorem okX12_row {d : Nat} {h : Hp} {v0 : Nat} {v1 : Int32} {v2 : Int32} {r : Int32} {h9 : Hp} (H : MX12_row h v0 v1 v2 = some (r, h9)) : CT (d + 2) YX12_row [.ref v0, .int v1, .int v2] h (oI r) h9 := CT_of (by decide +kernel) (Nat.le_of_ble_eq_true rfl) (eX12_row H)
noncomputable def MX12_rule_42 (h : Hp) (v0 : Nat) (v1 : Int32) (v2 : Int32) (v3 : Int32) (s0 : Nat) (s1 : Int32) : Option (Int32 × Hp) :=
  gg (kd h s0 = 11) <|
  lt (sI h s0 0 s1) fun h12 =>
  gg (kd h v0 = 11) <|
  if (gI h12 v0 0) ≤ 0 then
    Option.bind (MX12_tells h12 v0 v1 v2) fun h20 =>
    if v3 = 0 then
      gg (kd h20 v0 = 11) <|
      some ((gI h20 v0 25), h20)
    else
      if v3 = (1 : Int32) then
        gg (kd h20 v0 = 11) <|
        some ((gI h20 v0 27), h20)
      else
        if v3 = (2 : Int32) then
          gg (kd h20 v0 = 11) <|
          some ((gI h20 v0 28), h20)
        else
          if v3 = (3 : Int32) then
            gg (kd h20 v0 = 11) <|
            some ((gI h20 v0 29), h20)
          else
            if v3 = (4 : Int32) then
              gg (kd h20 v0 = 11) <|
              some ((gI h20 v0 30), h20)
            else
              gg (kd h20 v0 = 11) <|
              some ((gI h20 v0 26), h20)
  else
    some ((0 : Int32), h12)
set_option maxRecDepth 100000 in
set_option maxHeartbeats 8000000 in
theorem kX12_rule_42 {d : Nat} {h : Hp} {v0 : Nat} {v1 : Int32} {v2 : Int32} {v3 : Int32} {s0 : Nat} {s1 : Int32} {r : Int32} {h9 : Hp} (H : MX12_rule_42 h v0 v1 v2 v3 s0 s1 = some (r, h9)) : J (d + 3) YX12_rule 42 [.ref v0, .int v1, .int v2, .int v3] [.int s1, .ref s0] h (oI r) h9 := by
  unfold MX12_rule_42 at H
  obtain ⟨g11, H⟩ := gd H
  obtain ⟨h12, e13, H⟩ := lt_el H
  refine J_pI 11 0 dX12_rule_42 g11 flX12_122 rfl rfl e13 ?_
  have c14 := ekI e13
  have c15 := elI e13
  have c16 := epI e13
  refine J_aload_n 0 dX12_rule_45 rfl rfl ?_
  obtain ⟨g17, H⟩ := gd H
  refine J_getI 11 0 dX12_rule_46 (kq c14 g17) flX12_122 rfl ?_
  refine J_if_le 54 dX12_rule_49 rfl (fun q18 => ?_) (fun q18 => ?_)
  · replace H := br1 q18 H
    refine J_aload_n 0 dX12_rule_54 rfl rfl ?_
    refine J_iload_n 1 dX12_rule_55 rfl rfl ?_
    refine J_iload_n 2 dX12_rule_56 rfl rfl ?_
    obtain ⟨h20, e19, H⟩ := bd H
    refine J_cV (as := [.int v1, .int v2]) 11 YX12_tells 2 dX12_rule_57 moX12_tells mvX12_tells mlX12_314 (kq c14 g17) rfl (okX12_tells (d := d) e19) rfl rfl [] rfl rfl (st2 := []) rfl ?_
    refine J_iload_n 3 dX12_rule_60 rfl rfl ?_
    refine J_if_ne 71 dX12_rule_61 rfl (fun q21 => ?_) (fun q21 => ?_)
    · replace H := br0 q21 H
      refine J_iload_n 3 dX12_rule_71 rfl rfl ?_
      refine J_iconst (1 : Int32) dX12_rule_72 kc_1 ?_
      refine J_icmp_ne 83 dX12_rule_73 rfl (fun q22 => ?_) (fun q22 => ?_)
      · replace H := br0 q22 H
        refine J_iload_n 3 dX12_rule_83 rfl rfl ?_
        refine J_iconst (2 : Int32) dX12_rule_84 kc_2 ?_
        refine J_icmp_ne 95 dX12_rule_85 rfl (fun q23 => ?_) (fun q23 => ?_)
        · replace H := br0 q23 H
          refine J_iload_n 3 dX12_rule_95 rfl rfl ?_
          refine J_iconst (3 : Int32) dX12_rule_96 kc_3 ?_
          refine J_icmp_ne 107 dX12_rule_97 rfl (fun q24 => ?_) (fun q24 => ?_)
          · replace H := br0 q24 H
            refine J_iload_n 3 dX12_rule_107 rfl rfl ?_
            refine J_iconst (4 : Int32) dX12_rule_108 kc_4 ?_
            refine J_icmp_ne 119 dX12_rule_109 rfl (fun q25 => ?_) (fun q25 => ?_)
            · replace H := br0 q25 H
              refine J_aload_n 0 dX12_rule_119 rfl rfl ?_
              obtain ⟨g26, H⟩ := gd H
              refine J_getI 11 26 dX12_rule_120 g26 flX12_291 rfl ?_
              cases H
              exact J_iretI dX12_rule_123 rfl
            · replace H := br1 q25 H
              refine J_aload_n 0 dX12_rule_112 rfl rfl ?_
              obtain ⟨g27, H⟩ := gd H
              refine J_getI 11 30 dX12_rule_113 g27 flX12_309 rfl ?_
              refine J_goto 123 dX12_rule_116 rfl ?_
              cases H
              exact J_iretI dX12_rule_123 rfl
          · replace H := br1 q24 H
            refine J_aload_n 0 dX12_rule_100 rfl rfl ?_
            obtain ⟨g28, H⟩ := gd H
            refine J_getI 11 29 dX12_rule_101 g28 flX12_306 rfl ?_
            refine J_goto 123 dX12_rule_104 rfl ?_
            cases H
            exact J_iretI dX12_rule_123 rfl
        · replace H := br1 q23 H
          refine J_aload_n 0 dX12_rule_88 rfl rfl ?_
          obtain ⟨g29, H⟩ := gd H
          refine J_getI 11 28 dX12_rule_89 g29 flX12_303 rfl ?_
          refine J_goto 123 dX12_rule_92 rfl ?_
          cases H
          exact J_iretI dX12_rule_123 rfl
      · replace H := br1 q22 H
        refine J_aload_n 0 dX12_rule_76 rfl rfl ?_
        obtain ⟨g30, H⟩ := gd H
        refine J_getI 11 27 dX12_rule_77 g30 flX12_300 rfl ?_
        refine J_goto 123 dX12_rule_80 rfl ?_
        cases H
        exact J_iretI dX12_rule_123 rfl
    · replace H := br1 q21 H
      refine J_aload_n 0 dX12_rule_64 rfl rfl ?_
      obtain ⟨g31, H⟩ := gd H
      refine J_getI 11 25 dX12_rule_65 g31 flX12_298 rfl ?_
      refine J_goto 123 dX12_rule_68 rfl ?_
      cases H
      exact J_iretI dX12_rule_123 rfl
  · replace H := br0 q18 H
    refine J_iconst (0 : Int32) dX12_rule_52 kc_0 ?_
    cases H
    exact J_iretI dX12_rule_53 rfl
noncomputable def MX12_rule (h : Hp) (v0 : Nat) (v1 : Int32) (v2 : Int32) (v3 : Int32) : Option (Int32 × Hp) :=
  gg (kd h v0 = 11) <|
  Option.bind (MX12_isPart h v0 v1) fun t3 =>
  if t3 = 0 then
    MX12_rule_42 h v0 v1 v2 v3 v0 (1 : Int32)
  else
    Option.bind (MX12_isIn h v2 (0 : Int32) (600 : Int32)) fun t6 =>
    if t6 = 0 then
      MX12_rule_42 h v0 v1 v2 v3 v0 (2 : Int32)
    else
      Option.bind (MX12_isIn h v3 (0 : Int32) (5 : Int32)) fun t9 =>
      if t9 = 0 then
        MX12_rule_42 h v0 v1 v2 v3 v0 (3 : Int32)
      else
        MX12_rule_42 h v0 v1 v2 v3 v0 (0 : Int32)
set_option maxRecDepth 100000 in
set_option maxHeartbeats 8000000 in
theorem eX12_rule {d : Nat} {h : Hp} {v0 : Nat} {v1 : Int32} {v2 : Int32} {v3 : Int32} {r : Int32} {h9 : Hp} (H : MX12_rule h v0 v1 v2 v3 = some (r, h9)) : J (d + 3) YX12_rule 0 [.ref v0, .int v1, .int v2, .int v3] [] h (oI r) h9 := by
  unfold MX12_rule at H
  refine J_aload_n 0 dX12_rule_0 rfl rfl ?_
  refine J_aload_n 0 dX12_rule_1 rfl rfl ?_
  refine J_iload_n 1 dX12_rule_2 rfl rfl ?_
  obtain ⟨g2, H⟩ := gd H
  obtain ⟨t3, e1, H⟩ := bd H
  refine J_cV (as := [.int v1]) 11 YX12_isPart 1 dX12_rule_3 moX12_isPart mvX12_isPart mlX12_311 g2 rfl (okX12_isPart (d := d + 2) e1) rfl rfl [.ref v0] rfl rfl (st2 := [.int t3, .ref v0]) rfl ?_
  refine J_if_ne 13 dX12_rule_6 rfl (fun q4 => ?_) (fun q4 => ?_)
  · replace H := br0 q4 H
    refine J_iload_n 2 dX12_rule_13 rfl rfl ?_
    refine J_iconst (0 : Int32) dX12_rule_14 kc_0 ?_
    refine J_sipush (600 : Int32) dX12_rule_15 ks_600 ?_
    obtain ⟨t6, e5, H⟩ := bd H
    refine J_cS (as := [.int v2, .int (0 : Int32), .int (600 : Int32)]) YX12_isIn 3 dX12_rule_18 moX12_isIn msX12_isIn mlX12_157 (okX12_isIn (d := d + 2) e5) rfl rfl [.ref v0] rfl rfl (st2 := [.int t6, .ref v0]) rfl ?_
    refine J_if_ne 28 dX12_rule_21 rfl (fun q7 => ?_) (fun q7 => ?_)
    · replace H := br0 q7 H
      refine J_iload_n 3 dX12_rule_28 rfl rfl ?_
      refine J_iconst (0 : Int32) dX12_rule_29 kc_0 ?_
      refine J_iconst (5 : Int32) dX12_rule_30 kc_5 ?_
      obtain ⟨t9, e8, H⟩ := bd H
      refine J_cS (as := [.int v3, .int (0 : Int32), .int (5 : Int32)]) YX12_isIn 3 dX12_rule_31 moX12_isIn msX12_isIn mlX12_157 (okX12_isIn (d := d + 2) e8) rfl rfl [.ref v0] rfl rfl (st2 := [.int t9, .ref v0]) rfl ?_
      refine J_if_ne 41 dX12_rule_34 rfl (fun q10 => ?_) (fun q10 => ?_)
      · replace H := br0 q10 H
        refine J_iconst (0 : Int32) dX12_rule_41 kc_0 ?_
        exact J_dr (kX12_rule_42 H ) ⟨rfl, ⟨rfl, ⟨rfl, ⟨rfl, trivial⟩⟩⟩⟩
      · replace H := br1 q10 H
        refine J_iconst (3 : Int32) dX12_rule_37 kc_3 ?_
        refine J_goto 42 dX12_rule_38 rfl ?_
        exact J_dr (kX12_rule_42 H ) ⟨rfl, ⟨rfl, ⟨rfl, ⟨rfl, trivial⟩⟩⟩⟩
    · replace H := br1 q7 H
      refine J_iconst (2 : Int32) dX12_rule_24 kc_2 ?_
      refine J_goto 42 dX12_rule_25 rfl ?_
      exact J_dr (kX12_rule_42 H ) ⟨rfl, ⟨rfl, ⟨rfl, ⟨rfl, trivial⟩⟩⟩⟩
  · replace H := br1 q4 H
    refine J_iconst (1 : Int32) dX12_rule_9 kc_1 ?_
    refine J_goto 42 dX12_rule_10 rfl ?_
    exact J_dr (kX12_rule_42 H ) ⟨rfl, ⟨rfl, ⟨rfl, ⟨rfl, trivial⟩⟩⟩⟩
theorem okX12_rule {d : Nat} {h : Hp} {v0 : Nat} {v1 : Int32} {v2 : Int32} {v3 : Int32} {r : Int32} {h9 : Hp} (H : MX12_rule h v0 v1 v2 v3 = some (r, h9)) : CT (d + 3) YX12_rule [.ref v0, .int v1, .int v2, .int v3] h (oI r) h9 := CT_of (by decide +kernel) (Nat.le_of_ble_eq_true rfl) (eX12_rule H)
noncomputable def MX12_runs_27 (h : Hp) (v0 : Nat) (v1 : Int32) (v2 : Int32) (s0 : Nat) (s1 : Int32) : Option (Int32 × Hp) :=
  gg (kd h s0 = 11) <|
  lt (sI h s0 0 s1) fun h9 =>
  gg (kd h v0 = 11) <|
  if (gI h9 v0 0) ≤ 0 then
    Option.bind (MX12_machine0 h9 v1) fun t17 =>
    if v2 = 0 then
      gg (kd h (gP h v0 1) = 20) <|
      gg (inB (t17 + (29 : Int32)) (ln h (gP h v0 1)) = true) <|
      some ((gI h9 (gP h v0 1) (t17 + (29 : Int32)).toNatClampNeg), h9)
    else
      if v2 = (1 : Int32) then
        gg (kd h (gP h v0 1) = 20) <|
        gg (inB (t17 + (30 : Int32)) (ln h (gP h v0 1)) = true) <|
        some ((gI h9 (gP h v0 1) (t17 + (30 : Int32)).toNatClampNeg), h9)
      else
        if v2 = (2 : Int32) then
          gg (kd h (gP h v0 1) = 20) <|
          gg (inB (t17 + (31 : Int32)) (ln h (gP h v0 1)) = true) <|
          some ((gI h9 (gP h v0 1) (t17 + (31 : Int32)).toNatClampNeg), h9)
        else
          if v2 = (3 : Int32) then
            gg (kd h (gP h v0 1) = 20) <|
            gg (inB (t17 + (32 : Int32)) (ln h (gP h v0 1)) = true) <|
            some ((gI h9 (gP h v0 1) (t17 + (32 : Int32)).toNatClampNeg), h9)
          else
            if v2 = (4 : Int32) then
              gg (kd h (gP h v0 1) = 20) <|
              gg (inB (t17 + (28 : Int32)) (ln h (gP h v0 1)) = true) <|
              some ((gI h9 (gP h v0 1) (t17 + (28 : Int32)).toNatClampNeg), h9)
            else
              gg (kd h (gP h v0 1) = 20) <|
              gg (inB (t17 + (29 : Int32)) (ln h (gP h v0 1)) = true) <|
              if (gI h9 (gP h v0 1) (t17 + (29 : Int32)).toNatClampNeg) = 0 then
                some ((-1 : Int32), h9)
              else
                gg (inB (t17 + (33 : Int32)) (ln h (gP h v0 1)) = true) <|
                some ((gI h9 (gP h v0 1) (t17 + (33 : Int32)).toNatClampNeg), h9)
  else
    some ((0 : Int32), h9)
set_option maxRecDepth 100000 in
set_option maxHeartbeats 8000000 in
theorem kX12_runs_27 {d : Nat} {h : Hp} {v0 : Nat} {v1 : Int32} {v2 : Int32} {s0 : Nat} {s1 : Int32} {r : Int32} {h9 : Hp} (H : MX12_runs_27 h v0 v1 v2 s0 s1 = some (r, h9)) : J (d + 1) YX12_runs 27 [.ref v0, .int v1, .int v2, Value.null] [.int s1, .ref s0] h (oI r) h9 := by
  unfold MX12_runs_27 at H
  obtain ⟨g8, H⟩ := gd H
  obtain ⟨h9, e10, H⟩ := lt_el H
  refine J_pI 11 0 dX12_runs_27 g8 flX12_122 rfl rfl e10 ?_
  have c11 := ekI e10
  have c12 := elI e10
  have c13 := epI e10
  refine J_aload_n 0 dX12_runs_30 rfl rfl ?_
  obtain ⟨g14, H⟩ := gd H
  refine J_getI 11 0 dX12_runs_31 (kq c11 g14) flX12_122 rfl ?_
  refine J_if_le 39 dX12_runs_34 rfl (fun q15 => ?_) (fun q15 => ?_)
  · replace H := br1 q15 H
    refine J_iload_n 1 dX12_runs_39 rfl rfl ?_
    obtain ⟨t17, e16, H⟩ := bd H
    refine J_cS (as := [.int v1]) YX12_machine0 1 dX12_runs_40 moX12_machine0 msX12_machine0 mlX12_360 (okX12_machine0 (d := d) e16) rfl rfl [] rfl rfl (st2 := [.int t17]) rfl ?_
    refine J_istore_n 3 dX12_runs_43 rfl (by decide) (ls' := [.ref v0, .int v1, .int v2, .int t17]) rfl ?_
    refine J_iload_n 2 dX12_runs_44 rfl rfl ?_
    refine J_if_ne 60 dX12_runs_45 rfl (fun q18 => ?_) (fun q18 => ?_)
    · replace H := br0 q18 H
      refine J_iload_n 2 dX12_runs_60 rfl rfl ?_
      refine J_iconst (1 : Int32) dX12_runs_61 kc_1 ?_
      refine J_icmp_ne 77 dX12_runs_62 rfl (fun q19 => ?_) (fun q19 => ?_)
      · replace H := br0 q19 H
        refine J_iload_n 2 dX12_runs_77 rfl rfl ?_
        refine J_iconst (2 : Int32) dX12_runs_78 kc_2 ?_
        refine J_icmp_ne 94 dX12_runs_79 rfl (fun q20 => ?_) (fun q20 => ?_)
        · replace H := br0 q20 H
          refine J_iload_n 2 dX12_runs_94 rfl rfl ?_
          refine J_iconst (3 : Int32) dX12_runs_95 kc_3 ?_
          refine J_icmp_ne 111 dX12_runs_96 rfl (fun q21 => ?_) (fun q21 => ?_)
          · replace H := br0 q21 H
            refine J_iload_n 2 dX12_runs_111 rfl rfl ?_
            refine J_iconst (4 : Int32) dX12_runs_112 kc_4 ?_
            refine J_icmp_ne 128 dX12_runs_113 rfl (fun q22 => ?_) (fun q22 => ?_)
            · replace H := br0 q22 H
              refine J_aload_n 0 dX12_runs_128 rfl rfl ?_
              refine J_gP 11 1 dX12_runs_129 (kq c11 g14) flX12_8 rfl (congrFun (congrFun c13 v0) 1) ?_
              refine J_iload_n 3 dX12_runs_132 rfl rfl ?_
              refine J_bipush (29 : Int32) dX12_runs_133 kb_29 ?_
              refine J_iadd dX12_runs_135 ?_
              obtain ⟨g23, H⟩ := gd H
              obtain ⟨g24, H⟩ := gd H
              refine J_iald dX12_runs_136 (kq c11 g23) (lq c12 g24) ?_
              refine J_if_ne 144 dX12_runs_137 rfl (fun q25 => ?_) (fun q25 => ?_)
              · replace H := br0 q25 H
                refine J_aload_n 0 dX12_runs_144 rfl rfl ?_
                refine J_gP 11 1 dX12_runs_145 (kq c11 g14) flX12_8 rfl (congrFun (congrFun c13 v0) 1) ?_
                refine J_iload_n 3 dX12_runs_148 rfl rfl ?_
                refine J_bipush (33 : Int32) dX12_runs_149 kb_33 ?_
                refine J_iadd dX12_runs_151 ?_
                obtain ⟨g26, H⟩ := gd H
                refine J_iald dX12_runs_152 (kq c11 g23) (lq c12 g26) ?_
                cases H
                exact J_iretI dX12_runs_153 rfl
              · replace H := br1 q25 H
                refine J_iconst (-1 : Int32) dX12_runs_140 kc_m1 ?_
                refine J_goto 153 dX12_runs_141 rfl ?_
                cases H
                exact J_iretI dX12_runs_153 rfl
            · replace H := br1 q22 H
              refine J_aload_n 0 dX12_runs_116 rfl rfl ?_
              refine J_gP 11 1 dX12_runs_117 (kq c11 g14) flX12_8 rfl (congrFun (congrFun c13 v0) 1) ?_
              refine J_iload_n 3 dX12_runs_120 rfl rfl ?_
              refine J_bipush (28 : Int32) dX12_runs_121 kb_28 ?_
              refine J_iadd dX12_runs_123 ?_
              obtain ⟨g27, H⟩ := gd H
              obtain ⟨g28, H⟩ := gd H
              refine J_iald dX12_runs_124 (kq c11 g27) (lq c12 g28) ?_
              refine J_goto 153 dX12_runs_125 rfl ?_
              cases H
              exact J_iretI dX12_runs_153 rfl
          · replace H := br1 q21 H
            refine J_aload_n 0 dX12_runs_99 rfl rfl ?_
            refine J_gP 11 1 dX12_runs_100 (kq c11 g14) flX12_8 rfl (congrFun (congrFun c13 v0) 1) ?_
            refine J_iload_n 3 dX12_runs_103 rfl rfl ?_
            refine J_bipush (32 : Int32) dX12_runs_104 kb_32 ?_
            refine J_iadd dX12_runs_106 ?_
            obtain ⟨g29, H⟩ := gd H
            obtain ⟨g30, H⟩ := gd H
            refine J_iald dX12_runs_107 (kq c11 g29) (lq c12 g30) ?_
            refine J_goto 153 dX12_runs_108 rfl ?_
            cases H
            exact J_iretI dX12_runs_153 rfl
        · replace H := br1 q20 H
          refine J_aload_n 0 dX12_runs_82 rfl rfl ?_
          refine J_gP 11 1 dX12_runs_83 (kq c11 g14) flX12_8 rfl (congrFun (congrFun c13 v0) 1) ?_
          refine J_iload_n 3 dX12_runs_86 rfl rfl ?_
          refine J_bipush (31 : Int32) dX12_runs_87 kb_31 ?_
          refine J_iadd dX12_runs_89 ?_
          obtain ⟨g31, H⟩ := gd H
          obtain ⟨g32, H⟩ := gd H
          refine J_iald dX12_runs_90 (kq c11 g31) (lq c12 g32) ?_
          refine J_goto 153 dX12_runs_91 rfl ?_
          cases H
          exact J_iretI dX12_runs_153 rfl
      · replace H := br1 q19 H
        refine J_aload_n 0 dX12_runs_65 rfl rfl ?_
        refine J_gP 11 1 dX12_runs_66 (kq c11 g14) flX12_8 rfl (congrFun (congrFun c13 v0) 1) ?_
        refine J_iload_n 3 dX12_runs_69 rfl rfl ?_
        refine J_bipush (30 : Int32) dX12_runs_70 kb_30 ?_
        refine J_iadd dX12_runs_72 ?_
        obtain ⟨g33, H⟩ := gd H
        obtain ⟨g34, H⟩ := gd H
        refine J_iald dX12_runs_73 (kq c11 g33) (lq c12 g34) ?_
        refine J_goto 153 dX12_runs_74 rfl ?_
        cases H
        exact J_iretI dX12_runs_153 rfl
    · replace H := br1 q18 H
      refine J_aload_n 0 dX12_runs_48 rfl rfl ?_
      refine J_gP 11 1 dX12_runs_49 (kq c11 g14) flX12_8 rfl (congrFun (congrFun c13 v0) 1) ?_
      refine J_iload_n 3 dX12_runs_52 rfl rfl ?_
      refine J_bipush (29 : Int32) dX12_runs_53 kb_29 ?_
      refine J_iadd dX12_runs_55 ?_
      obtain ⟨g35, H⟩ := gd H
      obtain ⟨g36, H⟩ := gd H
      refine J_iald dX12_runs_56 (kq c11 g35) (lq c12 g36) ?_
      refine J_goto 153 dX12_runs_57 rfl ?_
      cases H
      exact J_iretI dX12_runs_153 rfl
  · replace H := br0 q15 H
    refine J_iconst (0 : Int32) dX12_runs_37 kc_0 ?_
    cases H
    exact J_iretI dX12_runs_38 rfl
noncomputable def MX12_runs (h : Hp) (v0 : Nat) (v1 : Int32) (v2 : Int32) : Option (Int32 × Hp) :=
  gg (kd h v0 = 11) <|
  Option.bind (MX12_isMachine h v0 v1) fun t3 =>
  if t3 = 0 then
    MX12_runs_27 h v0 v1 v2 v0 (1 : Int32)
  else
    Option.bind (MX12_isIn h v2 (0 : Int32) (5 : Int32)) fun t6 =>
    if t6 = 0 then
      MX12_runs_27 h v0 v1 v2 v0 (2 : Int32)
    else
      MX12_runs_27 h v0 v1 v2 v0 (0 : Int32)
set_option maxRecDepth 100000 in
set_option maxHeartbeats 8000000 in
theorem eX12_runs {d : Nat} {h : Hp} {v0 : Nat} {v1 : Int32} {v2 : Int32} {r : Int32} {h9 : Hp} (H : MX12_runs h v0 v1 v2 = some (r, h9)) : J (d + 1) YX12_runs 0 [.ref v0, .int v1, .int v2, Value.null] [] h (oI r) h9 := by
  unfold MX12_runs at H
  refine J_aload_n 0 dX12_runs_0 rfl rfl ?_
  refine J_aload_n 0 dX12_runs_1 rfl rfl ?_
  refine J_iload_n 1 dX12_runs_2 rfl rfl ?_
  obtain ⟨g2, H⟩ := gd H
  obtain ⟨t3, e1, H⟩ := bd H
  refine J_cV (as := [.int v1]) 11 YX12_isMachine 1 dX12_runs_3 moX12_isMachine mvX12_isMachine mlX12_363 g2 rfl (okX12_isMachine (d := d) e1) rfl rfl [.ref v0] rfl rfl (st2 := [.int t3, .ref v0]) rfl ?_
  refine J_if_ne 13 dX12_runs_6 rfl (fun q4 => ?_) (fun q4 => ?_)
  · replace H := br0 q4 H
    refine J_iload_n 2 dX12_runs_13 rfl rfl ?_
    refine J_iconst (0 : Int32) dX12_runs_14 kc_0 ?_
    refine J_iconst (5 : Int32) dX12_runs_15 kc_5 ?_
    obtain ⟨t6, e5, H⟩ := bd H
    refine J_cS (as := [.int v2, .int (0 : Int32), .int (5 : Int32)]) YX12_isIn 3 dX12_runs_16 moX12_isIn msX12_isIn mlX12_157 (okX12_isIn (d := d) e5) rfl rfl [.ref v0] rfl rfl (st2 := [.int t6, .ref v0]) rfl ?_
    refine J_if_ne 26 dX12_runs_19 rfl (fun q7 => ?_) (fun q7 => ?_)
    · replace H := br0 q7 H
      refine J_iconst (0 : Int32) dX12_runs_26 kc_0 ?_
      exact J_dr (kX12_runs_27 H ) ⟨rfl, ⟨rfl, ⟨rfl, trivial⟩⟩⟩
    · replace H := br1 q7 H
      refine J_iconst (2 : Int32) dX12_runs_22 kc_2 ?_
      refine J_goto 27 dX12_runs_23 rfl ?_
      exact J_dr (kX12_runs_27 H ) ⟨rfl, ⟨rfl, ⟨rfl, trivial⟩⟩⟩
  · replace H := br1 q4 H
    refine J_iconst (1 : Int32) dX12_runs_9 kc_1 ?_
    refine J_goto 27 dX12_runs_10 rfl ?_
    exact J_dr (kX12_runs_27 H ) ⟨rfl, ⟨rfl, ⟨rfl, trivial⟩⟩⟩
theorem okX12_runs {d : Nat} {h : Hp} {v0 : Nat} {v1 : Int32} {v2 : Int32} {r : Int32} {h9 : Hp} (H : MX12_runs h v0 v1 v2 = some (r, h9)) : CT (d + 1) YX12_runs [.ref v0, .int v1, .int v2] h (oI r) h9 := CT_of (by decide +kernel) (Nat.le_of_ble_eq_true rfl) (eX12_runs H)
noncomputable def MX12_says_14 (h : Hp) (v0 : Nat) (v1 : Int32) (v2 : Int32) (s0 : Nat) (s1 : Int32) : Option (Int32 × Hp) :=
  gg (kd h s0 = 11) <|
  lt (sI h s0 0 s1) fun h6 =>
  gg (kd h v0 = 11) <|
  if (gI h6 v0 0) ≤ 0 then
    Option.bind (MX12_slug0 h6 v1) fun t14 =>
    gg (kd h (gP h v0 1) = 20) <|
    gg (inB (t14 + (9 : Int32)) (ln h (gP h v0 1)) = true) <|
    Option.bind (MX12_isIn h6 v2 (0 : Int32) ((gI h6 (gP h v0 1) (t14 + (9 : Int32)).toNatClampNeg) - (1 : Int32))) fun t18 =>
    if t18 = 0 then
      some ((-1 : Int32), h6)
    else
      Option.bind (MX12_slug0 h6 v1) fun t21 =>
      gg (inB ((t21 + (432 : Int32)) + v2) (ln h (gP h v0 1)) = true) <|
      some ((gI h6 (gP h v0 1) ((t21 + (432 : Int32)) + v2).toNatClampNeg), h6)
  else
    some ((0 : Int32), h6)
set_option maxRecDepth 100000 in
set_option maxHeartbeats 8000000 in
theorem kX12_says_14 {d : Nat} {h : Hp} {v0 : Nat} {v1 : Int32} {v2 : Int32} {s0 : Nat} {s1 : Int32} {r : Int32} {h9 : Hp} (H : MX12_says_14 h v0 v1 v2 s0 s1 = some (r, h9)) : J (d + 1) YX12_says 14 [.ref v0, .int v1, .int v2] [.int s1, .ref s0] h (oI r) h9 := by
  unfold MX12_says_14 at H
  obtain ⟨g5, H⟩ := gd H
  obtain ⟨h6, e7, H⟩ := lt_el H
  refine J_pI 11 0 dX12_says_14 g5 flX12_122 rfl rfl e7 ?_
  have c8 := ekI e7
  have c9 := elI e7
  have c10 := epI e7
  refine J_aload_n 0 dX12_says_17 rfl rfl ?_
  obtain ⟨g11, H⟩ := gd H
  refine J_getI 11 0 dX12_says_18 (kq c8 g11) flX12_122 rfl ?_
  refine J_if_le 26 dX12_says_21 rfl (fun q12 => ?_) (fun q12 => ?_)
  · replace H := br1 q12 H
    refine J_iload_n 2 dX12_says_26 rfl rfl ?_
    refine J_iconst (0 : Int32) dX12_says_27 kc_0 ?_
    refine J_aload_n 0 dX12_says_28 rfl rfl ?_
    refine J_gP 11 1 dX12_says_29 (kq c8 g11) flX12_8 rfl (congrFun (congrFun c10 v0) 1) ?_
    refine J_iload_n 1 dX12_says_32 rfl rfl ?_
    obtain ⟨t14, e13, H⟩ := bd H
    refine J_cS (as := [.int v1]) YX12_slug0 1 dX12_says_33 moX12_slug0 msX12_slug0 mlX12_342 (okX12_slug0 (d := d) e13) rfl rfl [.ref (gP h v0 1), .int (0 : Int32), .int v2] rfl rfl (st2 := [.int t14, .ref (gP h v0 1), .int (0 : Int32), .int v2]) rfl ?_
    refine J_bipush (9 : Int32) dX12_says_36 kb_9 ?_
    refine J_iadd dX12_says_38 ?_
    obtain ⟨g15, H⟩ := gd H
    obtain ⟨g16, H⟩ := gd H
    refine J_iald dX12_says_39 (kq c8 g15) (lq c9 g16) ?_
    refine J_iconst (1 : Int32) dX12_says_40 kc_1 ?_
    refine J_isub dX12_says_41 ?_
    obtain ⟨t18, e17, H⟩ := bd H
    refine J_cS (as := [.int v2, .int (0 : Int32), .int ((gI h6 (gP h v0 1) (t14 + (9 : Int32)).toNatClampNeg) - (1 : Int32))]) YX12_isIn 3 dX12_says_42 moX12_isIn msX12_isIn mlX12_157 (okX12_isIn (d := d) e17) rfl rfl [] rfl rfl (st2 := [.int t18]) rfl ?_
    refine J_if_eq 66 dX12_says_45 rfl (fun q19 => ?_) (fun q19 => ?_)
    · replace H := br1 q19 H
      refine J_iconst (-1 : Int32) dX12_says_66 kc_m1 ?_
      cases H
      exact J_iretI dX12_says_67 rfl
    · replace H := br0 q19 H
      refine J_aload_n 0 dX12_says_48 rfl rfl ?_
      refine J_gP 11 1 dX12_says_49 (kq c8 g11) flX12_8 rfl (congrFun (congrFun c10 v0) 1) ?_
      refine J_iload_n 1 dX12_says_52 rfl rfl ?_
      obtain ⟨t21, e20, H⟩ := bd H
      refine J_cS (as := [.int v1]) YX12_slug0 1 dX12_says_53 moX12_slug0 msX12_slug0 mlX12_342 (okX12_slug0 (d := d) e20) rfl rfl [.ref (gP h v0 1)] rfl rfl (st2 := [.int t21, .ref (gP h v0 1)]) rfl ?_
      refine J_sipush (432 : Int32) dX12_says_56 ks_432 ?_
      refine J_iadd dX12_says_59 ?_
      refine J_iload_n 2 dX12_says_60 rfl rfl ?_
      refine J_iadd dX12_says_61 ?_
      obtain ⟨g22, H⟩ := gd H
      refine J_iald dX12_says_62 (kq c8 g15) (lq c9 g22) ?_
      refine J_goto 67 dX12_says_63 rfl ?_
      cases H
      exact J_iretI dX12_says_67 rfl
  · replace H := br0 q12 H
    refine J_iconst (0 : Int32) dX12_says_24 kc_0 ?_
    cases H
    exact J_iretI dX12_says_25 rfl
noncomputable def MX12_says (h : Hp) (v0 : Nat) (v1 : Int32) (v2 : Int32) : Option (Int32 × Hp) :=
  gg (kd h v0 = 11) <|
  Option.bind (MX12_isSlug h v0 v1) fun t3 =>
  if t3 = 0 then
    MX12_says_14 h v0 v1 v2 v0 (1 : Int32)
  else
    MX12_says_14 h v0 v1 v2 v0 (0 : Int32)
set_option maxRecDepth 100000 in
set_option maxHeartbeats 8000000 in
theorem eX12_says {d : Nat} {h : Hp} {v0 : Nat} {v1 : Int32} {v2 : Int32} {r : Int32} {h9 : Hp} (H : MX12_says h v0 v1 v2 = some (r, h9)) : J (d + 1) YX12_says 0 [.ref v0, .int v1, .int v2] [] h (oI r) h9 := by
  unfold MX12_says at H
  refine J_aload_n 0 dX12_says_0 rfl rfl ?_
  refine J_aload_n 0 dX12_says_1 rfl rfl ?_
  refine J_iload_n 1 dX12_says_2 rfl rfl ?_
  obtain ⟨g2, H⟩ := gd H
  obtain ⟨t3, e1, H⟩ := bd H
  refine J_cV (as := [.int v1]) 11 YX12_isSlug 1 dX12_says_3 moX12_isSlug mvX12_isSlug mlX12_396 g2 rfl (okX12_isSlug (d := d) e1) rfl rfl [.ref v0] rfl rfl (st2 := [.int t3, .ref v0]) rfl ?_
  refine J_if_ne 13 dX12_says_6 rfl (fun q4 => ?_) (fun q4 => ?_)
  · replace H := br0 q4 H
    refine J_iconst (0 : Int32) dX12_says_13 kc_0 ?_
    exact J_dr (kX12_says_14 H ) ⟨rfl, ⟨rfl, ⟨rfl, trivial⟩⟩⟩
  · replace H := br1 q4 H
    refine J_iconst (1 : Int32) dX12_says_9 kc_1 ?_
    refine J_goto 14 dX12_says_10 rfl ?_
    exact J_dr (kX12_says_14 H ) ⟨rfl, ⟨rfl, ⟨rfl, trivial⟩⟩⟩
theorem okX12_says {d : Nat} {h : Hp} {v0 : Nat} {v1 : Int32} {v2 : Int32} {r : Int32} {h9 : Hp} (H : MX12_says h v0 v1 v2 = some (r, h9)) : CT (d + 1) YX12_says [.ref v0, .int v1, .int v2] h (oI r) h9 := CT_of (by decide +kernel) (Nat.le_of_ble_eq_true rfl) (eX12_says H)
noncomputable def MX12_slip_167 (h : Hp) (v0 : Nat) (v3 : Int32) (v4 : Int32) (v5 : Int32) (s0 : Int32) : Option (Int32 × Hp) :=
  gg (kd h v0 = 11) <|
  gg (kd h (gP h v0 1) = 20) <|
  gg (inB ((v4 + (432 : Int32)) + v5) (ln h (gP h v0 1)) = true) <|
  lt (sI h (gP h v0 1) ((v4 + (432 : Int32)) + v5).toNatClampNeg ((97 : Int32) + v3)) fun h34 =>
  gg (zOk s0 = true) <|
  some (s0, h34)
set_option maxRecDepth 100000 in
set_option maxHeartbeats 8000000 in
theorem kX12_slip_167 {d : Nat} {h : Hp} {v0 : Nat} {v3 : Int32} {v4 : Int32} {v5 : Int32} {s0 : Int32} {r : Int32} {h9 : Hp} (H : MX12_slip_167 h v0 v3 v4 v5 s0 = some (r, h9)) : J (d + 1) YX12_slip 167 [.ref v0, Value.null, Value.null, .int v3, .int v4, .int v5, Value.null, Value.null] [.int s0] h (oI r) h9 := by
  unfold MX12_slip_167 at H
  refine J_istore dX12_slip_167 (by decide) (ls' := [.ref v0, Value.null, Value.null, .int v3, .int v4, .int v5, Value.null, .int s0]) rfl ?_
  refine J_aload_n 0 dX12_slip_169 rfl rfl ?_
  obtain ⟨g31, H⟩ := gd H
  refine J_gP 11 1 dX12_slip_170 g31 flX12_8 rfl rfl ?_
  refine J_iload dX12_slip_173 rfl ?_
  refine J_sipush (432 : Int32) dX12_slip_175 ks_432 ?_
  refine J_iadd dX12_slip_178 ?_
  refine J_iload dX12_slip_179 rfl ?_
  refine J_iadd dX12_slip_181 ?_
  refine J_bipush (97 : Int32) dX12_slip_182 kb_97 ?_
  refine J_iload_n 3 dX12_slip_184 rfl rfl ?_
  refine J_iadd dX12_slip_185 ?_
  obtain ⟨g32, H⟩ := gd H
  obtain ⟨g33, H⟩ := gd H
  obtain ⟨h34, e35, H⟩ := lt_el H
  refine J_sI dX12_slip_186 g32 (inB_ok g33) e35 ?_
  have c36 := ekI e35
  have c37 := elI e35
  have c38 := epI e35
  refine J_iload dX12_slip_187 rfl ?_
  obtain ⟨g39, H⟩ := gd H
  cases H
  exact J_rZ dX12_slip_189 rfl g39
noncomputable def MX12_slip_129 (h : Hp) (v0 : Nat) (v3 : Int32) (v4 : Int32) (v5 : Int32) (s0 : Nat) (s1 : Int32) : Option (Int32 × Hp) :=
  gg (kd h s0 = 11) <|
  lt (sI h s0 0 s1) fun h21 =>
  gg (kd h v0 = 11) <|
  if (gI h21 v0 0) ≤ 0 then
    gg (kd h (gP h v0 1) = 20) <|
    gg (inB ((v4 + (432 : Int32)) + v5) (ln h (gP h v0 1)) = true) <|
    if (gI h21 (gP h v0 1) ((v4 + (432 : Int32)) + v5).toNatClampNeg) = ((97 : Int32) + v3) then
      MX12_slip_167 h21 v0 v3 v4 v5 (0 : Int32)
    else
      MX12_slip_167 h21 v0 v3 v4 v5 (1 : Int32)
  else
    some ((0 : Int32), h21)
set_option maxRecDepth 100000 in
set_option maxHeartbeats 8000000 in
theorem kX12_slip_129 {d : Nat} {h : Hp} {v0 : Nat} {v3 : Int32} {v4 : Int32} {v5 : Int32} {s0 : Nat} {s1 : Int32} {r : Int32} {h9 : Hp} (H : MX12_slip_129 h v0 v3 v4 v5 s0 s1 = some (r, h9)) : J (d + 1) YX12_slip 129 [.ref v0, Value.null, Value.null, .int v3, .int v4, .int v5, Value.null, Value.null] [.int s1, .ref s0] h (oI r) h9 := by
  unfold MX12_slip_129 at H
  obtain ⟨g20, H⟩ := gd H
  obtain ⟨h21, e22, H⟩ := lt_el H
  refine J_pI 11 0 dX12_slip_129 g20 flX12_122 rfl rfl e22 ?_
  have c23 := ekI e22
  have c24 := elI e22
  have c25 := epI e22
  refine J_aload_n 0 dX12_slip_132 rfl rfl ?_
  obtain ⟨g26, H⟩ := gd H
  refine J_getI 11 0 dX12_slip_133 (kq c23 g26) flX12_122 rfl ?_
  refine J_if_le 141 dX12_slip_136 rfl (fun q27 => ?_) (fun q27 => ?_)
  · replace H := br1 q27 H
    refine J_aload_n 0 dX12_slip_141 rfl rfl ?_
    refine J_gP 11 1 dX12_slip_142 (kq c23 g26) flX12_8 rfl (congrFun (congrFun c25 v0) 1) ?_
    refine J_iload dX12_slip_145 rfl ?_
    refine J_sipush (432 : Int32) dX12_slip_147 ks_432 ?_
    refine J_iadd dX12_slip_150 ?_
    refine J_iload dX12_slip_151 rfl ?_
    refine J_iadd dX12_slip_153 ?_
    obtain ⟨g28, H⟩ := gd H
    obtain ⟨g29, H⟩ := gd H
    refine J_iald dX12_slip_154 (kq c23 g28) (lq c24 g29) ?_
    refine J_bipush (97 : Int32) dX12_slip_155 kb_97 ?_
    refine J_iload_n 3 dX12_slip_157 rfl rfl ?_
    refine J_iadd dX12_slip_158 ?_
    refine J_icmp_eq 166 dX12_slip_159 rfl (fun q30 => ?_) (fun q30 => ?_)
    · replace H := br1 q30 H
      refine J_iconst (0 : Int32) dX12_slip_166 kc_0 ?_
      exact J_dr (kX12_slip_167 H ) ⟨rfl, ⟨rfl, ⟨rfl, ⟨rfl, trivial⟩⟩⟩⟩
    · replace H := br0 q30 H
      refine J_iconst (1 : Int32) dX12_slip_162 kc_1 ?_
      refine J_goto 167 dX12_slip_163 rfl ?_
      exact J_dr (kX12_slip_167 H ) ⟨rfl, ⟨rfl, ⟨rfl, ⟨rfl, trivial⟩⟩⟩⟩
  · replace H := br0 q27 H
    refine J_iconst (0 : Int32) dX12_slip_139 kc_0 ?_
    cases H
    exact J_rZ dX12_slip_140 rfl rfl
noncomputable def MX12_slip_124 (h : Hp) (v0 : Nat) (v3 : Int32) (v4 : Int32) (v5 : Int32) (s0 : Nat) : Option (Int32 × Hp) :=
  MX12_slip_129 h v0 v3 v4 v5 s0 (2 : Int32)
set_option maxRecDepth 100000 in
set_option maxHeartbeats 8000000 in
theorem kX12_slip_124 {d : Nat} {h : Hp} {v0 : Nat} {v3 : Int32} {v4 : Int32} {v5 : Int32} {s0 : Nat} {r : Int32} {h9 : Hp} (H : MX12_slip_124 h v0 v3 v4 v5 s0 = some (r, h9)) : J (d + 1) YX12_slip 124 [.ref v0, Value.null, Value.null, .int v3, .int v4, .int v5, Value.null, Value.null] [.ref s0] h (oI r) h9 := by
  unfold MX12_slip_124 at H
  refine J_iconst (2 : Int32) dX12_slip_124 kc_2 ?_
  refine J_goto 129 dX12_slip_125 rfl ?_
  exact J_dr (kX12_slip_129 H ) ⟨rfl, ⟨rfl, ⟨rfl, ⟨rfl, trivial⟩⟩⟩⟩
noncomputable def MX12_slip_107 (h : Hp) (v0 : Nat) (v3 : Int32) (v4 : Int32) (v5 : Int32) : Option (Int32 × Hp) :=
  if v5 = (-1 : Int32) then
    MX12_slip_124 h v0 v3 v4 v5 v0
  else
    Option.bind (MX12_isIn h v3 (0 : Int32) (25 : Int32)) fun t41 =>
    if t41 = 0 then
      MX12_slip_124 h v0 v3 v4 v5 v0
    else
      MX12_slip_129 h v0 v3 v4 v5 v0 (0 : Int32)
set_option maxRecDepth 100000 in
set_option maxHeartbeats 8000000 in
theorem kX12_slip_107 {d : Nat} {h : Hp} {v0 : Nat} {v3 : Int32} {v4 : Int32} {v5 : Int32} {r : Int32} {h9 : Hp} (H : MX12_slip_107 h v0 v3 v4 v5 = some (r, h9)) : J (d + 1) YX12_slip 107 [.ref v0, Value.null, Value.null, .int v3, .int v4, .int v5, Value.null, Value.null] [] h (oI r) h9 := by
  unfold MX12_slip_107 at H
  refine J_aload_n 0 dX12_slip_107 rfl rfl ?_
  refine J_iload dX12_slip_108 rfl ?_
  refine J_iconst (-1 : Int32) dX12_slip_110 kc_m1 ?_
  refine J_icmp_eq 124 dX12_slip_111 rfl (fun q19 => ?_) (fun q19 => ?_)
  · replace H := br1 q19 H
    exact J_dr (kX12_slip_124 H ) ⟨rfl, ⟨rfl, ⟨rfl, ⟨rfl, trivial⟩⟩⟩⟩
  · replace H := br0 q19 H
    refine J_iload_n 3 dX12_slip_114 rfl rfl ?_
    refine J_iconst (0 : Int32) dX12_slip_115 kc_0 ?_
    refine J_bipush (25 : Int32) dX12_slip_116 kb_25 ?_
    obtain ⟨t41, e40, H⟩ := bd H
    refine J_cS (as := [.int v3, .int (0 : Int32), .int (25 : Int32)]) YX12_isIn 3 dX12_slip_118 moX12_isIn msX12_isIn mlX12_157 (okX12_isIn (d := d) e40) rfl rfl [.ref v0] rfl rfl (st2 := [.int t41, .ref v0]) rfl ?_
    refine J_if_ne 128 dX12_slip_121 rfl (fun q42 => ?_) (fun q42 => ?_)
    · replace H := br0 q42 H
      refine J_iconst (0 : Int32) dX12_slip_128 kc_0 ?_
      exact J_dr (kX12_slip_129 H ) ⟨rfl, ⟨rfl, ⟨rfl, ⟨rfl, trivial⟩⟩⟩⟩
    · replace H := br1 q42 H
      exact J_dr (kX12_slip_124 H ) ⟨rfl, ⟨rfl, ⟨rfl, ⟨rfl, trivial⟩⟩⟩⟩
noncomputable def BX12_slip_41 (h : Hp) (v0 : Nat) (v2 : Int32) (v3 : Int32) (v4 : Int32) (v5 : Int32) (v6 : Int32) (v7 : Int32) : Option ((Int32 × Int32 × Int32) ⊕ (Int32 × Hp)) :=
  gg (kd h v0 = 11) <|
  gg (kd h (gP h v0 1) = 20) <|
  gg (inB (v4 + (9 : Int32)) (ln h (gP h v0 1)) = true) <|
  if (gI h (gP h v0 1) (v4 + (9 : Int32)).toNatClampNeg) ≤ v7 then
    up1 (MX12_slip_107 h v0 v3 v4 v5)
  else
    if v5 = (-1 : Int32) then
      if v2 < 0 then
        up1 (MX12_slip_107 h v0 v3 v4 v5)
      else
        gg (inB ((v4 + (432 : Int32)) + v7) (ln h (gP h v0 1)) = true) <|
        Option.bind (MX12_isLetter h (gI h (gP h v0 1) ((v4 + (432 : Int32)) + v7).toNatClampNeg)) fun t47 =>
        if t47 = 0 then
          some (.inl (v5, v6, (v7 + (1 : Int32))))
        else
          if v6 = 0 then
            some (.inl (v7, (v6 + (-1 : Int32)), (v7 + (1 : Int32))))
          else
            some (.inl (v5, (v6 + (-1 : Int32)), (v7 + (1 : Int32))))
    else
      up1 (MX12_slip_107 h v0 v3 v4 v5)
set_option maxRecDepth 100000 in
set_option maxHeartbeats 8000000 in
theorem bX12_slip_41 {d : Nat} {h : Hp} {v0 : Nat} {v2 : Int32} {v3 : Int32} {v4 : Int32} {v5 : Int32} {v6 : Int32} {v7 : Int32} {r : Int32} {h9 : Hp} {x : ((Int32 × Int32 × Int32) ⊕ (Int32 × Hp))} (H : BX12_slip_41 h v0 v2 v3 v4 v5 v6 v7 = some x) (hb0 : ∀ s : Int32 × Int32 × Int32, x = .inl s → J (d + 1) YX12_slip 41 [.ref v0, Value.null, .int v2, .int v3, .int v4, .int s.1, .int s.2.1, .int s.2.2] [] h (oI r) h9) (hx : ∀ z : (Int32 × Hp), x = .inr (z) → z = (r, h9)) : J (d + 1) YX12_slip 41 [.ref v0, Value.null, .int v2, .int v3, .int v4, .int v5, .int v6, .int v7] [] h (oI r) h9 := by
  unfold BX12_slip_41 at H
  refine J_iload dX12_slip_41 rfl ?_
  refine J_aload_n 0 dX12_slip_43 rfl rfl ?_
  obtain ⟨g15, H⟩ := gd H
  refine J_gP 11 1 dX12_slip_44 g15 flX12_8 rfl rfl ?_
  refine J_iload dX12_slip_47 rfl ?_
  refine J_bipush (9 : Int32) dX12_slip_49 kb_9 ?_
  refine J_iadd dX12_slip_51 ?_
  obtain ⟨g16, H⟩ := gd H
  obtain ⟨g17, H⟩ := gd H
  refine J_iald dX12_slip_52 g16 (inB_ok g17) ?_
  refine J_icmp_ge 107 dX12_slip_53 rfl (fun q18 => ?_) (fun q18 => ?_)
  · replace H := br1 q18 H
    obtain ⟨y, H9, rfl⟩ := up1_el H
    replace H := H9
    obtain rfl := hx _ rfl
    exact J_dr (kX12_slip_107 H ) ⟨rfl, ⟨rfl, ⟨rfl, ⟨rfl, trivial⟩⟩⟩⟩
  · replace H := br0 q18 H
    refine J_iload dX12_slip_56 rfl ?_
    refine J_iconst (-1 : Int32) dX12_slip_58 kc_m1 ?_
    refine J_icmp_ne 107 dX12_slip_59 rfl (fun q43 => ?_) (fun q43 => ?_)
    · replace H := br0 q43 H
      obtain ⟨y, H9, rfl⟩ := up1_el H
      replace H := H9
      obtain rfl := hx _ rfl
      exact J_dr (kX12_slip_107 H ) ⟨rfl, ⟨rfl, ⟨rfl, ⟨rfl, trivial⟩⟩⟩⟩
    · replace H := br1 q43 H
      refine J_iload_n 2 dX12_slip_62 rfl rfl ?_
      refine J_if_lt 107 dX12_slip_63 rfl (fun q44 => ?_) (fun q44 => ?_)
      · replace H := br1 q44 H
        obtain ⟨y, H9, rfl⟩ := up1_el H
        replace H := H9
        obtain rfl := hx _ rfl
        exact J_dr (kX12_slip_107 H ) ⟨rfl, ⟨rfl, ⟨rfl, ⟨rfl, trivial⟩⟩⟩⟩
      · replace H := br0 q44 H
        refine J_aload_n 0 dX12_slip_66 rfl rfl ?_
        refine J_gP 11 1 dX12_slip_67 g15 flX12_8 rfl rfl ?_
        refine J_iload dX12_slip_70 rfl ?_
        refine J_sipush (432 : Int32) dX12_slip_72 ks_432 ?_
        refine J_iadd dX12_slip_75 ?_
        refine J_iload dX12_slip_76 rfl ?_
        refine J_iadd dX12_slip_78 ?_
        obtain ⟨g45, H⟩ := gd H
        refine J_iald dX12_slip_79 g16 (inB_ok g45) ?_
        obtain ⟨t47, e46, H⟩ := bd H
        refine J_cS (as := [.int (gI h (gP h v0 1) ((v4 + (432 : Int32)) + v7).toNatClampNeg)]) YX12_isLetter 1 dX12_slip_80 moX12_isLetter msX12_isLetter mlX12_143 (okX12_isLetter (d := d) e46) rfl rfl [] rfl rfl (st2 := [.int t47]) rfl ?_
        refine J_if_ne 89 dX12_slip_83 rfl (fun q48 => ?_) (fun q48 => ?_)
        · replace H := br0 q48 H
          refine J_iload dX12_slip_89 rfl ?_
          refine J_if_ne 98 dX12_slip_91 rfl (fun q49 => ?_) (fun q49 => ?_)
          · replace H := br0 q49 H
            refine J_iinc (v6 + (-1 : Int32)) dX12_slip_98 rfl (congrArg (HAdd.hAdd v6) kc_m1) (by decide) (ls' := [.ref v0, Value.null, .int v2, .int v3, .int v4, .int v5, .int (v6 + (-1 : Int32)), .int v7]) rfl ?_
            refine J_iinc (v7 + (1 : Int32)) dX12_slip_101 rfl (congrArg (HAdd.hAdd v7) kc_1) (by decide) (ls' := [.ref v0, Value.null, .int v2, .int v3, .int v4, .int v5, .int (v6 + (-1 : Int32)), .int (v7 + (1 : Int32))]) rfl ?_
            refine J_goto 41 dX12_slip_104 rfl ?_
            cases H
            exact J_dr (hb0 _ rfl) ⟨rfl, ⟨rfl, ⟨rfl, ⟨rfl, ⟨rfl, ⟨rfl, ⟨rfl, trivial⟩⟩⟩⟩⟩⟩⟩
          · replace H := br1 q49 H
            refine J_iload dX12_slip_94 rfl ?_
            refine J_istore dX12_slip_96 (by decide) (ls' := [.ref v0, Value.null, .int v2, .int v3, .int v4, .int v7, .int v6, .int v7]) rfl ?_
            refine J_iinc (v6 + (-1 : Int32)) dX12_slip_98 rfl (congrArg (HAdd.hAdd v6) kc_m1) (by decide) (ls' := [.ref v0, Value.null, .int v2, .int v3, .int v4, .int v7, .int (v6 + (-1 : Int32)), .int v7]) rfl ?_
            refine J_iinc (v7 + (1 : Int32)) dX12_slip_101 rfl (congrArg (HAdd.hAdd v7) kc_1) (by decide) (ls' := [.ref v0, Value.null, .int v2, .int v3, .int v4, .int v7, .int (v6 + (-1 : Int32)), .int (v7 + (1 : Int32))]) rfl ?_
            refine J_goto 41 dX12_slip_104 rfl ?_
            cases H
            exact J_dr (hb0 _ rfl) ⟨rfl, ⟨rfl, ⟨rfl, ⟨rfl, ⟨rfl, ⟨rfl, ⟨rfl, trivial⟩⟩⟩⟩⟩⟩⟩
        · replace H := br1 q48 H
          refine J_goto 101 dX12_slip_86 rfl ?_
          refine J_iinc (v7 + (1 : Int32)) dX12_slip_101 rfl (congrArg (HAdd.hAdd v7) kc_1) (by decide) (ls' := [.ref v0, Value.null, .int v2, .int v3, .int v4, .int v5, .int v6, .int (v7 + (1 : Int32))]) rfl ?_
          refine J_goto 41 dX12_slip_104 rfl ?_
          cases H
          exact J_dr (hb0 _ rfl) ⟨rfl, ⟨rfl, ⟨rfl, ⟨rfl, ⟨rfl, ⟨rfl, ⟨rfl, trivial⟩⟩⟩⟩⟩⟩⟩
noncomputable def MX12_slip_41 (h : Hp) (v0 : Nat) (v2 : Int32) (v3 : Int32) (v4 : Int32) (v5 : Int32) (v6 : Int32) (v7 : Int32) : Option (Int32 × Hp) := it (fun q : Int32 × Int32 × Int32 => BX12_slip_41 h v0 v2 v3 v4 q.1 q.2.1 q.2.2) (v5, v6, v7)
set_option maxRecDepth 100000 in
set_option maxHeartbeats 8000000 in
theorem kX12_slip_41 {d : Nat} {h : Hp} {v0 : Nat} {v2 : Int32} {v3 : Int32} {v4 : Int32} {v5 : Int32} {v6 : Int32} {v7 : Int32} {r : Int32} {h9 : Hp} (H : MX12_slip_41 h v0 v2 v3 v4 v5 v6 v7 = some (r, h9)) : J (d + 1) YX12_slip 41 [.ref v0, Value.null, .int v2, .int v3, .int v4, .int v5, .int v6, .int v7] [] h (oI r) h9 := by
  unfold MX12_slip_41 at H
  refine it_J (G := (fun q : Int32 × Int32 × Int32 => J (d + 1) YX12_slip 41 [.ref v0, Value.null, .int v2, .int v3, .int v4, .int q.1, .int q.2.1, .int q.2.2] [] h (oI r) h9)) (Q := (fun y : (Int32 × Hp) => y = (r, h9))) (fun q x Hq hm => ?_) H rfl
  exact bX12_slip_41 Hq (fun s hs => by subst hs; exact hm) (fun z hz => by subst hz; exact hm)
noncomputable def MX12_slip_14 (h : Hp) (v0 : Nat) (v1 : Int32) (v2 : Int32) (v3 : Int32) (s0 : Nat) (s1 : Int32) : Option (Int32 × Hp) :=
  gg (kd h s0 = 11) <|
  lt (sI h s0 0 s1) fun h6 =>
  gg (kd h v0 = 11) <|
  if (gI h6 v0 0) ≤ 0 then
    Option.bind (MX12_slug0 h6 v1) fun t14 =>
    MX12_slip_41 h6 v0 v2 v3 t14 (-1 : Int32) v2 (0 : Int32)
  else
    some ((0 : Int32), h6)
set_option maxRecDepth 100000 in
set_option maxHeartbeats 8000000 in
theorem kX12_slip_14 {d : Nat} {h : Hp} {v0 : Nat} {v1 : Int32} {v2 : Int32} {v3 : Int32} {s0 : Nat} {s1 : Int32} {r : Int32} {h9 : Hp} (H : MX12_slip_14 h v0 v1 v2 v3 s0 s1 = some (r, h9)) : J (d + 1) YX12_slip 14 [.ref v0, .int v1, .int v2, .int v3, Value.null, Value.null, Value.null, Value.null] [.int s1, .ref s0] h (oI r) h9 := by
  unfold MX12_slip_14 at H
  obtain ⟨g5, H⟩ := gd H
  obtain ⟨h6, e7, H⟩ := lt_el H
  refine J_pI 11 0 dX12_slip_14 g5 flX12_122 rfl rfl e7 ?_
  have c8 := ekI e7
  have c9 := elI e7
  have c10 := epI e7
  refine J_aload_n 0 dX12_slip_17 rfl rfl ?_
  obtain ⟨g11, H⟩ := gd H
  refine J_getI 11 0 dX12_slip_18 (kq c8 g11) flX12_122 rfl ?_
  refine J_if_le 26 dX12_slip_21 rfl (fun q12 => ?_) (fun q12 => ?_)
  · replace H := br1 q12 H
    refine J_iload_n 1 dX12_slip_26 rfl rfl ?_
    obtain ⟨t14, e13, H⟩ := bd H
    refine J_cS (as := [.int v1]) YX12_slug0 1 dX12_slip_27 moX12_slug0 msX12_slug0 mlX12_342 (okX12_slug0 (d := d) e13) rfl rfl [] rfl rfl (st2 := [.int t14]) rfl ?_
    refine J_istore dX12_slip_30 (by decide) (ls' := [.ref v0, .int v1, .int v2, .int v3, .int t14, Value.null, Value.null, Value.null]) rfl ?_
    refine J_iconst (-1 : Int32) dX12_slip_32 kc_m1 ?_
    refine J_istore dX12_slip_33 (by decide) (ls' := [.ref v0, .int v1, .int v2, .int v3, .int t14, .int (-1 : Int32), Value.null, Value.null]) rfl ?_
    refine J_iload_n 2 dX12_slip_35 rfl rfl ?_
    refine J_istore dX12_slip_36 (by decide) (ls' := [.ref v0, .int v1, .int v2, .int v3, .int t14, .int (-1 : Int32), .int v2, Value.null]) rfl ?_
    refine J_iconst (0 : Int32) dX12_slip_38 kc_0 ?_
    refine J_istore dX12_slip_39 (by decide) (ls' := [.ref v0, .int v1, .int v2, .int v3, .int t14, .int (-1 : Int32), .int v2, .int (0 : Int32)]) rfl ?_
    exact J_dr (kX12_slip_41 H ) ⟨rfl, ⟨rfl, ⟨rfl, ⟨rfl, ⟨rfl, ⟨rfl, ⟨rfl, trivial⟩⟩⟩⟩⟩⟩⟩
  · replace H := br0 q12 H
    refine J_iconst (0 : Int32) dX12_slip_24 kc_0 ?_
    cases H
    exact J_rZ dX12_slip_25 rfl rfl
noncomputable def MX12_slip (h : Hp) (v0 : Nat) (v1 : Int32) (v2 : Int32) (v3 : Int32) : Option (Int32 × Hp) :=
  gg (kd h v0 = 11) <|
  Option.bind (MX12_isSlug h v0 v1) fun t3 =>
  if t3 = 0 then
    MX12_slip_14 h v0 v1 v2 v3 v0 (1 : Int32)
  else
    MX12_slip_14 h v0 v1 v2 v3 v0 (0 : Int32)
set_option maxRecDepth 100000 in
set_option maxHeartbeats 8000000 in
theorem eX12_slip {d : Nat} {h : Hp} {v0 : Nat} {v1 : Int32} {v2 : Int32} {v3 : Int32} {r : Int32} {h9 : Hp} (H : MX12_slip h v0 v1 v2 v3 = some (r, h9)) : J (d + 1) YX12_slip 0 [.ref v0, .int v1, .int v2, .int v3, Value.null, Value.null, Value.null, Value.null] [] h (oI r) h9 := by
  unfold MX12_slip at H
  refine J_aload_n 0 dX12_slip_0 rfl rfl ?_
  refine J_aload_n 0 dX12_slip_1 rfl rfl ?_
  refine J_iload_n 1 dX12_slip_2 rfl rfl ?_
  obtain ⟨g2, H⟩ := gd H
  obtain ⟨t3, e1, H⟩ := bd H
  refine J_cV (as := [.int v1]) 11 YX12_isSlug 1 dX12_slip_3 moX12_isSlug mvX12_isSlug mlX12_396 g2 rfl (okX12_isSlug (d := d) e1) rfl rfl [.ref v0] rfl rfl (st2 := [.int t3, .ref v0]) rfl ?_
  refine J_if_ne 13 dX12_slip_6 rfl (fun q4 => ?_) (fun q4 => ?_)
  · replace H := br0 q4 H
    refine J_iconst (0 : Int32) dX12_slip_13 kc_0 ?_
    exact J_dr (kX12_slip_14 H ) ⟨rfl, ⟨rfl, ⟨rfl, ⟨rfl, trivial⟩⟩⟩⟩
  · replace H := br1 q4 H
    refine J_iconst (1 : Int32) dX12_slip_9 kc_1 ?_
    refine J_goto 14 dX12_slip_10 rfl ?_
    exact J_dr (kX12_slip_14 H ) ⟨rfl, ⟨rfl, ⟨rfl, ⟨rfl, trivial⟩⟩⟩⟩
theorem okX12_slip {d : Nat} {h : Hp} {v0 : Nat} {v1 : Int32} {v2 : Int32} {v3 : Int32} {r : Int32} {h9 : Hp} (H : MX12_slip h v0 v1 v2 v3 = some (r, h9)) : CT (d + 1) YX12_slip [.ref v0, .int v1, .int v2, .int v3] h (oI r) h9 := CT_of (by decide +kernel) (Nat.le_of_ble_eq_true rfl) (eX12_slip H)
noncomputable def MX12_slug_28 (h : Hp) (v0 : Nat) (v1 : Int32) (v2 : Int32) (s0 : Nat) (s1 : Int32) : Option (Int32 × Hp) :=
  gg (kd h s0 = 11) <|
  lt (sI h s0 0 s1) fun h9 =>
  gg (kd h v0 = 11) <|
  if (gI h9 v0 0) ≤ 0 then
    Option.bind (MX12_slug0 h9 v1) fun t17 =>
    if v2 = (8 : Int32) then
      Option.bind (MX12_isWrong h9 v0 v1) fun t34 =>
      if t34 = 0 then
        some ((0 : Int32), h9)
      else
        some ((1 : Int32), h9)
    else
      if (5 : Int32) ≤ v2 then
        if v2 = (5 : Int32) then
          gg (kd h (gP h v0 1) = 20) <|
          gg (inB (t17 + (5 : Int32)) (ln h (gP h v0 1)) = true) <|
          some ((gI h9 (gP h v0 1) (t17 + (5 : Int32)).toNatClampNeg), h9)
        else
          if v2 = (6 : Int32) then
            gg (kd h (gP h v0 1) = 20) <|
            gg (inB (t17 + (6 : Int32)) (ln h (gP h v0 1)) = true) <|
            some ((gI h9 (gP h v0 1) (t17 + (6 : Int32)).toNatClampNeg), h9)
          else
            if v2 = (7 : Int32) then
              gg (kd h (gP h v0 1) = 20) <|
              gg (inB (t17 + (7 : Int32)) (ln h (gP h v0 1)) = true) <|
              some ((gI h9 (gP h v0 1) (t17 + (7 : Int32)).toNatClampNeg), h9)
            else
              gg (kd h (gP h v0 1) = 20) <|
              gg (inB (t17 + (8 : Int32)) (ln h (gP h v0 1)) = true) <|
              some ((gI h9 (gP h v0 1) (t17 + (8 : Int32)).toNatClampNeg), h9)
      else
        gg (kd h (gP h v0 1) = 20) <|
        gg (inB (t17 + v2) (ln h (gP h v0 1)) = true) <|
        some ((gI h9 (gP h v0 1) (t17 + v2).toNatClampNeg), h9)
  else
    some ((0 : Int32), h9)
set_option maxRecDepth 100000 in
set_option maxHeartbeats 8000000 in
theorem kX12_slug_28 {d : Nat} {h : Hp} {v0 : Nat} {v1 : Int32} {v2 : Int32} {s0 : Nat} {s1 : Int32} {r : Int32} {h9 : Hp} (H : MX12_slug_28 h v0 v1 v2 s0 s1 = some (r, h9)) : J (d + 2) YX12_slug 28 [.ref v0, .int v1, .int v2, Value.null] [.int s1, .ref s0] h (oI r) h9 := by
  unfold MX12_slug_28 at H
  obtain ⟨g8, H⟩ := gd H
  obtain ⟨h9, e10, H⟩ := lt_el H
  refine J_pI 11 0 dX12_slug_28 g8 flX12_122 rfl rfl e10 ?_
  have c11 := ekI e10
  have c12 := elI e10
  have c13 := epI e10
  refine J_aload_n 0 dX12_slug_31 rfl rfl ?_
  obtain ⟨g14, H⟩ := gd H
  refine J_getI 11 0 dX12_slug_32 (kq c11 g14) flX12_122 rfl ?_
  refine J_if_le 40 dX12_slug_35 rfl (fun q15 => ?_) (fun q15 => ?_)
  · replace H := br1 q15 H
    refine J_iload_n 1 dX12_slug_40 rfl rfl ?_
    obtain ⟨t17, e16, H⟩ := bd H
    refine J_cS (as := [.int v1]) YX12_slug0 1 dX12_slug_41 moX12_slug0 msX12_slug0 mlX12_342 (okX12_slug0 (d := d + 1) e16) rfl rfl [] rfl rfl (st2 := [.int t17]) rfl ?_
    refine J_istore_n 3 dX12_slug_44 rfl (by decide) (ls' := [.ref v0, .int v1, .int v2, .int t17]) rfl ?_
    refine J_iload_n 2 dX12_slug_45 rfl rfl ?_
    refine J_bipush (8 : Int32) dX12_slug_46 kb_8 ?_
    refine J_icmp_ne 65 dX12_slug_48 rfl (fun q18 => ?_) (fun q18 => ?_)
    · replace H := br0 q18 H
      refine J_iload_n 2 dX12_slug_65 rfl rfl ?_
      refine J_iconst (5 : Int32) dX12_slug_66 kc_5 ?_
      refine J_icmp_ge 81 dX12_slug_67 rfl (fun q19 => ?_) (fun q19 => ?_)
      · replace H := br1 q19 H
        refine J_iload_n 2 dX12_slug_81 rfl rfl ?_
        refine J_iconst (5 : Int32) dX12_slug_82 kc_5 ?_
        refine J_icmp_ne 97 dX12_slug_83 rfl (fun q20 => ?_) (fun q20 => ?_)
        · replace H := br0 q20 H
          refine J_iload_n 2 dX12_slug_97 rfl rfl ?_
          refine J_bipush (6 : Int32) dX12_slug_98 kb_6 ?_
          refine J_icmp_ne 115 dX12_slug_100 rfl (fun q21 => ?_) (fun q21 => ?_)
          · replace H := br0 q21 H
            refine J_iload_n 2 dX12_slug_115 rfl rfl ?_
            refine J_bipush (7 : Int32) dX12_slug_116 kb_7 ?_
            refine J_icmp_ne 133 dX12_slug_118 rfl (fun q22 => ?_) (fun q22 => ?_)
            · replace H := br0 q22 H
              refine J_aload_n 0 dX12_slug_133 rfl rfl ?_
              refine J_gP 11 1 dX12_slug_134 (kq c11 g14) flX12_8 rfl (congrFun (congrFun c13 v0) 1) ?_
              refine J_iload_n 3 dX12_slug_137 rfl rfl ?_
              refine J_bipush (8 : Int32) dX12_slug_138 kb_8 ?_
              refine J_iadd dX12_slug_140 ?_
              obtain ⟨g23, H⟩ := gd H
              obtain ⟨g24, H⟩ := gd H
              refine J_iald dX12_slug_141 (kq c11 g23) (lq c12 g24) ?_
              cases H
              exact J_iretI dX12_slug_142 rfl
            · replace H := br1 q22 H
              refine J_aload_n 0 dX12_slug_121 rfl rfl ?_
              refine J_gP 11 1 dX12_slug_122 (kq c11 g14) flX12_8 rfl (congrFun (congrFun c13 v0) 1) ?_
              refine J_iload_n 3 dX12_slug_125 rfl rfl ?_
              refine J_bipush (7 : Int32) dX12_slug_126 kb_7 ?_
              refine J_iadd dX12_slug_128 ?_
              obtain ⟨g25, H⟩ := gd H
              obtain ⟨g26, H⟩ := gd H
              refine J_iald dX12_slug_129 (kq c11 g25) (lq c12 g26) ?_
              refine J_goto 142 dX12_slug_130 rfl ?_
              cases H
              exact J_iretI dX12_slug_142 rfl
          · replace H := br1 q21 H
            refine J_aload_n 0 dX12_slug_103 rfl rfl ?_
            refine J_gP 11 1 dX12_slug_104 (kq c11 g14) flX12_8 rfl (congrFun (congrFun c13 v0) 1) ?_
            refine J_iload_n 3 dX12_slug_107 rfl rfl ?_
            refine J_bipush (6 : Int32) dX12_slug_108 kb_6 ?_
            refine J_iadd dX12_slug_110 ?_
            obtain ⟨g27, H⟩ := gd H
            obtain ⟨g28, H⟩ := gd H
            refine J_iald dX12_slug_111 (kq c11 g27) (lq c12 g28) ?_
            refine J_goto 142 dX12_slug_112 rfl ?_
            cases H
            exact J_iretI dX12_slug_142 rfl
        · replace H := br1 q20 H
          refine J_aload_n 0 dX12_slug_86 rfl rfl ?_
          refine J_gP 11 1 dX12_slug_87 (kq c11 g14) flX12_8 rfl (congrFun (congrFun c13 v0) 1) ?_
          refine J_iload_n 3 dX12_slug_90 rfl rfl ?_
          refine J_iconst (5 : Int32) dX12_slug_91 kc_5 ?_
          refine J_iadd dX12_slug_92 ?_
          obtain ⟨g29, H⟩ := gd H
          obtain ⟨g30, H⟩ := gd H
          refine J_iald dX12_slug_93 (kq c11 g29) (lq c12 g30) ?_
          refine J_goto 142 dX12_slug_94 rfl ?_
          cases H
          exact J_iretI dX12_slug_142 rfl
      · replace H := br0 q19 H
        refine J_aload_n 0 dX12_slug_70 rfl rfl ?_
        refine J_gP 11 1 dX12_slug_71 (kq c11 g14) flX12_8 rfl (congrFun (congrFun c13 v0) 1) ?_
        refine J_iload_n 3 dX12_slug_74 rfl rfl ?_
        refine J_iload_n 2 dX12_slug_75 rfl rfl ?_
        refine J_iadd dX12_slug_76 ?_
        obtain ⟨g31, H⟩ := gd H
        obtain ⟨g32, H⟩ := gd H
        refine J_iald dX12_slug_77 (kq c11 g31) (lq c12 g32) ?_
        refine J_goto 142 dX12_slug_78 rfl ?_
        cases H
        exact J_iretI dX12_slug_142 rfl
    · replace H := br1 q18 H
      refine J_aload_n 0 dX12_slug_51 rfl rfl ?_
      refine J_iload_n 1 dX12_slug_52 rfl rfl ?_
      obtain ⟨t34, e33, H⟩ := bd H
      refine J_cV (as := [.int v1]) 11 YX12_isWrong 1 dX12_slug_53 moX12_isWrong mvX12_isWrong mlX12_399 (kq c11 g14) rfl (okX12_isWrong (d := d) e33) rfl rfl [] rfl rfl (st2 := [.int t34]) rfl ?_
      refine J_if_eq 63 dX12_slug_56 rfl (fun q35 => ?_) (fun q35 => ?_)
      · replace H := br1 q35 H
        refine J_iconst (0 : Int32) dX12_slug_63 kc_0 ?_
        cases H
        exact J_iretI dX12_slug_64 rfl
      · replace H := br0 q35 H
        refine J_iconst (1 : Int32) dX12_slug_59 kc_1 ?_
        refine J_goto 64 dX12_slug_60 rfl ?_
        cases H
        exact J_iretI dX12_slug_64 rfl
  · replace H := br0 q15 H
    refine J_iconst (0 : Int32) dX12_slug_38 kc_0 ?_
    cases H
    exact J_iretI dX12_slug_39 rfl
noncomputable def MX12_slug (h : Hp) (v0 : Nat) (v1 : Int32) (v2 : Int32) : Option (Int32 × Hp) :=
  gg (kd h v0 = 11) <|
  Option.bind (MX12_isSlug h v0 v1) fun t3 =>
  if t3 = 0 then
    MX12_slug_28 h v0 v1 v2 v0 (1 : Int32)
  else
    Option.bind (MX12_isIn h v2 (0 : Int32) (9 : Int32)) fun t6 =>
    if t6 = 0 then
      MX12_slug_28 h v0 v1 v2 v0 (2 : Int32)
    else
      MX12_slug_28 h v0 v1 v2 v0 (0 : Int32)
set_option maxRecDepth 100000 in
set_option maxHeartbeats 8000000 in
theorem eX12_slug {d : Nat} {h : Hp} {v0 : Nat} {v1 : Int32} {v2 : Int32} {r : Int32} {h9 : Hp} (H : MX12_slug h v0 v1 v2 = some (r, h9)) : J (d + 2) YX12_slug 0 [.ref v0, .int v1, .int v2, Value.null] [] h (oI r) h9 := by
  unfold MX12_slug at H
  refine J_aload_n 0 dX12_slug_0 rfl rfl ?_
  refine J_aload_n 0 dX12_slug_1 rfl rfl ?_
  refine J_iload_n 1 dX12_slug_2 rfl rfl ?_
  obtain ⟨g2, H⟩ := gd H
  obtain ⟨t3, e1, H⟩ := bd H
  refine J_cV (as := [.int v1]) 11 YX12_isSlug 1 dX12_slug_3 moX12_isSlug mvX12_isSlug mlX12_396 g2 rfl (okX12_isSlug (d := d + 1) e1) rfl rfl [.ref v0] rfl rfl (st2 := [.int t3, .ref v0]) rfl ?_
  refine J_if_ne 13 dX12_slug_6 rfl (fun q4 => ?_) (fun q4 => ?_)
  · replace H := br0 q4 H
    refine J_iload_n 2 dX12_slug_13 rfl rfl ?_
    refine J_iconst (0 : Int32) dX12_slug_14 kc_0 ?_
    refine J_bipush (9 : Int32) dX12_slug_15 kb_9 ?_
    obtain ⟨t6, e5, H⟩ := bd H
    refine J_cS (as := [.int v2, .int (0 : Int32), .int (9 : Int32)]) YX12_isIn 3 dX12_slug_17 moX12_isIn msX12_isIn mlX12_157 (okX12_isIn (d := d + 1) e5) rfl rfl [.ref v0] rfl rfl (st2 := [.int t6, .ref v0]) rfl ?_
    refine J_if_ne 27 dX12_slug_20 rfl (fun q7 => ?_) (fun q7 => ?_)
    · replace H := br0 q7 H
      refine J_iconst (0 : Int32) dX12_slug_27 kc_0 ?_
      exact J_dr (kX12_slug_28 H ) ⟨rfl, ⟨rfl, ⟨rfl, trivial⟩⟩⟩
    · replace H := br1 q7 H
      refine J_iconst (2 : Int32) dX12_slug_23 kc_2 ?_
      refine J_goto 28 dX12_slug_24 rfl ?_
      exact J_dr (kX12_slug_28 H ) ⟨rfl, ⟨rfl, ⟨rfl, trivial⟩⟩⟩
  · replace H := br1 q4 H
    refine J_iconst (1 : Int32) dX12_slug_9 kc_1 ?_
    refine J_goto 28 dX12_slug_10 rfl ?_
    exact J_dr (kX12_slug_28 H ) ⟨rfl, ⟨rfl, ⟨rfl, trivial⟩⟩⟩
theorem okX12_slug {d : Nat} {h : Hp} {v0 : Nat} {v1 : Int32} {v2 : Int32} {r : Int32} {h9 : Hp} (H : MX12_slug h v0 v1 v2 = some (r, h9)) : CT (d + 2) YX12_slug [.ref v0, .int v1, .int v2] h (oI r) h9 := CT_of (by decide +kernel) (Nat.le_of_ble_eq_true rfl) (eX12_slug H)
noncomputable def MX12_stands_21 (h : Hp) (v0 : Nat) (v1 : Int32) (v2 : Int32) (v3 : Int32) (s0 : Nat) (s1 : Int32) : Option (Int32 × Hp) :=
  gg (kd h s0 = 11) <|
  lt (sI h s0 0 s1) fun h5 =>
  gg (kd h v0 = 11) <|
  if (gI h5 v0 0) ≤ 0 then
    Option.bind (MX12_slugsOn h5 v0 v1 v2) fun t13 =>
    Option.bind (MX12_isIn h5 v3 (0 : Int32) (t13 - (1 : Int32))) fun t15 =>
    if t15 = 0 then
      some ((-1 : Int32), h5)
    else
      Option.bind (MX12_slugOn h5 v0 v1 v2 v3) fun t18 =>
      some (t18, h5)
  else
    some ((0 : Int32), h5)
set_option maxRecDepth 100000 in
set_option maxHeartbeats 8000000 in
theorem kX12_stands_21 {d : Nat} {h : Hp} {v0 : Nat} {v1 : Int32} {v2 : Int32} {v3 : Int32} {s0 : Nat} {s1 : Int32} {r : Int32} {h9 : Hp} (H : MX12_stands_21 h v0 v1 v2 v3 s0 s1 = some (r, h9)) : J (d + 2) YX12_stands 21 [.ref v0, .int v1, .int v2, .int v3] [.int s1, .ref s0] h (oI r) h9 := by
  unfold MX12_stands_21 at H
  obtain ⟨g4, H⟩ := gd H
  obtain ⟨h5, e6, H⟩ := lt_el H
  refine J_pI 11 0 dX12_stands_21 g4 flX12_122 rfl rfl e6 ?_
  have c7 := ekI e6
  have c8 := elI e6
  have c9 := epI e6
  refine J_aload_n 0 dX12_stands_24 rfl rfl ?_
  obtain ⟨g10, H⟩ := gd H
  refine J_getI 11 0 dX12_stands_25 (kq c7 g10) flX12_122 rfl ?_
  refine J_if_le 33 dX12_stands_28 rfl (fun q11 => ?_) (fun q11 => ?_)
  · replace H := br1 q11 H
    refine J_iload_n 3 dX12_stands_33 rfl rfl ?_
    refine J_iconst (0 : Int32) dX12_stands_34 kc_0 ?_
    refine J_aload_n 0 dX12_stands_35 rfl rfl ?_
    refine J_iload_n 1 dX12_stands_36 rfl rfl ?_
    refine J_iload_n 2 dX12_stands_37 rfl rfl ?_
    obtain ⟨t13, e12, H⟩ := bd H
    refine J_cV (as := [.int v1, .int v2]) 11 YX12_slugsOn 2 dX12_stands_38 moX12_slugsOn mvX12_slugsOn mlX12_449 (kq c7 g10) rfl (okX12_slugsOn (d := d) e12) rfl rfl [.int (0 : Int32), .int v3] rfl rfl (st2 := [.int t13, .int (0 : Int32), .int v3]) rfl ?_
    refine J_iconst (1 : Int32) dX12_stands_41 kc_1 ?_
    refine J_isub dX12_stands_42 ?_
    obtain ⟨t15, e14, H⟩ := bd H
    refine J_cS (as := [.int v3, .int (0 : Int32), .int (t13 - (1 : Int32))]) YX12_isIn 3 dX12_stands_43 moX12_isIn msX12_isIn mlX12_157 (okX12_isIn (d := d + 1) e14) rfl rfl [] rfl rfl (st2 := [.int t15]) rfl ?_
    refine J_if_eq 59 dX12_stands_46 rfl (fun q16 => ?_) (fun q16 => ?_)
    · replace H := br1 q16 H
      refine J_iconst (-1 : Int32) dX12_stands_59 kc_m1 ?_
      cases H
      exact J_iretI dX12_stands_60 rfl
    · replace H := br0 q16 H
      refine J_aload_n 0 dX12_stands_49 rfl rfl ?_
      refine J_iload_n 1 dX12_stands_50 rfl rfl ?_
      refine J_iload_n 2 dX12_stands_51 rfl rfl ?_
      refine J_iload_n 3 dX12_stands_52 rfl rfl ?_
      obtain ⟨t18, e17, H⟩ := bd H
      refine J_cV (as := [.int v1, .int v2, .int v3]) 11 YX12_slugOn 3 dX12_stands_53 moX12_slugOn mvX12_slugOn mlX12_452 (kq c7 g10) rfl (okX12_slugOn (d := d) e17) rfl rfl [] rfl rfl (st2 := [.int t18]) rfl ?_
      refine J_goto 60 dX12_stands_56 rfl ?_
      cases H
      exact J_iretI dX12_stands_60 rfl
  · replace H := br0 q11 H
    refine J_iconst (0 : Int32) dX12_stands_31 kc_0 ?_
    cases H
    exact J_iretI dX12_stands_32 rfl
noncomputable def MX12_stands_16 (h : Hp) (v0 : Nat) (v1 : Int32) (v2 : Int32) (v3 : Int32) (s0 : Nat) : Option (Int32 × Hp) :=
  MX12_stands_21 h v0 v1 v2 v3 s0 (1 : Int32)
set_option maxRecDepth 100000 in
set_option maxHeartbeats 8000000 in
theorem kX12_stands_16 {d : Nat} {h : Hp} {v0 : Nat} {v1 : Int32} {v2 : Int32} {v3 : Int32} {s0 : Nat} {r : Int32} {h9 : Hp} (H : MX12_stands_16 h v0 v1 v2 v3 s0 = some (r, h9)) : J (d + 2) YX12_stands 16 [.ref v0, .int v1, .int v2, .int v3] [.ref s0] h (oI r) h9 := by
  unfold MX12_stands_16 at H
  refine J_iconst (1 : Int32) dX12_stands_16 kc_1 ?_
  refine J_goto 21 dX12_stands_17 rfl ?_
  exact J_dr (kX12_stands_21 H ) ⟨rfl, ⟨rfl, ⟨rfl, ⟨rfl, trivial⟩⟩⟩⟩
noncomputable def MX12_stands (h : Hp) (v0 : Nat) (v1 : Int32) (v2 : Int32) (v3 : Int32) : Option (Int32 × Hp) :=
  Option.bind (MX12_isPage h v1) fun t2 =>
  if t2 = 0 then
    MX12_stands_16 h v0 v1 v2 v3 v0
  else
    gg (kd h v0 = 11) <|
    Option.bind (MX12_isEdition h v0 v2) fun t21 =>
    if t21 = 0 then
      MX12_stands_16 h v0 v1 v2 v3 v0
    else
      MX12_stands_21 h v0 v1 v2 v3 v0 (0 : Int32)
set_option maxRecDepth 100000 in
set_option maxHeartbeats 8000000 in
theorem eX12_stands {d : Nat} {h : Hp} {v0 : Nat} {v1 : Int32} {v2 : Int32} {v3 : Int32} {r : Int32} {h9 : Hp} (H : MX12_stands h v0 v1 v2 v3 = some (r, h9)) : J (d + 2) YX12_stands 0 [.ref v0, .int v1, .int v2, .int v3] [] h (oI r) h9 := by
  unfold MX12_stands at H
  refine J_aload_n 0 dX12_stands_0 rfl rfl ?_
  refine J_iload_n 1 dX12_stands_1 rfl rfl ?_
  obtain ⟨t2, e1, H⟩ := bd H
  refine J_cS (as := [.int v1]) YX12_isPage 1 dX12_stands_2 moX12_isPage msX12_isPage mlX12_418 (okX12_isPage (d := d + 1) e1) rfl rfl [.ref v0] rfl rfl (st2 := [.int t2, .ref v0]) rfl ?_
  refine J_if_eq 16 dX12_stands_5 rfl (fun q3 => ?_) (fun q3 => ?_)
  · replace H := br1 q3 H
    exact J_dr (kX12_stands_16 H ) ⟨rfl, ⟨rfl, ⟨rfl, ⟨rfl, trivial⟩⟩⟩⟩
  · replace H := br0 q3 H
    refine J_aload_n 0 dX12_stands_8 rfl rfl ?_
    refine J_iload_n 2 dX12_stands_9 rfl rfl ?_
    obtain ⟨g20, H⟩ := gd H
    obtain ⟨t21, e19, H⟩ := bd H
    refine J_cV (as := [.int v2]) 11 YX12_isEdition 1 dX12_stands_10 moX12_isEdition mvX12_isEdition mlX12_446 g20 rfl (okX12_isEdition (d := d) e19) rfl rfl [.ref v0] rfl rfl (st2 := [.int t21, .ref v0]) rfl ?_
    refine J_if_ne 20 dX12_stands_13 rfl (fun q22 => ?_) (fun q22 => ?_)
    · replace H := br0 q22 H
      refine J_iconst (0 : Int32) dX12_stands_20 kc_0 ?_
      exact J_dr (kX12_stands_21 H ) ⟨rfl, ⟨rfl, ⟨rfl, ⟨rfl, trivial⟩⟩⟩⟩
    · replace H := br1 q22 H
      exact J_dr (kX12_stands_16 H ) ⟨rfl, ⟨rfl, ⟨rfl, ⟨rfl, trivial⟩⟩⟩⟩
theorem okX12_stands {d : Nat} {h : Hp} {v0 : Nat} {v1 : Int32} {v2 : Int32} {v3 : Int32} {r : Int32} {h9 : Hp} (H : MX12_stands h v0 v1 v2 v3 = some (r, h9)) : CT (d + 2) YX12_stands [.ref v0, .int v1, .int v2, .int v3] h (oI r) h9 := CT_of (by decide +kernel) (Nat.le_of_ble_eq_true rfl) (eX12_stands H)
noncomputable def MX12_story_322 (h : Hp) (v0 : Nat) (v3 : Int32) : Option (Int32 × Hp) :=
  gg (kd h v0 = 11) <|
  gg (kd h (gP h v0 1) = 20) <|
  gg (inB (1 : Int32) (ln h (gP h v0 1)) = true) <|
  lt (sI h (gP h v0 1) (1 : Int32).toNatClampNeg ((gI h (gP h v0 1) (1 : Int32).toNatClampNeg) + (1 : Int32))) fun h58 =>
  some (v3, h58)
set_option maxRecDepth 100000 in
set_option maxHeartbeats 8000000 in
theorem kX12_story_322 {d : Nat} {h : Hp} {v0 : Nat} {v3 : Int32} {r : Int32} {h9 : Hp} (H : MX12_story_322 h v0 v3 = some (r, h9)) : J (d + 3) YX12_story 322 [.ref v0, Value.null, Value.null, .int v3, Value.null, Value.null, Value.null, Value.null] [] h (oI r) h9 := by
  unfold MX12_story_322 at H
  refine J_aload_n 0 dX12_story_322 rfl rfl ?_
  obtain ⟨g55, H⟩ := gd H
  refine J_gP 11 1 dX12_story_323 g55 flX12_8 rfl rfl ?_
  refine J_iconst (1 : Int32) dX12_story_326 kc_1 ?_
  refine J_dup2 dX12_story_327 rfl rfl ?_
  obtain ⟨g56, H⟩ := gd H
  obtain ⟨g57, H⟩ := gd H
  refine J_iald dX12_story_328 g56 (inB_ok g57) ?_
  refine J_iconst (1 : Int32) dX12_story_329 kc_1 ?_
  refine J_iadd dX12_story_330 ?_
  obtain ⟨h58, e59, H⟩ := lt_el H
  refine J_sI dX12_story_331 g56 (inB_ok g57) e59 ?_
  have c60 := ekI e59
  have c61 := elI e59
  have c62 := epI e59
  refine J_iload_n 3 dX12_story_332 rfl rfl ?_
  cases H
  exact J_iretI dX12_story_333 rfl
noncomputable def BX12_story_258 (h : Hp) (v0 : Nat) (v3 : Int32) (v4 : Int32) (v5 : Int32) (v6 : Int32) (v7 : Int32) : Option ((Int32 × Hp) ⊕ ((Int32 × Hp) ⊕ ((Int32 × Hp) ⊕ (Int32 × Hp)))) :=
  if (12 : Int32) ≤ v7 then
    some (.inr (.inl ((v6 + (1 : Int32)), h)))
  else
    gg (kd h v0 = 11) <|
    gg (kd h (gP h v0 14) = 20) <|
    gg (inB (((12 : Int32) * (((40 : Int32) * v4) + v6)) + v7) (ln h (gP h v0 14)) = true) <|
    gg (kd h (gP h v0 1) = 20) <|
    gg (inB (((v5 + (165 : Int32)) + ((12 : Int32) * v6)) + v7) (ln h (gP h v0 1)) = true) <|
    lt (sI h (gP h v0 1) (((v5 + (165 : Int32)) + ((12 : Int32) * v6)) + v7).toNatClampNeg (gI h (gP h v0 14) (((12 : Int32) * (((40 : Int32) * v4) + v6)) + v7).toNatClampNeg)) fun h109 =>
    some (.inl ((v7 + (1 : Int32)), h109))
set_option maxRecDepth 100000 in
set_option maxHeartbeats 8000000 in
theorem bX12_story_258 {d : Nat} {h : Hp} {v0 : Nat} {v3 : Int32} {v4 : Int32} {v5 : Int32} {v6 : Int32} {v7 : Int32} {r : Int32} {h9 : Hp} {x : ((Int32 × Hp) ⊕ ((Int32 × Hp) ⊕ ((Int32 × Hp) ⊕ (Int32 × Hp))))} (H : BX12_story_258 h v0 v3 v4 v5 v6 v7 = some x) (hb0 : ∀ s : Int32 × Hp, x = .inl s → J (d + 3) YX12_story 258 [.ref v0, Value.null, Value.null, .int v3, .int v4, .int v5, .int v6, .int s.1] [] s.2 (oI r) h9) (hb1 : ∀ s : Int32 × Hp, x = .inr (.inl s) → J (d + 3) YX12_story 191 [.ref v0, Value.null, Value.null, .int v3, .int v4, .int v5, .int s.1, Value.null] [] s.2 (oI r) h9) (hb2 : ∀ s : Int32 × Hp, x = .inr (.inr (.inl s)) → J (d + 3) YX12_story 136 [.ref v0, Value.null, Value.null, .int v3, .int s.1, Value.null, Value.null, Value.null] [] s.2 (oI r) h9) (hx : ∀ z : (Int32 × Hp), x = .inr (.inr (.inr (z))) → z = (r, h9)) : J (d + 3) YX12_story 258 [.ref v0, Value.null, Value.null, .int v3, .int v4, .int v5, .int v6, .int v7] [] h (oI r) h9 := by
  unfold BX12_story_258 at H
  refine J_iload dX12_story_258 rfl ?_
  refine J_bipush (12 : Int32) dX12_story_260 kb_12 ?_
  refine J_icmp_ge 310 dX12_story_262 rfl (fun q103 => ?_) (fun q103 => ?_)
  · replace H := br1 q103 H
    refine J_iinc (v6 + (1 : Int32)) dX12_story_310 rfl (congrArg (HAdd.hAdd v6) kc_1) (by decide) (ls' := [.ref v0, Value.null, Value.null, .int v3, .int v4, .int v5, .int (v6 + (1 : Int32)), .int v7]) rfl ?_
    refine J_goto 191 dX12_story_313 rfl ?_
    cases H
    exact J_dr (hb1 _ rfl) ⟨rfl, ⟨rfl, ⟨rfl, ⟨rfl, ⟨rfl, trivial⟩⟩⟩⟩⟩
  · replace H := br0 q103 H
    refine J_aload_n 0 dX12_story_265 rfl rfl ?_
    obtain ⟨g104, H⟩ := gd H
    refine J_gP 11 1 dX12_story_266 g104 flX12_8 rfl rfl ?_
    refine J_iload dX12_story_269 rfl ?_
    refine J_sipush (165 : Int32) dX12_story_271 ks_165 ?_
    refine J_iadd dX12_story_274 ?_
    refine J_bipush (12 : Int32) dX12_story_275 kb_12 ?_
    refine J_iload dX12_story_277 rfl ?_
    refine J_imul dX12_story_279 ?_
    refine J_iadd dX12_story_280 ?_
    refine J_iload dX12_story_281 rfl ?_
    refine J_iadd dX12_story_283 ?_
    refine J_aload_n 0 dX12_story_284 rfl rfl ?_
    refine J_gP 11 14 dX12_story_285 g104 flX12_33 rfl rfl ?_
    refine J_bipush (12 : Int32) dX12_story_288 kb_12 ?_
    refine J_bipush (40 : Int32) dX12_story_290 kb_40 ?_
    refine J_iload dX12_story_292 rfl ?_
    refine J_imul dX12_story_294 ?_
    refine J_iload dX12_story_295 rfl ?_
    refine J_iadd dX12_story_297 ?_
    refine J_imul dX12_story_298 ?_
    refine J_iload dX12_story_299 rfl ?_
    refine J_iadd dX12_story_301 ?_
    obtain ⟨g105, H⟩ := gd H
    obtain ⟨g106, H⟩ := gd H
    refine J_iald dX12_story_302 g105 (inB_ok g106) ?_
    obtain ⟨g107, H⟩ := gd H
    obtain ⟨g108, H⟩ := gd H
    obtain ⟨h109, e110, H⟩ := lt_el H
    refine J_sI dX12_story_303 g107 (inB_ok g108) e110 ?_
    have c111 := ekI e110
    have c112 := elI e110
    have c113 := epI e110
    refine J_iinc (v7 + (1 : Int32)) dX12_story_304 rfl (congrArg (HAdd.hAdd v7) kc_1) (by decide) (ls' := [.ref v0, Value.null, Value.null, .int v3, .int v4, .int v5, .int v6, .int (v7 + (1 : Int32))]) rfl ?_
    refine J_goto 258 dX12_story_307 rfl ?_
    cases H
    exact J_dr (hb0 _ rfl) ⟨rfl, ⟨rfl, ⟨rfl, ⟨rfl, ⟨rfl, ⟨rfl, trivial⟩⟩⟩⟩⟩⟩
noncomputable def MX12_story_258 (h : Hp) (v0 : Nat) (v3 : Int32) (v4 : Int32) (v5 : Int32) (v6 : Int32) (v7 : Int32) : Option ((Int32 × Hp) ⊕ ((Int32 × Hp) ⊕ (Int32 × Hp))) := it (fun q : Int32 × Hp => BX12_story_258 q.2 v0 v3 v4 v5 v6 q.1) (v7, h)
set_option maxRecDepth 100000 in
set_option maxHeartbeats 8000000 in
theorem kX12_story_258 {d : Nat} {h : Hp} {v0 : Nat} {v3 : Int32} {v4 : Int32} {v5 : Int32} {v6 : Int32} {v7 : Int32} {r : Int32} {h9 : Hp} {x : ((Int32 × Hp) ⊕ ((Int32 × Hp) ⊕ (Int32 × Hp)))} (H : MX12_story_258 h v0 v3 v4 v5 v6 v7 = some x) (hb0 : ∀ s : Int32 × Hp, x = .inl s → J (d + 3) YX12_story 191 [.ref v0, Value.null, Value.null, .int v3, .int v4, .int v5, .int s.1, Value.null] [] s.2 (oI r) h9) (hb1 : ∀ s : Int32 × Hp, x = .inr (.inl s) → J (d + 3) YX12_story 136 [.ref v0, Value.null, Value.null, .int v3, .int s.1, Value.null, Value.null, Value.null] [] s.2 (oI r) h9) (hx : ∀ z : (Int32 × Hp), x = .inr (.inr (z)) → z = (r, h9)) : J (d + 3) YX12_story 258 [.ref v0, Value.null, Value.null, .int v3, .int v4, .int v5, .int v6, .int v7] [] h (oI r) h9 := by
  unfold MX12_story_258 at H
  refine it_J (G := (fun q : Int32 × Hp => J (d + 3) YX12_story 258 [.ref v0, Value.null, Value.null, .int v3, .int v4, .int v5, .int v6, .int q.1] [] q.2 (oI r) h9)) (Q := (fun y : ((Int32 × Hp) ⊕ ((Int32 × Hp) ⊕ (Int32 × Hp))) => (∀ s : Int32 × Hp, y = .inl s → J (d + 3) YX12_story 191 [.ref v0, Value.null, Value.null, .int v3, .int v4, .int v5, .int s.1, Value.null] [] s.2 (oI r) h9) ∧ (∀ s : Int32 × Hp, y = .inr (.inl s) → J (d + 3) YX12_story 136 [.ref v0, Value.null, Value.null, .int v3, .int s.1, Value.null, Value.null, Value.null] [] s.2 (oI r) h9) ∧ (∀ z : (Int32 × Hp), y = .inr (.inr (z)) → z = (r, h9)))) (fun q x Hq hm => ?_) H ⟨hb0, hb1, hx⟩
  exact bX12_story_258 Hq (fun s hs => by subst hs; exact hm) (fun s hs => by subst hs; exact (hm.1) s rfl) (fun s hs => by subst hs; exact (hm.2.1) s rfl) (fun z hz => by subst hz; exact (hm.2.2) z rfl)
noncomputable def BX12_story_191 (h : Hp) (v0 : Nat) (v3 : Int32) (v4 : Int32) (v5 : Int32) (v6 : Int32) : Option ((Int32 × Hp) ⊕ ((Int32 × Hp) ⊕ (Int32 × Hp))) :=
  gg (kd h v0 = 11) <|
  gg (kd h (gP h v0 15) = 20) <|
  gg (inB v4 (ln h (gP h v0 15)) = true) <|
  if (gI h (gP h v0 15) v4.toNatClampNeg) ≤ v6 then
    some (.inr (.inl ((v4 + (1 : Int32)), h)))
  else
    gg (kd h (gP h v0 12) = 20) <|
    gg (inB (((40 : Int32) * v4) + v6) (ln h (gP h v0 12)) = true) <|
    gg (kd h (gP h v0 1) = 20) <|
    gg (inB ((v5 + (85 : Int32)) + v6) (ln h (gP h v0 1)) = true) <|
    lt (sI h (gP h v0 1) ((v5 + (85 : Int32)) + v6).toNatClampNeg (gI h (gP h v0 12) (((40 : Int32) * v4) + v6).toNatClampNeg)) fun h90 =>
    gg (kd h (gP h v0 13) = 20) <|
    gg (inB (((40 : Int32) * v4) + v6) (ln h (gP h v0 13)) = true) <|
    gg (inB ((v5 + (125 : Int32)) + v6) (ln h (gP h v0 1)) = true) <|
    lt (sI h90 (gP h v0 1) ((v5 + (125 : Int32)) + v6).toNatClampNeg (gI h90 (gP h v0 13) (((40 : Int32) * v4) + v6).toNatClampNeg)) fun h98 =>
    MX12_story_258 h98 v0 v3 v4 v5 v6 (0 : Int32)
set_option maxRecDepth 100000 in
set_option maxHeartbeats 8000000 in
theorem bX12_story_191 {d : Nat} {h : Hp} {v0 : Nat} {v3 : Int32} {v4 : Int32} {v5 : Int32} {v6 : Int32} {r : Int32} {h9 : Hp} {x : ((Int32 × Hp) ⊕ ((Int32 × Hp) ⊕ (Int32 × Hp)))} (H : BX12_story_191 h v0 v3 v4 v5 v6 = some x) (hb0 : ∀ s : Int32 × Hp, x = .inl s → J (d + 3) YX12_story 191 [.ref v0, Value.null, Value.null, .int v3, .int v4, .int v5, .int s.1, Value.null] [] s.2 (oI r) h9) (hb1 : ∀ s : Int32 × Hp, x = .inr (.inl s) → J (d + 3) YX12_story 136 [.ref v0, Value.null, Value.null, .int v3, .int s.1, Value.null, Value.null, Value.null] [] s.2 (oI r) h9) (hx : ∀ z : (Int32 × Hp), x = .inr (.inr (z)) → z = (r, h9)) : J (d + 3) YX12_story 191 [.ref v0, Value.null, Value.null, .int v3, .int v4, .int v5, .int v6, Value.null] [] h (oI r) h9 := by
  unfold BX12_story_191 at H
  refine J_iload dX12_story_191 rfl ?_
  refine J_aload_n 0 dX12_story_193 rfl rfl ?_
  obtain ⟨g82, H⟩ := gd H
  refine J_gP 11 15 dX12_story_194 g82 flX12_36 rfl rfl ?_
  refine J_iload dX12_story_197 rfl ?_
  obtain ⟨g83, H⟩ := gd H
  obtain ⟨g84, H⟩ := gd H
  refine J_iald dX12_story_199 g83 (inB_ok g84) ?_
  refine J_icmp_ge 316 dX12_story_200 rfl (fun q85 => ?_) (fun q85 => ?_)
  · replace H := br1 q85 H
    refine J_iinc (v4 + (1 : Int32)) dX12_story_316 rfl (congrArg (HAdd.hAdd v4) kc_1) (by decide) (ls' := [.ref v0, Value.null, Value.null, .int v3, .int (v4 + (1 : Int32)), .int v5, .int v6, Value.null]) rfl ?_
    refine J_goto 136 dX12_story_319 rfl ?_
    cases H
    exact J_dr (hb1 _ rfl) ⟨rfl, ⟨rfl, ⟨rfl, trivial⟩⟩⟩
  · replace H := br0 q85 H
    refine J_aload_n 0 dX12_story_203 rfl rfl ?_
    refine J_gP 11 1 dX12_story_204 g82 flX12_8 rfl rfl ?_
    refine J_iload dX12_story_207 rfl ?_
    refine J_bipush (85 : Int32) dX12_story_209 kb_85 ?_
    refine J_iadd dX12_story_211 ?_
    refine J_iload dX12_story_212 rfl ?_
    refine J_iadd dX12_story_214 ?_
    refine J_aload_n 0 dX12_story_215 rfl rfl ?_
    refine J_gP 11 12 dX12_story_216 g82 flX12_27 rfl rfl ?_
    refine J_bipush (40 : Int32) dX12_story_219 kb_40 ?_
    refine J_iload dX12_story_221 rfl ?_
    refine J_imul dX12_story_223 ?_
    refine J_iload dX12_story_224 rfl ?_
    refine J_iadd dX12_story_226 ?_
    obtain ⟨g86, H⟩ := gd H
    obtain ⟨g87, H⟩ := gd H
    refine J_iald dX12_story_227 g86 (inB_ok g87) ?_
    obtain ⟨g88, H⟩ := gd H
    obtain ⟨g89, H⟩ := gd H
    obtain ⟨h90, e91, H⟩ := lt_el H
    refine J_sI dX12_story_228 g88 (inB_ok g89) e91 ?_
    have c92 := ekI e91
    have c93 := elI e91
    have c94 := epI e91
    refine J_aload_n 0 dX12_story_229 rfl rfl ?_
    refine J_gP 11 1 dX12_story_230 (kq c92 g82) flX12_8 rfl (congrFun (congrFun c94 v0) 1) ?_
    refine J_iload dX12_story_233 rfl ?_
    refine J_bipush (125 : Int32) dX12_story_235 kb_125 ?_
    refine J_iadd dX12_story_237 ?_
    refine J_iload dX12_story_238 rfl ?_
    refine J_iadd dX12_story_240 ?_
    refine J_aload_n 0 dX12_story_241 rfl rfl ?_
    refine J_gP 11 13 dX12_story_242 (kq c92 g82) flX12_30 rfl (congrFun (congrFun c94 v0) 13) ?_
    refine J_bipush (40 : Int32) dX12_story_245 kb_40 ?_
    refine J_iload dX12_story_247 rfl ?_
    refine J_imul dX12_story_249 ?_
    refine J_iload dX12_story_250 rfl ?_
    refine J_iadd dX12_story_252 ?_
    obtain ⟨g95, H⟩ := gd H
    obtain ⟨g96, H⟩ := gd H
    refine J_iald dX12_story_253 (kq c92 g95) (lq c93 g96) ?_
    obtain ⟨g97, H⟩ := gd H
    obtain ⟨h98, e99, H⟩ := lt_el H
    refine J_sI dX12_story_254 (kq c92 g88) (lq c93 g97) e99 ?_
    have c100 := (ekI e99).trans c92
    have c101 := (elI e99).trans c93
    have c102 := (epI e99).trans c94
    refine J_iconst (0 : Int32) dX12_story_255 kc_0 ?_
    refine J_istore dX12_story_256 (by decide) (ls' := [.ref v0, Value.null, Value.null, .int v3, .int v4, .int v5, .int v6, .int (0 : Int32)]) rfl ?_
    exact J_dr (kX12_story_258 H hb0 hb1 hx) ⟨rfl, ⟨rfl, ⟨rfl, ⟨rfl, ⟨rfl, ⟨rfl, trivial⟩⟩⟩⟩⟩⟩
noncomputable def MX12_story_191 (h : Hp) (v0 : Nat) (v3 : Int32) (v4 : Int32) (v5 : Int32) (v6 : Int32) : Option ((Int32 × Hp) ⊕ (Int32 × Hp)) := it (fun q : Int32 × Hp => BX12_story_191 q.2 v0 v3 v4 v5 q.1) (v6, h)
set_option maxRecDepth 100000 in
set_option maxHeartbeats 8000000 in
theorem kX12_story_191 {d : Nat} {h : Hp} {v0 : Nat} {v3 : Int32} {v4 : Int32} {v5 : Int32} {v6 : Int32} {r : Int32} {h9 : Hp} {x : ((Int32 × Hp) ⊕ (Int32 × Hp))} (H : MX12_story_191 h v0 v3 v4 v5 v6 = some x) (hb0 : ∀ s : Int32 × Hp, x = .inl s → J (d + 3) YX12_story 136 [.ref v0, Value.null, Value.null, .int v3, .int s.1, Value.null, Value.null, Value.null] [] s.2 (oI r) h9) (hx : ∀ z : (Int32 × Hp), x = .inr (z) → z = (r, h9)) : J (d + 3) YX12_story 191 [.ref v0, Value.null, Value.null, .int v3, .int v4, .int v5, .int v6, Value.null] [] h (oI r) h9 := by
  unfold MX12_story_191 at H
  refine it_J (G := (fun q : Int32 × Hp => J (d + 3) YX12_story 191 [.ref v0, Value.null, Value.null, .int v3, .int v4, .int v5, .int q.1, Value.null] [] q.2 (oI r) h9)) (Q := (fun y : ((Int32 × Hp) ⊕ (Int32 × Hp)) => (∀ s : Int32 × Hp, y = .inl s → J (d + 3) YX12_story 136 [.ref v0, Value.null, Value.null, .int v3, .int s.1, Value.null, Value.null, Value.null] [] s.2 (oI r) h9) ∧ (∀ z : (Int32 × Hp), y = .inr (z) → z = (r, h9)))) (fun q x Hq hm => ?_) H ⟨hb0, hx⟩
  exact bX12_story_191 Hq (fun s hs => by subst hs; exact hm) (fun s hs => by subst hs; exact (hm.1) s rfl) (fun z hz => by subst hz; exact (hm.2) z rfl)
noncomputable def BX12_story_136 (h : Hp) (v0 : Nat) (v3 : Int32) (v4 : Int32) : Option ((Int32 × Hp) ⊕ (Int32 × Hp)) :=
  gg (kd h v0 = 11) <|
  if (gI h v0 17) < v4 then
    up1 (MX12_story_322 h v0 v3)
  else
    Option.bind (MX12_part0 h (((5 : Int32) * v3) + v4)) fun t64 =>
    gg (kd h (gP h v0 16) = 20) <|
    gg (inB v4 (ln h (gP h v0 16)) = true) <|
    gg (kd h (gP h v0 1) = 20) <|
    gg (inB (t64 + (0 : Int32)) (ln h (gP h v0 1)) = true) <|
    lt (sI h (gP h v0 1) (t64 + (0 : Int32)).toNatClampNeg (gI h (gP h v0 16) v4.toNatClampNeg)) fun h69 =>
    gg (kd h (gP h v0 15) = 20) <|
    gg (inB v4 (ln h (gP h v0 15)) = true) <|
    gg (inB (t64 + (1 : Int32)) (ln h (gP h v0 1)) = true) <|
    lt (sI h69 (gP h v0 1) (t64 + (1 : Int32)).toNatClampNeg (gI h69 (gP h v0 15) v4.toNatClampNeg)) fun h77 =>
    MX12_story_191 h77 v0 v3 v4 t64 (0 : Int32)
set_option maxRecDepth 100000 in
set_option maxHeartbeats 8000000 in
theorem bX12_story_136 {d : Nat} {h : Hp} {v0 : Nat} {v3 : Int32} {v4 : Int32} {r : Int32} {h9 : Hp} {x : ((Int32 × Hp) ⊕ (Int32 × Hp))} (H : BX12_story_136 h v0 v3 v4 = some x) (hb0 : ∀ s : Int32 × Hp, x = .inl s → J (d + 3) YX12_story 136 [.ref v0, Value.null, Value.null, .int v3, .int s.1, Value.null, Value.null, Value.null] [] s.2 (oI r) h9) (hx : ∀ z : (Int32 × Hp), x = .inr (z) → z = (r, h9)) : J (d + 3) YX12_story 136 [.ref v0, Value.null, Value.null, .int v3, .int v4, Value.null, Value.null, Value.null] [] h (oI r) h9 := by
  unfold BX12_story_136 at H
  refine J_iload dX12_story_136 rfl ?_
  refine J_aload_n 0 dX12_story_138 rfl rfl ?_
  obtain ⟨g53, H⟩ := gd H
  refine J_getI 11 17 dX12_story_139 g53 flX12_140 rfl ?_
  refine J_icmp_gt 322 dX12_story_142 rfl (fun q54 => ?_) (fun q54 => ?_)
  · replace H := br1 q54 H
    obtain ⟨y, H9, rfl⟩ := up1_el H
    replace H := H9
    obtain rfl := hx _ rfl
    exact J_dr (kX12_story_322 H ) ⟨rfl, ⟨rfl, trivial⟩⟩
  · replace H := br0 q54 H
    refine J_iconst (5 : Int32) dX12_story_145 kc_5 ?_
    refine J_iload_n 3 dX12_story_146 rfl rfl ?_
    refine J_imul dX12_story_147 ?_
    refine J_iload dX12_story_148 rfl ?_
    refine J_iadd dX12_story_150 ?_
    obtain ⟨t64, e63, H⟩ := bd H
    refine J_cS (as := [.int (((5 : Int32) * v3) + v4)]) YX12_part0 1 dX12_story_151 moX12_part0 msX12_part0 mlX12_164 (okX12_part0 (d := d + 2) e63) rfl rfl [] rfl rfl (st2 := [.int t64]) rfl ?_
    refine J_istore dX12_story_154 (by decide) (ls' := [.ref v0, Value.null, Value.null, .int v3, .int v4, .int t64, Value.null, Value.null]) rfl ?_
    refine J_aload_n 0 dX12_story_156 rfl rfl ?_
    refine J_gP 11 1 dX12_story_157 g53 flX12_8 rfl rfl ?_
    refine J_iload dX12_story_160 rfl ?_
    refine J_iconst (0 : Int32) dX12_story_162 kc_0 ?_
    refine J_iadd dX12_story_163 ?_
    refine J_aload_n 0 dX12_story_164 rfl rfl ?_
    refine J_gP 11 16 dX12_story_165 g53 flX12_39 rfl rfl ?_
    refine J_iload dX12_story_168 rfl ?_
    obtain ⟨g65, H⟩ := gd H
    obtain ⟨g66, H⟩ := gd H
    refine J_iald dX12_story_170 g65 (inB_ok g66) ?_
    obtain ⟨g67, H⟩ := gd H
    obtain ⟨g68, H⟩ := gd H
    obtain ⟨h69, e70, H⟩ := lt_el H
    refine J_sI dX12_story_171 g67 (inB_ok g68) e70 ?_
    have c71 := ekI e70
    have c72 := elI e70
    have c73 := epI e70
    refine J_aload_n 0 dX12_story_172 rfl rfl ?_
    refine J_gP 11 1 dX12_story_173 (kq c71 g53) flX12_8 rfl (congrFun (congrFun c73 v0) 1) ?_
    refine J_iload dX12_story_176 rfl ?_
    refine J_iconst (1 : Int32) dX12_story_178 kc_1 ?_
    refine J_iadd dX12_story_179 ?_
    refine J_aload_n 0 dX12_story_180 rfl rfl ?_
    refine J_gP 11 15 dX12_story_181 (kq c71 g53) flX12_36 rfl (congrFun (congrFun c73 v0) 15) ?_
    refine J_iload dX12_story_184 rfl ?_
    obtain ⟨g74, H⟩ := gd H
    obtain ⟨g75, H⟩ := gd H
    refine J_iald dX12_story_186 (kq c71 g74) (lq c72 g75) ?_
    obtain ⟨g76, H⟩ := gd H
    obtain ⟨h77, e78, H⟩ := lt_el H
    refine J_sI dX12_story_187 (kq c71 g67) (lq c72 g76) e78 ?_
    have c79 := (ekI e78).trans c71
    have c80 := (elI e78).trans c72
    have c81 := (epI e78).trans c73
    refine J_iconst (0 : Int32) dX12_story_188 kc_0 ?_
    refine J_istore dX12_story_189 (by decide) (ls' := [.ref v0, Value.null, Value.null, .int v3, .int v4, .int t64, .int (0 : Int32), Value.null]) rfl ?_
    exact J_dr (kX12_story_191 H hb0 hx) ⟨rfl, ⟨rfl, ⟨rfl, ⟨rfl, ⟨rfl, trivial⟩⟩⟩⟩⟩
noncomputable def MX12_story_136 (h : Hp) (v0 : Nat) (v3 : Int32) (v4 : Int32) : Option (Int32 × Hp) := it (fun q : Int32 × Hp => BX12_story_136 q.2 v0 v3 q.1) (v4, h)
set_option maxRecDepth 100000 in
set_option maxHeartbeats 8000000 in
theorem kX12_story_136 {d : Nat} {h : Hp} {v0 : Nat} {v3 : Int32} {v4 : Int32} {r : Int32} {h9 : Hp} (H : MX12_story_136 h v0 v3 v4 = some (r, h9)) : J (d + 3) YX12_story 136 [.ref v0, Value.null, Value.null, .int v3, .int v4, Value.null, Value.null, Value.null] [] h (oI r) h9 := by
  unfold MX12_story_136 at H
  refine it_J (G := (fun q : Int32 × Hp => J (d + 3) YX12_story 136 [.ref v0, Value.null, Value.null, .int v3, .int q.1, Value.null, Value.null, Value.null] [] q.2 (oI r) h9)) (Q := (fun y : (Int32 × Hp) => y = (r, h9))) (fun q x Hq hm => ?_) H rfl
  exact bX12_story_136 Hq (fun s hs => by subst hs; exact hm) (fun z hz => by subst hz; exact hm)
noncomputable def MX12_story_82 (h : Hp) (v0 : Nat) (v1 : Int32) (v2 : Int32) : Option (Int32 × Hp) :=
  gg (kd h v0 = 11) <|
  if (gI h v0 0) ≤ 0 then
    gg (kd h (gP h v0 1) = 20) <|
    gg (inB (1 : Int32) (ln h (gP h v0 1)) = true) <|
    gg (inB ((70 : Int32) + (gI h (gP h v0 1) (1 : Int32).toNatClampNeg)) (ln h (gP h v0 1)) = true) <|
    lt (sI h (gP h v0 1) ((70 : Int32) + (gI h (gP h v0 1) (1 : Int32).toNatClampNeg)).toNatClampNeg v1) fun h36 =>
    gg (inB ((90 : Int32) + (gI h (gP h v0 1) (1 : Int32).toNatClampNeg)) (ln h (gP h v0 1)) = true) <|
    lt (sI h36 (gP h v0 1) ((90 : Int32) + (gI h (gP h v0 1) (1 : Int32).toNatClampNeg)).toNatClampNeg v2) fun h42 =>
    gg (inB ((110 : Int32) + (gI h (gP h v0 1) (1 : Int32).toNatClampNeg)) (ln h (gP h v0 1)) = true) <|
    lt (sI h42 (gP h v0 1) ((110 : Int32) + (gI h (gP h v0 1) (1 : Int32).toNatClampNeg)).toNatClampNeg ((gI h42 v0 17) + (1 : Int32))) fun h48 =>
    MX12_story_136 h48 v0 (gI h (gP h v0 1) (1 : Int32).toNatClampNeg) (0 : Int32)
  else
    some ((0 : Int32), h)
set_option maxRecDepth 100000 in
set_option maxHeartbeats 8000000 in
theorem kX12_story_82 {d : Nat} {h : Hp} {v0 : Nat} {v1 : Int32} {v2 : Int32} {r : Int32} {h9 : Hp} (H : MX12_story_82 h v0 v1 v2 = some (r, h9)) : J (d + 3) YX12_story 82 [.ref v0, .int v1, .int v2, Value.null, Value.null, Value.null, Value.null, Value.null] [] h (oI r) h9 := by
  unfold MX12_story_82 at H
  refine J_aload_n 0 dX12_story_82 rfl rfl ?_
  obtain ⟨g31, H⟩ := gd H
  refine J_getI 11 0 dX12_story_83 g31 flX12_122 rfl ?_
  refine J_if_le 91 dX12_story_86 rfl (fun q32 => ?_) (fun q32 => ?_)
  · replace H := br1 q32 H
    refine J_aload_n 0 dX12_story_91 rfl rfl ?_
    refine J_gP 11 1 dX12_story_92 g31 flX12_8 rfl rfl ?_
    refine J_iconst (1 : Int32) dX12_story_95 kc_1 ?_
    obtain ⟨g33, H⟩ := gd H
    obtain ⟨g34, H⟩ := gd H
    refine J_iald dX12_story_96 g33 (inB_ok g34) ?_
    refine J_istore_n 3 dX12_story_97 rfl (by decide) (ls' := [.ref v0, .int v1, .int v2, .int (gI h (gP h v0 1) (1 : Int32).toNatClampNeg), Value.null, Value.null, Value.null, Value.null]) rfl ?_
    refine J_aload_n 0 dX12_story_98 rfl rfl ?_
    refine J_gP 11 1 dX12_story_99 g31 flX12_8 rfl rfl ?_
    refine J_bipush (70 : Int32) dX12_story_102 kb_70 ?_
    refine J_iload_n 3 dX12_story_104 rfl rfl ?_
    refine J_iadd dX12_story_105 ?_
    refine J_iload_n 1 dX12_story_106 rfl rfl ?_
    obtain ⟨g35, H⟩ := gd H
    obtain ⟨h36, e37, H⟩ := lt_el H
    refine J_sI dX12_story_107 g33 (inB_ok g35) e37 ?_
    have c38 := ekI e37
    have c39 := elI e37
    have c40 := epI e37
    refine J_aload_n 0 dX12_story_108 rfl rfl ?_
    refine J_gP 11 1 dX12_story_109 (kq c38 g31) flX12_8 rfl (congrFun (congrFun c40 v0) 1) ?_
    refine J_bipush (90 : Int32) dX12_story_112 kb_90 ?_
    refine J_iload_n 3 dX12_story_114 rfl rfl ?_
    refine J_iadd dX12_story_115 ?_
    refine J_iload_n 2 dX12_story_116 rfl rfl ?_
    obtain ⟨g41, H⟩ := gd H
    obtain ⟨h42, e43, H⟩ := lt_el H
    refine J_sI dX12_story_117 (kq c38 g33) (lq c39 g41) e43 ?_
    have c44 := (ekI e43).trans c38
    have c45 := (elI e43).trans c39
    have c46 := (epI e43).trans c40
    refine J_aload_n 0 dX12_story_118 rfl rfl ?_
    refine J_gP 11 1 dX12_story_119 (kq c44 g31) flX12_8 rfl (congrFun (congrFun c46 v0) 1) ?_
    refine J_bipush (110 : Int32) dX12_story_122 kb_110 ?_
    refine J_iload_n 3 dX12_story_124 rfl rfl ?_
    refine J_iadd dX12_story_125 ?_
    refine J_aload_n 0 dX12_story_126 rfl rfl ?_
    refine J_getI 11 17 dX12_story_127 (kq c44 g31) flX12_140 rfl ?_
    refine J_iconst (1 : Int32) dX12_story_130 kc_1 ?_
    refine J_iadd dX12_story_131 ?_
    obtain ⟨g47, H⟩ := gd H
    obtain ⟨h48, e49, H⟩ := lt_el H
    refine J_sI dX12_story_132 (kq c44 g33) (lq c45 g47) e49 ?_
    have c50 := (ekI e49).trans c44
    have c51 := (elI e49).trans c45
    have c52 := (epI e49).trans c46
    refine J_iconst (0 : Int32) dX12_story_133 kc_0 ?_
    refine J_istore dX12_story_134 (by decide) (ls' := [.ref v0, .int v1, .int v2, .int (gI h (gP h v0 1) (1 : Int32).toNatClampNeg), .int (0 : Int32), Value.null, Value.null, Value.null]) rfl ?_
    exact J_dr (kX12_story_136 H ) ⟨rfl, ⟨rfl, ⟨rfl, trivial⟩⟩⟩
  · replace H := br0 q32 H
    refine J_iconst (0 : Int32) dX12_story_89 kc_0 ?_
    cases H
    exact J_iretI dX12_story_90 rfl
noncomputable def MX12_story_34 (h : Hp) (v0 : Nat) (v1 : Int32) (v2 : Int32) (s0 : Nat) (s1 : Int32) : Option (Int32 × Hp) :=
  gg (kd h s0 = 11) <|
  lt (sI h s0 0 s1) fun h11 =>
  gg (kd h v0 = 11) <|
  if (gI h11 v0 0) ≤ 0 then
    lt (sI h11 v0 9 (-1 : Int32)) fun h18 =>
    b2 (MX12_readStory h18 v0) fun t25 h24 =>
    if t25 = 0 then
      gg (kd h24 v0 = 11) <|
      lt (sI h24 v0 0 (2 : Int32)) fun h120 =>
      MX12_story_82 h120 v0 v1 v2
    else
      gg (kd h24 v0 = 11) <|
      gg (kd h24 (gP h24 v0 1) = 20) <|
      gg (inB (1 : Int32) (ln h24 (gP h24 v0 1)) = true) <|
      if (gI h24 (gP h24 v0 1) (1 : Int32).toNatClampNeg) = (20 : Int32) then
        lt (sI h24 v0 0 (3 : Int32)) fun h114 =>
        MX12_story_82 h114 v0 v1 v2
      else
        MX12_story_82 h24 v0 v1 v2
  else
    some ((0 : Int32), h11)
set_option maxRecDepth 100000 in
set_option maxHeartbeats 8000000 in
theorem kX12_story_34 {d : Nat} {h : Hp} {v0 : Nat} {v1 : Int32} {v2 : Int32} {s0 : Nat} {s1 : Int32} {r : Int32} {h9 : Hp} (H : MX12_story_34 h v0 v1 v2 s0 s1 = some (r, h9)) : J (d + 3) YX12_story 34 [.ref v0, .int v1, .int v2, Value.null, Value.null, Value.null, Value.null, Value.null] [.int s1, .ref s0] h (oI r) h9 := by
  unfold MX12_story_34 at H
  obtain ⟨g10, H⟩ := gd H
  obtain ⟨h11, e12, H⟩ := lt_el H
  refine J_pI 11 0 dX12_story_34 g10 flX12_122 rfl rfl e12 ?_
  have c13 := ekI e12
  have c14 := elI e12
  have c15 := epI e12
  refine J_aload_n 0 dX12_story_37 rfl rfl ?_
  obtain ⟨g16, H⟩ := gd H
  refine J_getI 11 0 dX12_story_38 (kq c13 g16) flX12_122 rfl ?_
  refine J_if_le 46 dX12_story_41 rfl (fun q17 => ?_) (fun q17 => ?_)
  · replace H := br1 q17 H
    refine J_aload_n 0 dX12_story_46 rfl rfl ?_
    refine J_iconst (-1 : Int32) dX12_story_47 kc_m1 ?_
    obtain ⟨h18, e19, H⟩ := lt_el H
    refine J_pI 11 9 dX12_story_48 (kq c13 g16) flX12_23 rfl rfl e19 ?_
    have c20 := (ekI e19).trans c13
    have c21 := (elI e19).trans c14
    have c22 := (epI e19).trans c15
    refine J_aload_n 0 dX12_story_51 rfl rfl ?_
    obtain ⟨t25, h24, e23, H⟩ := b2_el H
    refine J_cV (as := []) 11 YX12_readStory 0 dX12_story_52 moX12_readStory mvX12_readStory mlX12_160 (kq c20 g16) rfl (okX12_readStory (d := d) e23) rfl rfl [] rfl rfl (st2 := [.int t25]) rfl ?_
    refine J_if_ne 66 dX12_story_55 rfl (fun q26 => ?_) (fun q26 => ?_)
    · replace H := br0 q26 H
      refine J_aload_n 0 dX12_story_66 rfl rfl ?_
      obtain ⟨g27, H⟩ := gd H
      refine J_gP 11 1 dX12_story_67 g27 flX12_8 rfl rfl ?_
      refine J_iconst (1 : Int32) dX12_story_70 kc_1 ?_
      obtain ⟨g28, H⟩ := gd H
      obtain ⟨g29, H⟩ := gd H
      refine J_iald dX12_story_71 g28 (inB_ok g29) ?_
      refine J_bipush (20 : Int32) dX12_story_72 kb_20 ?_
      refine J_icmp_ne 82 dX12_story_74 rfl (fun q30 => ?_) (fun q30 => ?_)
      · replace H := br0 q30 H
        exact J_dr (kX12_story_82 H ) ⟨rfl, ⟨rfl, ⟨rfl, trivial⟩⟩⟩
      · replace H := br1 q30 H
        refine J_aload_n 0 dX12_story_77 rfl rfl ?_
        refine J_iconst (3 : Int32) dX12_story_78 kc_3 ?_
        obtain ⟨h114, e115, H⟩ := lt_el H
        refine J_pI 11 0 dX12_story_79 g27 flX12_122 rfl rfl e115 ?_
        have c116 := ekI e115
        have c117 := elI e115
        have c118 := epI e115
        exact J_dr (kX12_story_82 H ) ⟨rfl, ⟨rfl, ⟨rfl, trivial⟩⟩⟩
    · replace H := br1 q26 H
      refine J_aload_n 0 dX12_story_58 rfl rfl ?_
      refine J_iconst (2 : Int32) dX12_story_59 kc_2 ?_
      obtain ⟨g119, H⟩ := gd H
      obtain ⟨h120, e121, H⟩ := lt_el H
      refine J_pI 11 0 dX12_story_60 g119 flX12_122 rfl rfl e121 ?_
      have c122 := ekI e121
      have c123 := elI e121
      have c124 := epI e121
      refine J_goto 82 dX12_story_63 rfl ?_
      exact J_dr (kX12_story_82 H ) ⟨rfl, ⟨rfl, ⟨rfl, trivial⟩⟩⟩
  · replace H := br0 q17 H
    refine J_iconst (0 : Int32) dX12_story_44 kc_0 ?_
    cases H
    exact J_iretI dX12_story_45 rfl
noncomputable def MX12_story (h : Hp) (v0 : Nat) (v1 : Int32) (v2 : Int32) : Option (Int32 × Hp) :=
  gg (kd h v0 = 11) <|
  Option.bind (MX12_use h v0) fun h3 =>
  Option.bind (MX12_isIn h3 v1 (0 : Int32) (1 : Int32)) fun t5 =>
  if t5 = 0 then
    MX12_story_34 h3 v0 v1 v2 v0 (1 : Int32)
  else
    Option.bind (MX12_isIn h3 v2 (0 : Int32) (600 : Int32)) fun t8 =>
    if t8 = 0 then
      MX12_story_34 h3 v0 v1 v2 v0 (2 : Int32)
    else
      MX12_story_34 h3 v0 v1 v2 v0 (0 : Int32)
set_option maxRecDepth 100000 in
set_option maxHeartbeats 8000000 in
theorem eX12_story {d : Nat} {h : Hp} {v0 : Nat} {v1 : Int32} {v2 : Int32} {r : Int32} {h9 : Hp} (H : MX12_story h v0 v1 v2 = some (r, h9)) : J (d + 3) YX12_story 0 [.ref v0, .int v1, .int v2, Value.null, Value.null, Value.null, Value.null, Value.null] [] h (oI r) h9 := by
  unfold MX12_story at H
  refine J_aload_n 0 dX12_story_0 rfl rfl ?_
  obtain ⟨g2, H⟩ := gd H
  obtain ⟨h3, e1, H⟩ := bd H
  refine J_cV (as := []) 11 YX12_use 0 dX12_story_1 moX12_use mvX12_use mlX12_154 g2 rfl (okX12_use (d := d + 2) e1) rfl rfl [] rfl rfl (st2 := []) rfl ?_
  refine J_aload_n 0 dX12_story_4 rfl rfl ?_
  refine J_iload_n 1 dX12_story_5 rfl rfl ?_
  refine J_iconst (0 : Int32) dX12_story_6 kc_0 ?_
  refine J_iconst (1 : Int32) dX12_story_7 kc_1 ?_
  obtain ⟨t5, e4, H⟩ := bd H
  refine J_cS (as := [.int v1, .int (0 : Int32), .int (1 : Int32)]) YX12_isIn 3 dX12_story_8 moX12_isIn msX12_isIn mlX12_157 (okX12_isIn (d := d + 2) e4) rfl rfl [.ref v0] rfl rfl (st2 := [.int t5, .ref v0]) rfl ?_
  refine J_if_ne 18 dX12_story_11 rfl (fun q6 => ?_) (fun q6 => ?_)
  · replace H := br0 q6 H
    refine J_iload_n 2 dX12_story_18 rfl rfl ?_
    refine J_iconst (0 : Int32) dX12_story_19 kc_0 ?_
    refine J_sipush (600 : Int32) dX12_story_20 ks_600 ?_
    obtain ⟨t8, e7, H⟩ := bd H
    refine J_cS (as := [.int v2, .int (0 : Int32), .int (600 : Int32)]) YX12_isIn 3 dX12_story_23 moX12_isIn msX12_isIn mlX12_157 (okX12_isIn (d := d + 2) e7) rfl rfl [.ref v0] rfl rfl (st2 := [.int t8, .ref v0]) rfl ?_
    refine J_if_ne 33 dX12_story_26 rfl (fun q9 => ?_) (fun q9 => ?_)
    · replace H := br0 q9 H
      refine J_iconst (0 : Int32) dX12_story_33 kc_0 ?_
      exact J_dr (kX12_story_34 H ) ⟨rfl, ⟨rfl, ⟨rfl, trivial⟩⟩⟩
    · replace H := br1 q9 H
      refine J_iconst (2 : Int32) dX12_story_29 kc_2 ?_
      refine J_goto 34 dX12_story_30 rfl ?_
      exact J_dr (kX12_story_34 H ) ⟨rfl, ⟨rfl, ⟨rfl, trivial⟩⟩⟩
  · replace H := br1 q6 H
    refine J_iconst (1 : Int32) dX12_story_14 kc_1 ?_
    refine J_goto 34 dX12_story_15 rfl ?_
    exact J_dr (kX12_story_34 H ) ⟨rfl, ⟨rfl, ⟨rfl, trivial⟩⟩⟩
theorem okX12_story {d : Nat} {h : Hp} {v0 : Nat} {v1 : Int32} {v2 : Int32} {r : Int32} {h9 : Hp} (H : MX12_story h v0 v1 v2 = some (r, h9)) : CT (d + 3) YX12_story [.ref v0, .int v1, .int v2] h (oI r) h9 := CT_of (by decide +kernel) (Nat.le_of_ble_eq_true rfl) (eX12_story H)
noncomputable def MX12_style_128 (h : Hp) (v0 : Nat) (v1 : Int32) (v2 : Int32) : Option (Int32 × Hp) :=
  gg (kd h v0 = 11) <|
  gg (kd h (gP h v0 1) = 20) <|
  gg (inB v2 (ln h (gP h v0 1)) = true) <|
  lt (sI h (gP h v0 1) v2.toNatClampNeg v1) fun h42 =>
  gg (inB (v2 + (1 : Int32)) (ln h (gP h v0 1)) = true) <|
  lt (sI h42 (gP h v0 1) (v2 + (1 : Int32)).toNatClampNeg (gI h42 v0 19)) fun h48 =>
  gg (inB (2 : Int32) (ln h (gP h v0 1)) = true) <|
  lt (sI h48 (gP h v0 1) (2 : Int32).toNatClampNeg ((gI h48 (gP h v0 1) (2 : Int32).toNatClampNeg) + (1 : Int32))) fun h54 =>
  some ((gI h54 v0 19), h54)
set_option maxRecDepth 100000 in
set_option maxHeartbeats 8000000 in
theorem kX12_style_128 {d : Nat} {h : Hp} {v0 : Nat} {v1 : Int32} {v2 : Int32} {r : Int32} {h9 : Hp} (H : MX12_style_128 h v0 v1 v2 = some (r, h9)) : J (d + 39) YX12_style 128 [.ref v0, .int v1, .int v2, Value.null] [] h (oI r) h9 := by
  unfold MX12_style_128 at H
  refine J_aload_n 0 dX12_style_128 rfl rfl ?_
  obtain ⟨g39, H⟩ := gd H
  refine J_gP 11 1 dX12_style_129 g39 flX12_8 rfl rfl ?_
  refine J_iload_n 2 dX12_style_132 rfl rfl ?_
  refine J_iload_n 1 dX12_style_133 rfl rfl ?_
  obtain ⟨g40, H⟩ := gd H
  obtain ⟨g41, H⟩ := gd H
  obtain ⟨h42, e43, H⟩ := lt_el H
  refine J_sI dX12_style_134 g40 (inB_ok g41) e43 ?_
  have c44 := ekI e43
  have c45 := elI e43
  have c46 := epI e43
  refine J_aload_n 0 dX12_style_135 rfl rfl ?_
  refine J_gP 11 1 dX12_style_136 (kq c44 g39) flX12_8 rfl (congrFun (congrFun c46 v0) 1) ?_
  refine J_iload_n 2 dX12_style_139 rfl rfl ?_
  refine J_iconst (1 : Int32) dX12_style_140 kc_1 ?_
  refine J_iadd dX12_style_141 ?_
  refine J_aload_n 0 dX12_style_142 rfl rfl ?_
  refine J_getI 11 19 dX12_style_143 (kq c44 g39) flX12_245 rfl ?_
  obtain ⟨g47, H⟩ := gd H
  obtain ⟨h48, e49, H⟩ := lt_el H
  refine J_sI dX12_style_146 (kq c44 g40) (lq c45 g47) e49 ?_
  have c50 := (ekI e49).trans c44
  have c51 := (elI e49).trans c45
  have c52 := (epI e49).trans c46
  refine J_aload_n 0 dX12_style_147 rfl rfl ?_
  refine J_gP 11 1 dX12_style_148 (kq c50 g39) flX12_8 rfl (congrFun (congrFun c52 v0) 1) ?_
  refine J_iconst (2 : Int32) dX12_style_151 kc_2 ?_
  refine J_dup2 dX12_style_152 rfl rfl ?_
  obtain ⟨g53, H⟩ := gd H
  refine J_iald dX12_style_153 (kq c50 g40) (lq c51 g53) ?_
  refine J_iconst (1 : Int32) dX12_style_154 kc_1 ?_
  refine J_iadd dX12_style_155 ?_
  obtain ⟨h54, e55, H⟩ := lt_el H
  refine J_sI dX12_style_156 (kq c50 g40) (lq c51 g53) e55 ?_
  have c56 := (ekI e55).trans c50
  have c57 := (elI e55).trans c51
  have c58 := (epI e55).trans c52
  refine J_aload_n 0 dX12_style_157 rfl rfl ?_
  refine J_getI 11 19 dX12_style_158 (kq c56 g39) flX12_245 rfl ?_
  cases H
  exact J_iretI dX12_style_161 rfl
noncomputable def BX12_style_100 (h : Hp) (v0 : Nat) (v1 : Int32) (v2 : Int32) (v3 : Int32) : Option ((Int32 × Hp) ⊕ (Int32 × Hp)) :=
  gg (kd h v0 = 11) <|
  if (gI h v0 20) ≤ v3 then
    up1 (MX12_style_128 h v0 v1 v2)
  else
    gg (kd h (gP h v0 18) = 20) <|
    gg (inB v3 (ln h (gP h v0 18)) = true) <|
    gg (kd h (gP h v0 1) = 20) <|
    gg (inB (v2 + v3) (ln h (gP h v0 1)) = true) <|
    lt (sI h (gP h v0 1) (v2 + v3).toNatClampNeg (gI h (gP h v0 18) v3.toNatClampNeg)) fun h63 =>
    some (.inl ((v3 + (1 : Int32)), h63))
set_option maxRecDepth 100000 in
set_option maxHeartbeats 8000000 in
theorem bX12_style_100 {d : Nat} {h : Hp} {v0 : Nat} {v1 : Int32} {v2 : Int32} {v3 : Int32} {r : Int32} {h9 : Hp} {x : ((Int32 × Hp) ⊕ (Int32 × Hp))} (H : BX12_style_100 h v0 v1 v2 v3 = some x) (hb0 : ∀ s : Int32 × Hp, x = .inl s → J (d + 39) YX12_style 100 [.ref v0, .int v1, .int v2, .int s.1] [] s.2 (oI r) h9) (hx : ∀ z : (Int32 × Hp), x = .inr (z) → z = (r, h9)) : J (d + 39) YX12_style 100 [.ref v0, .int v1, .int v2, .int v3] [] h (oI r) h9 := by
  unfold BX12_style_100 at H
  refine J_iload_n 3 dX12_style_100 rfl rfl ?_
  refine J_aload_n 0 dX12_style_101 rfl rfl ?_
  obtain ⟨g37, H⟩ := gd H
  refine J_getI 11 20 dX12_style_102 g37 flX12_184 rfl ?_
  refine J_icmp_ge 128 dX12_style_105 rfl (fun q38 => ?_) (fun q38 => ?_)
  · replace H := br1 q38 H
    obtain ⟨y, H9, rfl⟩ := up1_el H
    replace H := H9
    obtain rfl := hx _ rfl
    exact J_dr (kX12_style_128 H ) ⟨rfl, ⟨rfl, ⟨rfl, trivial⟩⟩⟩
  · replace H := br0 q38 H
    refine J_aload_n 0 dX12_style_108 rfl rfl ?_
    refine J_gP 11 1 dX12_style_109 g37 flX12_8 rfl rfl ?_
    refine J_iload_n 2 dX12_style_112 rfl rfl ?_
    refine J_iload_n 3 dX12_style_113 rfl rfl ?_
    refine J_iadd dX12_style_114 ?_
    refine J_aload_n 0 dX12_style_115 rfl rfl ?_
    refine J_gP 11 18 dX12_style_116 g37 flX12_42 rfl rfl ?_
    refine J_iload_n 3 dX12_style_119 rfl rfl ?_
    obtain ⟨g59, H⟩ := gd H
    obtain ⟨g60, H⟩ := gd H
    refine J_iald dX12_style_120 g59 (inB_ok g60) ?_
    obtain ⟨g61, H⟩ := gd H
    obtain ⟨g62, H⟩ := gd H
    obtain ⟨h63, e64, H⟩ := lt_el H
    refine J_sI dX12_style_121 g61 (inB_ok g62) e64 ?_
    have c65 := ekI e64
    have c66 := elI e64
    have c67 := epI e64
    refine J_iinc (v3 + (1 : Int32)) dX12_style_122 rfl (congrArg (HAdd.hAdd v3) kc_1) (by decide) (ls' := [.ref v0, .int v1, .int v2, .int (v3 + (1 : Int32))]) rfl ?_
    refine J_goto 100 dX12_style_125 rfl ?_
    cases H
    exact J_dr (hb0 _ rfl) ⟨rfl, ⟨rfl, ⟨rfl, ⟨rfl, trivial⟩⟩⟩⟩
noncomputable def MX12_style_100 (h : Hp) (v0 : Nat) (v1 : Int32) (v2 : Int32) (v3 : Int32) : Option (Int32 × Hp) := it (fun q : Int32 × Hp => BX12_style_100 q.2 v0 v1 v2 q.1) (v3, h)
set_option maxRecDepth 100000 in
set_option maxHeartbeats 8000000 in
theorem kX12_style_100 {d : Nat} {h : Hp} {v0 : Nat} {v1 : Int32} {v2 : Int32} {v3 : Int32} {r : Int32} {h9 : Hp} (H : MX12_style_100 h v0 v1 v2 v3 = some (r, h9)) : J (d + 39) YX12_style 100 [.ref v0, .int v1, .int v2, .int v3] [] h (oI r) h9 := by
  unfold MX12_style_100 at H
  refine it_J (G := (fun q : Int32 × Hp => J (d + 39) YX12_style 100 [.ref v0, .int v1, .int v2, .int q.1] [] q.2 (oI r) h9)) (Q := (fun y : (Int32 × Hp) => y = (r, h9))) (fun q x Hq hm => ?_) H rfl
  exact bX12_style_100 Hq (fun s hs => by subst hs; exact hm) (fun z hz => by subst hz; exact hm)
noncomputable def MX12_style_74 (h : Hp) (v0 : Nat) (v1 : Int32) : Option (Int32 × Hp) :=
  gg (kd h v0 = 11) <|
  if (gI h v0 0) ≤ 0 then
    gg (kd h (gP h v0 1) = 20) <|
    gg (inB (2 : Int32) (ln h (gP h v0 1)) = true) <|
    lt ((320962 : Int32) + ((562 : Int32) * (gI h (gP h v0 1) (2 : Int32).toNatClampNeg))) fun w35 =>
    MX12_style_100 h v0 v1 w35 (2 : Int32)
  else
    some ((0 : Int32), h)
set_option maxRecDepth 100000 in
set_option maxHeartbeats 8000000 in
theorem kX12_style_74 {d : Nat} {h : Hp} {v0 : Nat} {v1 : Int32} {r : Int32} {h9 : Hp} (H : MX12_style_74 h v0 v1 = some (r, h9)) : J (d + 39) YX12_style 74 [.ref v0, .int v1, Value.null, Value.null] [] h (oI r) h9 := by
  unfold MX12_style_74 at H
  refine J_aload_n 0 dX12_style_74 rfl rfl ?_
  obtain ⟨g31, H⟩ := gd H
  refine J_getI 11 0 dX12_style_75 g31 flX12_122 rfl ?_
  refine J_if_le 83 dX12_style_78 rfl (fun q32 => ?_) (fun q32 => ?_)
  · replace H := br1 q32 H
    refine J_ldcw (320962 : Int32) coX12_273 dX12_style_83 ?_
    refine J_sipush (562 : Int32) dX12_style_86 ks_562 ?_
    refine J_aload_n 0 dX12_style_89 rfl rfl ?_
    refine J_gP 11 1 dX12_style_90 g31 flX12_8 rfl rfl ?_
    refine J_iconst (2 : Int32) dX12_style_93 kc_2 ?_
    obtain ⟨g33, H⟩ := gd H
    obtain ⟨g34, H⟩ := gd H
    refine J_iald dX12_style_94 g33 (inB_ok g34) ?_
    refine J_imul dX12_style_95 ?_
    refine J_iadd dX12_style_96 ?_
    obtain ⟨w35, e36, H⟩ := lt_el H
    refine J_nmI e36 ?_
    refine J_istore_n 2 dX12_style_97 rfl (by decide) (ls' := [.ref v0, .int v1, .int w35, Value.null]) rfl ?_
    refine J_iconst (2 : Int32) dX12_style_98 kc_2 ?_
    refine J_istore_n 3 dX12_style_99 rfl (by decide) (ls' := [.ref v0, .int v1, .int w35, .int (2 : Int32)]) rfl ?_
    exact J_dr (kX12_style_100 H ) ⟨rfl, ⟨rfl, ⟨rfl, ⟨rfl, trivial⟩⟩⟩⟩
  · replace H := br0 q32 H
    refine J_iconst (0 : Int32) dX12_style_81 kc_0 ?_
    cases H
    exact J_iretI dX12_style_82 rfl
noncomputable def MX12_style_26 (h : Hp) (v0 : Nat) (v1 : Int32) (s0 : Nat) (s1 : Int32) : Option (Int32 × Hp) :=
  gg (kd h s0 = 11) <|
  lt (sI h s0 0 s1) fun h11 =>
  gg (kd h v0 = 11) <|
  if (gI h11 v0 0) ≤ 0 then
    lt (sI h11 v0 9 (-1 : Int32)) fun h18 =>
    b2 (MX12_readStyle h18 v0) fun t25 h24 =>
    if t25 = 0 then
      gg (kd h24 v0 = 11) <|
      lt (sI h24 v0 0 (1 : Int32)) fun h74 =>
      MX12_style_74 h74 v0 v1
    else
      gg (kd h24 v0 = 11) <|
      gg (kd h24 (gP h24 v0 1) = 20) <|
      gg (inB (2 : Int32) (ln h24 (gP h24 v0 1)) = true) <|
      if (gI h24 (gP h24 v0 1) (2 : Int32).toNatClampNeg) = (10 : Int32) then
        lt (sI h24 v0 0 (2 : Int32)) fun h68 =>
        MX12_style_74 h68 v0 v1
      else
        MX12_style_74 h24 v0 v1
  else
    some ((0 : Int32), h11)
set_option maxRecDepth 100000 in
set_option maxHeartbeats 8000000 in
theorem kX12_style_26 {d : Nat} {h : Hp} {v0 : Nat} {v1 : Int32} {s0 : Nat} {s1 : Int32} {r : Int32} {h9 : Hp} (H : MX12_style_26 h v0 v1 s0 s1 = some (r, h9)) : J (d + 39) YX12_style 26 [.ref v0, .int v1, Value.null, Value.null] [.int s1, .ref s0] h (oI r) h9 := by
  unfold MX12_style_26 at H
  obtain ⟨g10, H⟩ := gd H
  obtain ⟨h11, e12, H⟩ := lt_el H
  refine J_pI 11 0 dX12_style_26 g10 flX12_122 rfl rfl e12 ?_
  have c13 := ekI e12
  have c14 := elI e12
  have c15 := epI e12
  refine J_aload_n 0 dX12_style_29 rfl rfl ?_
  obtain ⟨g16, H⟩ := gd H
  refine J_getI 11 0 dX12_style_30 (kq c13 g16) flX12_122 rfl ?_
  refine J_if_le 38 dX12_style_33 rfl (fun q17 => ?_) (fun q17 => ?_)
  · replace H := br1 q17 H
    refine J_aload_n 0 dX12_style_38 rfl rfl ?_
    refine J_iconst (-1 : Int32) dX12_style_39 kc_m1 ?_
    obtain ⟨h18, e19, H⟩ := lt_el H
    refine J_pI 11 9 dX12_style_40 (kq c13 g16) flX12_23 rfl rfl e19 ?_
    have c20 := (ekI e19).trans c13
    have c21 := (elI e19).trans c14
    have c22 := (epI e19).trans c15
    refine J_aload_n 0 dX12_style_43 rfl rfl ?_
    obtain ⟨t25, h24, e23, H⟩ := b2_el H
    refine J_cV (as := []) 11 YX12_readStyle 0 dX12_style_44 moX12_readStyle mvX12_readStyle mlX12_270 (kq c20 g16) rfl (okX12_readStyle (d := d) e23) rfl rfl [] rfl rfl (st2 := [.int t25]) rfl ?_
    refine J_if_ne 58 dX12_style_47 rfl (fun q26 => ?_) (fun q26 => ?_)
    · replace H := br0 q26 H
      refine J_aload_n 0 dX12_style_58 rfl rfl ?_
      obtain ⟨g27, H⟩ := gd H
      refine J_gP 11 1 dX12_style_59 g27 flX12_8 rfl rfl ?_
      refine J_iconst (2 : Int32) dX12_style_62 kc_2 ?_
      obtain ⟨g28, H⟩ := gd H
      obtain ⟨g29, H⟩ := gd H
      refine J_iald dX12_style_63 g28 (inB_ok g29) ?_
      refine J_bipush (10 : Int32) dX12_style_64 kb_10 ?_
      refine J_icmp_ne 74 dX12_style_66 rfl (fun q30 => ?_) (fun q30 => ?_)
      · replace H := br0 q30 H
        exact J_dr (kX12_style_74 H ) ⟨rfl, ⟨rfl, trivial⟩⟩
      · replace H := br1 q30 H
        refine J_aload_n 0 dX12_style_69 rfl rfl ?_
        refine J_iconst (2 : Int32) dX12_style_70 kc_2 ?_
        obtain ⟨h68, e69, H⟩ := lt_el H
        refine J_pI 11 0 dX12_style_71 g27 flX12_122 rfl rfl e69 ?_
        have c70 := ekI e69
        have c71 := elI e69
        have c72 := epI e69
        exact J_dr (kX12_style_74 H ) ⟨rfl, ⟨rfl, trivial⟩⟩
    · replace H := br1 q26 H
      refine J_aload_n 0 dX12_style_50 rfl rfl ?_
      refine J_iconst (1 : Int32) dX12_style_51 kc_1 ?_
      obtain ⟨g73, H⟩ := gd H
      obtain ⟨h74, e75, H⟩ := lt_el H
      refine J_pI 11 0 dX12_style_52 g73 flX12_122 rfl rfl e75 ?_
      have c76 := ekI e75
      have c77 := elI e75
      have c78 := epI e75
      refine J_goto 74 dX12_style_55 rfl ?_
      exact J_dr (kX12_style_74 H ) ⟨rfl, ⟨rfl, trivial⟩⟩
  · replace H := br0 q17 H
    refine J_iconst (0 : Int32) dX12_style_36 kc_0 ?_
    cases H
    exact J_iretI dX12_style_37 rfl
noncomputable def MX12_style (h : Hp) (v0 : Nat) (v1 : Int32) : Option (Int32 × Hp) :=
  gg (kd h v0 = 11) <|
  Option.bind (MX12_use h v0) fun h3 =>
  gg (kd h3 v0 = 11) <|
  gg (kd h3 (gP h3 v0 1) = 20) <|
  gg (inB (0 : Int32) (ln h3 (gP h3 v0 1)) = true) <|
  Option.bind (MX12_isIn h3 v1 (gI h3 (gP h3 v0 1) (0 : Int32).toNatClampNeg) (600 : Int32)) fun t8 =>
  if t8 = 0 then
    MX12_style_26 h3 v0 v1 v0 (1 : Int32)
  else
    MX12_style_26 h3 v0 v1 v0 (0 : Int32)
set_option maxRecDepth 100000 in
set_option maxHeartbeats 8000000 in
theorem eX12_style {d : Nat} {h : Hp} {v0 : Nat} {v1 : Int32} {r : Int32} {h9 : Hp} (H : MX12_style h v0 v1 = some (r, h9)) : J (d + 39) YX12_style 0 [.ref v0, .int v1, Value.null, Value.null] [] h (oI r) h9 := by
  unfold MX12_style at H
  refine J_aload_n 0 dX12_style_0 rfl rfl ?_
  obtain ⟨g2, H⟩ := gd H
  obtain ⟨h3, e1, H⟩ := bd H
  refine J_cV (as := []) 11 YX12_use 0 dX12_style_1 moX12_use mvX12_use mlX12_154 g2 rfl (okX12_use (d := d + 38) e1) rfl rfl [] rfl rfl (st2 := []) rfl ?_
  refine J_aload_n 0 dX12_style_4 rfl rfl ?_
  refine J_iload_n 1 dX12_style_5 rfl rfl ?_
  refine J_aload_n 0 dX12_style_6 rfl rfl ?_
  obtain ⟨g4, H⟩ := gd H
  refine J_gP 11 1 dX12_style_7 g4 flX12_8 rfl rfl ?_
  refine J_iconst (0 : Int32) dX12_style_10 kc_0 ?_
  obtain ⟨g5, H⟩ := gd H
  obtain ⟨g6, H⟩ := gd H
  refine J_iald dX12_style_11 g5 (inB_ok g6) ?_
  refine J_sipush (600 : Int32) dX12_style_12 ks_600 ?_
  obtain ⟨t8, e7, H⟩ := bd H
  refine J_cS (as := [.int v1, .int (gI h3 (gP h3 v0 1) (0 : Int32).toNatClampNeg), .int (600 : Int32)]) YX12_isIn 3 dX12_style_15 moX12_isIn msX12_isIn mlX12_157 (okX12_isIn (d := d + 38) e7) rfl rfl [.ref v0] rfl rfl (st2 := [.int t8, .ref v0]) rfl ?_
  refine J_if_ne 25 dX12_style_18 rfl (fun q9 => ?_) (fun q9 => ?_)
  · replace H := br0 q9 H
    refine J_iconst (0 : Int32) dX12_style_25 kc_0 ?_
    exact J_dr (kX12_style_26 H ) ⟨rfl, ⟨rfl, trivial⟩⟩
  · replace H := br1 q9 H
    refine J_iconst (1 : Int32) dX12_style_21 kc_1 ?_
    refine J_goto 26 dX12_style_22 rfl ?_
    exact J_dr (kX12_style_26 H ) ⟨rfl, ⟨rfl, trivial⟩⟩
theorem okX12_style {d : Nat} {h : Hp} {v0 : Nat} {v1 : Int32} {r : Int32} {h9 : Hp} (H : MX12_style h v0 v1 = some (r, h9)) : CT (d + 39) YX12_style [.ref v0, .int v1] h (oI r) h9 := CT_of (by decide +kernel) (Nat.le_of_ble_eq_true rfl) (eX12_style H)
noncomputable def MX12_tear_15 (h : Hp) (v0 : Nat) (v1 : Int32) (v2 : Int32) (v3 : Int32) (s0 : Nat) (s1 : Int32) : Option (Int32 × Hp) :=
  gg (kd h s0 = 11) <|
  lt (sI h s0 0 s1) fun h6 =>
  gg (kd h v0 = 11) <|
  if (gI h6 v0 0) ≤ 0 then
    gg (kd h (gP h v0 1) = 20) <|
    gg (inB ((((337180 : Int32) + ((5 : Int32) * v1)) + (1 : Int32)) + v2) (ln h (gP h v0 1)) = true) <|
    lt (sI h6 (gP h v0 1) ((((337180 : Int32) + ((5 : Int32) * v1)) + (1 : Int32)) + v2).toNatClampNeg ((gI h6 (gP h v0 1) ((((337180 : Int32) + ((5 : Int32) * v1)) + (1 : Int32)) + v2).toNatClampNeg) ^^^ v3)) fun h15 =>
    some ((gI h15 (gP h v0 1) ((((337180 : Int32) + ((5 : Int32) * v1)) + (1 : Int32)) + v2).toNatClampNeg), h15)
  else
    some ((0 : Int32), h6)
set_option maxRecDepth 100000 in
set_option maxHeartbeats 8000000 in
theorem kX12_tear_15 {d : Nat} {h : Hp} {v0 : Nat} {v1 : Int32} {v2 : Int32} {v3 : Int32} {s0 : Nat} {s1 : Int32} {r : Int32} {h9 : Hp} (H : MX12_tear_15 h v0 v1 v2 v3 s0 s1 = some (r, h9)) : J (d + 2) YX12_tear 15 [.ref v0, .int v1, .int v2, .int v3, Value.null] [.int s1, .ref s0] h (oI r) h9 := by
  unfold MX12_tear_15 at H
  obtain ⟨g5, H⟩ := gd H
  obtain ⟨h6, e7, H⟩ := lt_el H
  refine J_pI 11 0 dX12_tear_15 g5 flX12_122 rfl rfl e7 ?_
  have c8 := ekI e7
  have c9 := elI e7
  have c10 := epI e7
  refine J_aload_n 0 dX12_tear_18 rfl rfl ?_
  obtain ⟨g11, H⟩ := gd H
  refine J_getI 11 0 dX12_tear_19 (kq c8 g11) flX12_122 rfl ?_
  refine J_if_le 27 dX12_tear_22 rfl (fun q12 => ?_) (fun q12 => ?_)
  · replace H := br1 q12 H
    refine J_ldcw (337180 : Int32) coX12_390 dX12_tear_27 ?_
    refine J_iconst (5 : Int32) dX12_tear_30 kc_5 ?_
    refine J_iload_n 1 dX12_tear_31 rfl rfl ?_
    refine J_imul dX12_tear_32 ?_
    refine J_iadd dX12_tear_33 ?_
    refine J_iconst (1 : Int32) dX12_tear_34 kc_1 ?_
    refine J_iadd dX12_tear_35 ?_
    refine J_iload_n 2 dX12_tear_36 rfl rfl ?_
    refine J_iadd dX12_tear_37 ?_
    refine J_istore dX12_tear_38 (by decide) (ls' := [.ref v0, .int v1, .int v2, .int v3, .int ((((337180 : Int32) + ((5 : Int32) * v1)) + (1 : Int32)) + v2)]) rfl ?_
    refine J_aload_n 0 dX12_tear_40 rfl rfl ?_
    refine J_gP 11 1 dX12_tear_41 (kq c8 g11) flX12_8 rfl (congrFun (congrFun c10 v0) 1) ?_
    refine J_iload dX12_tear_44 rfl ?_
    refine J_aload_n 0 dX12_tear_46 rfl rfl ?_
    refine J_gP 11 1 dX12_tear_47 (kq c8 g11) flX12_8 rfl (congrFun (congrFun c10 v0) 1) ?_
    refine J_iload dX12_tear_50 rfl ?_
    obtain ⟨g13, H⟩ := gd H
    obtain ⟨g14, H⟩ := gd H
    refine J_iald dX12_tear_52 (kq c8 g13) (lq c9 g14) ?_
    refine J_iload_n 3 dX12_tear_53 rfl rfl ?_
    refine J_ixor dX12_tear_54 ?_
    obtain ⟨h15, e16, H⟩ := lt_el H
    refine J_sI dX12_tear_55 (kq c8 g13) (lq c9 g14) e16 ?_
    have c17 := (ekI e16).trans c8
    have c18 := (elI e16).trans c9
    have c19 := (epI e16).trans c10
    refine J_aload_n 0 dX12_tear_56 rfl rfl ?_
    refine J_gP 11 1 dX12_tear_57 (kq c17 g11) flX12_8 rfl (congrFun (congrFun c19 v0) 1) ?_
    refine J_iload dX12_tear_60 rfl ?_
    refine J_iald dX12_tear_62 (kq c17 g13) (lq c18 g14) ?_
    cases H
    exact J_iretI dX12_tear_63 rfl
  · replace H := br0 q12 H
    refine J_iconst (0 : Int32) dX12_tear_25 kc_0 ?_
    cases H
    exact J_iretI dX12_tear_26 rfl
noncomputable def MX12_tear (h : Hp) (v0 : Nat) (v1 : Int32) (v2 : Int32) (v3 : Int32) : Option (Int32 × Hp) :=
  gg (kd h v0 = 11) <|
  Option.bind (MX12_isRow h v0 v1 v2) fun t3 =>
  if t3 = 0 then
    MX12_tear_15 h v0 v1 v2 v3 v0 (1 : Int32)
  else
    MX12_tear_15 h v0 v1 v2 v3 v0 (0 : Int32)
set_option maxRecDepth 100000 in
set_option maxHeartbeats 8000000 in
theorem eX12_tear {d : Nat} {h : Hp} {v0 : Nat} {v1 : Int32} {v2 : Int32} {v3 : Int32} {r : Int32} {h9 : Hp} (H : MX12_tear h v0 v1 v2 v3 = some (r, h9)) : J (d + 2) YX12_tear 0 [.ref v0, .int v1, .int v2, .int v3, Value.null] [] h (oI r) h9 := by
  unfold MX12_tear at H
  refine J_aload_n 0 dX12_tear_0 rfl rfl ?_
  refine J_aload_n 0 dX12_tear_1 rfl rfl ?_
  refine J_iload_n 1 dX12_tear_2 rfl rfl ?_
  refine J_iload_n 2 dX12_tear_3 rfl rfl ?_
  obtain ⟨g2, H⟩ := gd H
  obtain ⟨t3, e1, H⟩ := bd H
  refine J_cV (as := [.int v1, .int v2]) 11 YX12_isRow 2 dX12_tear_4 moX12_isRow mvX12_isRow mlX12_481 g2 rfl (okX12_isRow (d := d) e1) rfl rfl [.ref v0] rfl rfl (st2 := [.int t3, .ref v0]) rfl ?_
  refine J_if_ne 14 dX12_tear_7 rfl (fun q4 => ?_) (fun q4 => ?_)
  · replace H := br0 q4 H
    refine J_iconst (0 : Int32) dX12_tear_14 kc_0 ?_
    exact J_dr (kX12_tear_15 H ) ⟨rfl, ⟨rfl, ⟨rfl, ⟨rfl, trivial⟩⟩⟩⟩
  · replace H := br1 q4 H
    refine J_iconst (1 : Int32) dX12_tear_10 kc_1 ?_
    refine J_goto 15 dX12_tear_11 rfl ?_
    exact J_dr (kX12_tear_15 H ) ⟨rfl, ⟨rfl, ⟨rfl, ⟨rfl, trivial⟩⟩⟩⟩
theorem okX12_tear {d : Nat} {h : Hp} {v0 : Nat} {v1 : Int32} {v2 : Int32} {v3 : Int32} {r : Int32} {h9 : Hp} (H : MX12_tear h v0 v1 v2 v3 = some (r, h9)) : CT (d + 2) YX12_tear [.ref v0, .int v1, .int v2, .int v3] h (oI r) h9 := CT_of (by decide +kernel) (Nat.le_of_ble_eq_true rfl) (eX12_tear H)
noncomputable def MX12_thrown (h : Hp) (v0 : Nat) : Option Int32 :=
  gg (kd h v0 = 11) <|
  some (gI h v0 0)
set_option maxRecDepth 100000 in
set_option maxHeartbeats 8000000 in
theorem eX12_thrown {d : Nat} {h : Hp} {v0 : Nat} {r : Int32} (H : MX12_thrown h v0 = some r) : J (d) YX12_thrown 0 [.ref v0] [] h (oI r) h := by
  unfold MX12_thrown at H
  refine J_aload_n 0 dX12_thrown_0 rfl rfl ?_
  obtain ⟨g1, H⟩ := gd H
  refine J_getI 11 0 dX12_thrown_1 g1 flX12_122 rfl ?_
  cases H
  exact J_iretI dX12_thrown_4 rfl
theorem okX12_thrown {d : Nat} {h : Hp} {v0 : Nat} {r : Int32} (H : MX12_thrown h v0 = some r) : CT (d) YX12_thrown [.ref v0] h (oI r) h := CT_of (by decide +kernel) (Nat.le_of_ble_eq_true rfl) (eX12_thrown H)
noncomputable def MX12_where_173 (h : Hp) (v4 : Int32) : Option (Int32 × Hp) :=
  if 0 ≤ v4 then
    some (v4, h)
  else
    some ((-1 : Int32), h)
set_option maxRecDepth 100000 in
set_option maxHeartbeats 8000000 in
theorem kX12_where_173 {d : Nat} {h : Hp} {v4 : Int32} {r : Int32} {h9 : Hp} (H : MX12_where_173 h v4 = some (r, h9)) : J (d + 1) YX12_where 173 [Value.null, Value.null, Value.null, Value.null, .int v4, Value.null, Value.null, Value.null] [] h (oI r) h9 := by
  unfold MX12_where_173 at H
  refine J_iload dX12_where_173 rfl ?_
  refine J_if_ge 182 dX12_where_175 rfl (fun q17 => ?_) (fun q17 => ?_)
  · replace H := br1 q17 H
    refine J_iload dX12_where_182 rfl ?_
    cases H
    exact J_iretI dX12_where_184 rfl
  · replace H := br0 q17 H
    refine J_iconst (-1 : Int32) dX12_where_178 kc_m1 ?_
    refine J_goto 184 dX12_where_179 rfl ?_
    cases H
    exact J_iretI dX12_where_184 rfl
noncomputable def MX12_where_156 (h : Hp) (v0 : Nat) (v1 : Int32) (v2 : Int32) (v3 : Int32) (v4 : Int32) (v6 : Int32) (v7 : Int32) : Option ((Int32 × Int32 × Int32) ⊕ (Int32 × Hp)) :=
  gg (kd h v0 = 11) <|
  gg (kd h (gP h v0 1) = 20) <|
  gg (inB (v7 + (2 : Int32)) (ln h (gP h v0 1)) = true) <|
  some (.inl (v4, (gI h (gP h v0 1) (v7 + (2 : Int32)).toNatClampNeg), (v6 + (1 : Int32))))
set_option maxRecDepth 100000 in
set_option maxHeartbeats 8000000 in
theorem kX12_where_156 {d : Nat} {h : Hp} {v0 : Nat} {v1 : Int32} {v2 : Int32} {v3 : Int32} {v4 : Int32} {v6 : Int32} {v7 : Int32} {r : Int32} {h9 : Hp} {x : ((Int32 × Int32 × Int32) ⊕ (Int32 × Hp))} (H : MX12_where_156 h v0 v1 v2 v3 v4 v6 v7 = some x) (hb0 : ∀ s : Int32 × Int32 × Int32, x = .inl s → J (d + 1) YX12_where 35 [.ref v0, .int v1, .int v2, .int v3, .int s.1, .int s.2.1, .int s.2.2, Value.null] [] h (oI r) h9) (hx : ∀ z : (Int32 × Hp), x = .inr (z) → z = (r, h9)) : J (d + 1) YX12_where 156 [.ref v0, .int v1, .int v2, .int v3, .int v4, Value.null, .int v6, .int v7] [] h (oI r) h9 := by
  unfold MX12_where_156 at H
  refine J_aload_n 0 dX12_where_156 rfl rfl ?_
  obtain ⟨g28, H⟩ := gd H
  refine J_gP 11 1 dX12_where_157 g28 flX12_8 rfl rfl ?_
  refine J_iload dX12_where_160 rfl ?_
  refine J_iconst (2 : Int32) dX12_where_162 kc_2 ?_
  refine J_iadd dX12_where_163 ?_
  obtain ⟨g29, H⟩ := gd H
  obtain ⟨g30, H⟩ := gd H
  refine J_iald dX12_where_164 g29 (inB_ok g30) ?_
  refine J_istore dX12_where_165 (by decide) (ls' := [.ref v0, .int v1, .int v2, .int v3, .int v4, .int (gI h (gP h v0 1) (v7 + (2 : Int32)).toNatClampNeg), .int v6, .int v7]) rfl ?_
  refine J_iinc (v6 + (1 : Int32)) dX12_where_167 rfl (congrArg (HAdd.hAdd v6) kc_1) (by decide) (ls' := [.ref v0, .int v1, .int v2, .int v3, .int v4, .int (gI h (gP h v0 1) (v7 + (2 : Int32)).toNatClampNeg), .int (v6 + (1 : Int32)), .int v7]) rfl ?_
  refine J_goto 35 dX12_where_170 rfl ?_
  cases H
  exact J_dr (hb0 _ rfl) ⟨rfl, ⟨rfl, ⟨rfl, ⟨rfl, ⟨rfl, ⟨rfl, ⟨rfl, trivial⟩⟩⟩⟩⟩⟩⟩
noncomputable def BX12_where_35 (h : Hp) (v0 : Nat) (v1 : Int32) (v2 : Int32) (v3 : Int32) (v4 : Int32) (v5 : Int32) (v6 : Int32) : Option ((Int32 × Int32 × Int32) ⊕ (Int32 × Hp)) :=
  gg (kd h v0 = 11) <|
  gg (kd h (gP h v0 1) = 20) <|
  gg (inB (5 : Int32) (ln h (gP h v0 1)) = true) <|
  if (gI h (gP h v0 1) (5 : Int32).toNatClampNeg) ≤ v6 then
    up1 (MX12_where_173 h v4)
  else
    gg (inB ((326582 : Int32) + ((4 : Int32) * v6)) (ln h (gP h v0 1)) = true) <|
    if (gI h (gP h v0 1) ((326582 : Int32) + ((4 : Int32) * v6)).toNatClampNeg) = v1 then
      gg (inB (((326582 : Int32) + ((4 : Int32) * v6)) + (3 : Int32)) (ln h (gP h v0 1)) = true) <|
      if v3 < (gI h (gP h v0 1) (((326582 : Int32) + ((4 : Int32) * v6)) + (3 : Int32)).toNatClampNeg) then
        some (.inl (v4, v5, (v6 + (1 : Int32))))
      else
        gg (inB (((326582 : Int32) + ((4 : Int32) * v6)) + (2 : Int32)) (ln h (gP h v0 1)) = true) <|
        if v2 < (gI h (gP h v0 1) (((326582 : Int32) + ((4 : Int32) * v6)) + (2 : Int32)).toNatClampNeg) then
          some (.inl (v4, v5, (v6 + (1 : Int32))))
        else
          if v5 ≤ (gI h (gP h v0 1) (((326582 : Int32) + ((4 : Int32) * v6)) + (2 : Int32)).toNatClampNeg) then
            if (gI h (gP h v0 1) (((326582 : Int32) + ((4 : Int32) * v6)) + (2 : Int32)).toNatClampNeg) ≤ v5 then
              gg (inB (((326582 : Int32) + ((4 : Int32) * v6)) + (1 : Int32)) (ln h (gP h v0 1)) = true) <|
              if v4 = (gI h (gP h v0 1) (((326582 : Int32) + ((4 : Int32) * v6)) + (1 : Int32)).toNatClampNeg) then
                MX12_where_156 h v0 v1 v2 v3 v4 v6 ((326582 : Int32) + ((4 : Int32) * v6))
              else
                MX12_where_156 h v0 v1 v2 v3 (-2 : Int32) v6 ((326582 : Int32) + ((4 : Int32) * v6))
            else
              gg (inB (((326582 : Int32) + ((4 : Int32) * v6)) + (1 : Int32)) (ln h (gP h v0 1)) = true) <|
              lt (gI h (gP h v0 1) (((326582 : Int32) + ((4 : Int32) * v6)) + (1 : Int32)).toNatClampNeg) fun w32 =>
              MX12_where_156 h v0 v1 v2 v3 w32 v6 ((326582 : Int32) + ((4 : Int32) * v6))
          else
            some (.inl (v4, v5, (v6 + (1 : Int32))))
    else
      some (.inl (v4, v5, (v6 + (1 : Int32))))
set_option maxRecDepth 100000 in
set_option maxHeartbeats 8000000 in
theorem bX12_where_35 {d : Nat} {h : Hp} {v0 : Nat} {v1 : Int32} {v2 : Int32} {v3 : Int32} {v4 : Int32} {v5 : Int32} {v6 : Int32} {r : Int32} {h9 : Hp} {x : ((Int32 × Int32 × Int32) ⊕ (Int32 × Hp))} (H : BX12_where_35 h v0 v1 v2 v3 v4 v5 v6 = some x) (hb0 : ∀ s : Int32 × Int32 × Int32, x = .inl s → J (d + 1) YX12_where 35 [.ref v0, .int v1, .int v2, .int v3, .int s.1, .int s.2.1, .int s.2.2, Value.null] [] h (oI r) h9) (hx : ∀ z : (Int32 × Hp), x = .inr (z) → z = (r, h9)) : J (d + 1) YX12_where 35 [.ref v0, .int v1, .int v2, .int v3, .int v4, .int v5, .int v6, Value.null] [] h (oI r) h9 := by
  unfold BX12_where_35 at H
  refine J_iload dX12_where_35 rfl ?_
  refine J_aload_n 0 dX12_where_37 rfl rfl ?_
  obtain ⟨g13, H⟩ := gd H
  refine J_gP 11 1 dX12_where_38 g13 flX12_8 rfl rfl ?_
  refine J_iconst (5 : Int32) dX12_where_41 kc_5 ?_
  obtain ⟨g14, H⟩ := gd H
  obtain ⟨g15, H⟩ := gd H
  refine J_iald dX12_where_42 g14 (inB_ok g15) ?_
  refine J_icmp_ge 173 dX12_where_43 rfl (fun q16 => ?_) (fun q16 => ?_)
  · replace H := br1 q16 H
    obtain ⟨y, H9, rfl⟩ := up1_el H
    replace H := H9
    obtain rfl := hx _ rfl
    exact J_dr (kX12_where_173 H ) ⟨rfl, trivial⟩
  · replace H := br0 q16 H
    refine J_ldcw (326582 : Int32) coX12_417 dX12_where_46 ?_
    refine J_iconst (4 : Int32) dX12_where_49 kc_4 ?_
    refine J_iload dX12_where_50 rfl ?_
    refine J_imul dX12_where_52 ?_
    refine J_iadd dX12_where_53 ?_
    refine J_istore dX12_where_54 (by decide) (ls' := [.ref v0, .int v1, .int v2, .int v3, .int v4, .int v5, .int v6, .int ((326582 : Int32) + ((4 : Int32) * v6))]) rfl ?_
    refine J_aload_n 0 dX12_where_56 rfl rfl ?_
    refine J_gP 11 1 dX12_where_57 g13 flX12_8 rfl rfl ?_
    refine J_iload dX12_where_60 rfl ?_
    obtain ⟨g18, H⟩ := gd H
    refine J_iald dX12_where_62 g14 (inB_ok g18) ?_
    refine J_iload_n 1 dX12_where_63 rfl rfl ?_
    refine J_icmp_ne 167 dX12_where_64 rfl (fun q19 => ?_) (fun q19 => ?_)
    · replace H := br0 q19 H
      refine J_iinc (v6 + (1 : Int32)) dX12_where_167 rfl (congrArg (HAdd.hAdd v6) kc_1) (by decide) (ls' := [.ref v0, .int v1, .int v2, .int v3, .int v4, .int v5, .int (v6 + (1 : Int32)), .int ((326582 : Int32) + ((4 : Int32) * v6))]) rfl ?_
      refine J_goto 35 dX12_where_170 rfl ?_
      cases H
      exact J_dr (hb0 _ rfl) ⟨rfl, ⟨rfl, ⟨rfl, ⟨rfl, ⟨rfl, ⟨rfl, ⟨rfl, trivial⟩⟩⟩⟩⟩⟩⟩
    · replace H := br1 q19 H
      refine J_aload_n 0 dX12_where_67 rfl rfl ?_
      refine J_gP 11 1 dX12_where_68 g13 flX12_8 rfl rfl ?_
      refine J_iload dX12_where_71 rfl ?_
      refine J_iconst (3 : Int32) dX12_where_73 kc_3 ?_
      refine J_iadd dX12_where_74 ?_
      obtain ⟨g20, H⟩ := gd H
      refine J_iald dX12_where_75 g14 (inB_ok g20) ?_
      refine J_iload_n 3 dX12_where_76 rfl rfl ?_
      refine J_icmp_gt 167 dX12_where_77 rfl (fun q21 => ?_) (fun q21 => ?_)
      · replace H := br1 q21 H
        refine J_iinc (v6 + (1 : Int32)) dX12_where_167 rfl (congrArg (HAdd.hAdd v6) kc_1) (by decide) (ls' := [.ref v0, .int v1, .int v2, .int v3, .int v4, .int v5, .int (v6 + (1 : Int32)), .int ((326582 : Int32) + ((4 : Int32) * v6))]) rfl ?_
        refine J_goto 35 dX12_where_170 rfl ?_
        cases H
        exact J_dr (hb0 _ rfl) ⟨rfl, ⟨rfl, ⟨rfl, ⟨rfl, ⟨rfl, ⟨rfl, ⟨rfl, trivial⟩⟩⟩⟩⟩⟩⟩
      · replace H := br0 q21 H
        refine J_aload_n 0 dX12_where_80 rfl rfl ?_
        refine J_gP 11 1 dX12_where_81 g13 flX12_8 rfl rfl ?_
        refine J_iload dX12_where_84 rfl ?_
        refine J_iconst (2 : Int32) dX12_where_86 kc_2 ?_
        refine J_iadd dX12_where_87 ?_
        obtain ⟨g22, H⟩ := gd H
        refine J_iald dX12_where_88 g14 (inB_ok g22) ?_
        refine J_iload_n 2 dX12_where_89 rfl rfl ?_
        refine J_icmp_gt 167 dX12_where_90 rfl (fun q23 => ?_) (fun q23 => ?_)
        · replace H := br1 q23 H
          refine J_iinc (v6 + (1 : Int32)) dX12_where_167 rfl (congrArg (HAdd.hAdd v6) kc_1) (by decide) (ls' := [.ref v0, .int v1, .int v2, .int v3, .int v4, .int v5, .int (v6 + (1 : Int32)), .int ((326582 : Int32) + ((4 : Int32) * v6))]) rfl ?_
          refine J_goto 35 dX12_where_170 rfl ?_
          cases H
          exact J_dr (hb0 _ rfl) ⟨rfl, ⟨rfl, ⟨rfl, ⟨rfl, ⟨rfl, ⟨rfl, ⟨rfl, trivial⟩⟩⟩⟩⟩⟩⟩
        · replace H := br0 q23 H
          refine J_aload_n 0 dX12_where_93 rfl rfl ?_
          refine J_gP 11 1 dX12_where_94 g13 flX12_8 rfl rfl ?_
          refine J_iload dX12_where_97 rfl ?_
          refine J_iconst (2 : Int32) dX12_where_99 kc_2 ?_
          refine J_iadd dX12_where_100 ?_
          refine J_iald dX12_where_101 g14 (inB_ok g22) ?_
          refine J_iload dX12_where_102 rfl ?_
          refine J_icmp_ge 110 dX12_where_104 rfl (fun q24 => ?_) (fun q24 => ?_)
          · replace H := br1 q24 H
            refine J_aload_n 0 dX12_where_110 rfl rfl ?_
            refine J_gP 11 1 dX12_where_111 g13 flX12_8 rfl rfl ?_
            refine J_iload dX12_where_114 rfl ?_
            refine J_iconst (2 : Int32) dX12_where_116 kc_2 ?_
            refine J_iadd dX12_where_117 ?_
            refine J_iald dX12_where_118 g14 (inB_ok g22) ?_
            refine J_iload dX12_where_119 rfl ?_
            refine J_icmp_le 138 dX12_where_121 rfl (fun q25 => ?_) (fun q25 => ?_)
            · replace H := br1 q25 H
              refine J_iload dX12_where_138 rfl ?_
              refine J_aload_n 0 dX12_where_140 rfl rfl ?_
              refine J_gP 11 1 dX12_where_141 g13 flX12_8 rfl rfl ?_
              refine J_iload dX12_where_144 rfl ?_
              refine J_iconst (1 : Int32) dX12_where_146 kc_1 ?_
              refine J_iadd dX12_where_147 ?_
              obtain ⟨g26, H⟩ := gd H
              refine J_iald dX12_where_148 g14 (inB_ok g26) ?_
              refine J_icmp_eq 156 dX12_where_149 rfl (fun q27 => ?_) (fun q27 => ?_)
              · replace H := br1 q27 H
                exact J_dr (kX12_where_156 H hb0 hx) ⟨rfl, ⟨rfl, ⟨rfl, ⟨rfl, ⟨rfl, ⟨rfl, ⟨rfl, trivial⟩⟩⟩⟩⟩⟩⟩
              · replace H := br0 q27 H
                refine J_bipush (-2 : Int32) dX12_where_152 kb_m2 ?_
                refine J_istore dX12_where_154 (by decide) (ls' := [.ref v0, .int v1, .int v2, .int v3, .int (-2 : Int32), .int v5, .int v6, .int ((326582 : Int32) + ((4 : Int32) * v6))]) rfl ?_
                exact J_dr (kX12_where_156 H hb0 hx) ⟨rfl, ⟨rfl, ⟨rfl, ⟨rfl, ⟨rfl, ⟨rfl, ⟨rfl, trivial⟩⟩⟩⟩⟩⟩⟩
            · replace H := br0 q25 H
              refine J_aload_n 0 dX12_where_124 rfl rfl ?_
              refine J_gP 11 1 dX12_where_125 g13 flX12_8 rfl rfl ?_
              refine J_iload dX12_where_128 rfl ?_
              refine J_iconst (1 : Int32) dX12_where_130 kc_1 ?_
              refine J_iadd dX12_where_131 ?_
              obtain ⟨g31, H⟩ := gd H
              refine J_iald dX12_where_132 g14 (inB_ok g31) ?_
              obtain ⟨w32, e33, H⟩ := lt_el H
              refine J_nmI e33 ?_
              refine J_istore dX12_where_133 (by decide) (ls' := [.ref v0, .int v1, .int v2, .int v3, .int w32, .int v5, .int v6, .int ((326582 : Int32) + ((4 : Int32) * v6))]) rfl ?_
              refine J_goto 156 dX12_where_135 rfl ?_
              exact J_dr (kX12_where_156 H hb0 hx) ⟨rfl, ⟨rfl, ⟨rfl, ⟨rfl, ⟨rfl, ⟨rfl, ⟨rfl, trivial⟩⟩⟩⟩⟩⟩⟩
          · replace H := br0 q24 H
            refine J_goto 167 dX12_where_107 rfl ?_
            refine J_iinc (v6 + (1 : Int32)) dX12_where_167 rfl (congrArg (HAdd.hAdd v6) kc_1) (by decide) (ls' := [.ref v0, .int v1, .int v2, .int v3, .int v4, .int v5, .int (v6 + (1 : Int32)), .int ((326582 : Int32) + ((4 : Int32) * v6))]) rfl ?_
            refine J_goto 35 dX12_where_170 rfl ?_
            cases H
            exact J_dr (hb0 _ rfl) ⟨rfl, ⟨rfl, ⟨rfl, ⟨rfl, ⟨rfl, ⟨rfl, ⟨rfl, trivial⟩⟩⟩⟩⟩⟩⟩
noncomputable def MX12_where_35 (h : Hp) (v0 : Nat) (v1 : Int32) (v2 : Int32) (v3 : Int32) (v4 : Int32) (v5 : Int32) (v6 : Int32) : Option (Int32 × Hp) := it (fun q : Int32 × Int32 × Int32 => BX12_where_35 h v0 v1 v2 v3 q.1 q.2.1 q.2.2) (v4, v5, v6)
set_option maxRecDepth 100000 in
set_option maxHeartbeats 8000000 in
theorem kX12_where_35 {d : Nat} {h : Hp} {v0 : Nat} {v1 : Int32} {v2 : Int32} {v3 : Int32} {v4 : Int32} {v5 : Int32} {v6 : Int32} {r : Int32} {h9 : Hp} (H : MX12_where_35 h v0 v1 v2 v3 v4 v5 v6 = some (r, h9)) : J (d + 1) YX12_where 35 [.ref v0, .int v1, .int v2, .int v3, .int v4, .int v5, .int v6, Value.null] [] h (oI r) h9 := by
  unfold MX12_where_35 at H
  refine it_J (G := (fun q : Int32 × Int32 × Int32 => J (d + 1) YX12_where 35 [.ref v0, .int v1, .int v2, .int v3, .int q.1, .int q.2.1, .int q.2.2, Value.null] [] h (oI r) h9)) (Q := (fun y : (Int32 × Hp) => y = (r, h9))) (fun q x Hq hm => ?_) H rfl
  exact bX12_where_35 Hq (fun s hs => by subst hs; exact hm) (fun z hz => by subst hz; exact hm)
noncomputable def MX12_where_14 (h : Hp) (v0 : Nat) (v1 : Int32) (v2 : Int32) (v3 : Int32) (s0 : Nat) (s1 : Int32) : Option (Int32 × Hp) :=
  gg (kd h s0 = 11) <|
  lt (sI h s0 0 s1) fun h6 =>
  gg (kd h v0 = 11) <|
  if (gI h6 v0 0) ≤ 0 then
    MX12_where_35 h6 v0 v1 v2 v3 (-1 : Int32) (-1 : Int32) (0 : Int32)
  else
    some ((0 : Int32), h6)
set_option maxRecDepth 100000 in
set_option maxHeartbeats 8000000 in
theorem kX12_where_14 {d : Nat} {h : Hp} {v0 : Nat} {v1 : Int32} {v2 : Int32} {v3 : Int32} {s0 : Nat} {s1 : Int32} {r : Int32} {h9 : Hp} (H : MX12_where_14 h v0 v1 v2 v3 s0 s1 = some (r, h9)) : J (d + 1) YX12_where 14 [.ref v0, .int v1, .int v2, .int v3, Value.null, Value.null, Value.null, Value.null] [.int s1, .ref s0] h (oI r) h9 := by
  unfold MX12_where_14 at H
  obtain ⟨g5, H⟩ := gd H
  obtain ⟨h6, e7, H⟩ := lt_el H
  refine J_pI 11 0 dX12_where_14 g5 flX12_122 rfl rfl e7 ?_
  have c8 := ekI e7
  have c9 := elI e7
  have c10 := epI e7
  refine J_aload_n 0 dX12_where_17 rfl rfl ?_
  obtain ⟨g11, H⟩ := gd H
  refine J_getI 11 0 dX12_where_18 (kq c8 g11) flX12_122 rfl ?_
  refine J_if_le 26 dX12_where_21 rfl (fun q12 => ?_) (fun q12 => ?_)
  · replace H := br1 q12 H
    refine J_iconst (-1 : Int32) dX12_where_26 kc_m1 ?_
    refine J_istore dX12_where_27 (by decide) (ls' := [.ref v0, .int v1, .int v2, .int v3, .int (-1 : Int32), Value.null, Value.null, Value.null]) rfl ?_
    refine J_iconst (-1 : Int32) dX12_where_29 kc_m1 ?_
    refine J_istore dX12_where_30 (by decide) (ls' := [.ref v0, .int v1, .int v2, .int v3, .int (-1 : Int32), .int (-1 : Int32), Value.null, Value.null]) rfl ?_
    refine J_iconst (0 : Int32) dX12_where_32 kc_0 ?_
    refine J_istore dX12_where_33 (by decide) (ls' := [.ref v0, .int v1, .int v2, .int v3, .int (-1 : Int32), .int (-1 : Int32), .int (0 : Int32), Value.null]) rfl ?_
    exact J_dr (kX12_where_35 H ) ⟨rfl, ⟨rfl, ⟨rfl, ⟨rfl, ⟨rfl, ⟨rfl, ⟨rfl, trivial⟩⟩⟩⟩⟩⟩⟩
  · replace H := br0 q12 H
    refine J_iconst (0 : Int32) dX12_where_24 kc_0 ?_
    cases H
    exact J_iretI dX12_where_25 rfl
noncomputable def MX12_where (h : Hp) (v0 : Nat) (v1 : Int32) (v2 : Int32) (v3 : Int32) : Option (Int32 × Hp) :=
  gg (kd h v0 = 11) <|
  Option.bind (MX12_isSlug h v0 v1) fun t3 =>
  if t3 = 0 then
    MX12_where_14 h v0 v1 v2 v3 v0 (1 : Int32)
  else
    MX12_where_14 h v0 v1 v2 v3 v0 (0 : Int32)
set_option maxRecDepth 100000 in
set_option maxHeartbeats 8000000 in
theorem eX12_where {d : Nat} {h : Hp} {v0 : Nat} {v1 : Int32} {v2 : Int32} {v3 : Int32} {r : Int32} {h9 : Hp} (H : MX12_where h v0 v1 v2 v3 = some (r, h9)) : J (d + 1) YX12_where 0 [.ref v0, .int v1, .int v2, .int v3, Value.null, Value.null, Value.null, Value.null] [] h (oI r) h9 := by
  unfold MX12_where at H
  refine J_aload_n 0 dX12_where_0 rfl rfl ?_
  refine J_aload_n 0 dX12_where_1 rfl rfl ?_
  refine J_iload_n 1 dX12_where_2 rfl rfl ?_
  obtain ⟨g2, H⟩ := gd H
  obtain ⟨t3, e1, H⟩ := bd H
  refine J_cV (as := [.int v1]) 11 YX12_isSlug 1 dX12_where_3 moX12_isSlug mvX12_isSlug mlX12_396 g2 rfl (okX12_isSlug (d := d) e1) rfl rfl [.ref v0] rfl rfl (st2 := [.int t3, .ref v0]) rfl ?_
  refine J_if_ne 13 dX12_where_6 rfl (fun q4 => ?_) (fun q4 => ?_)
  · replace H := br0 q4 H
    refine J_iconst (0 : Int32) dX12_where_13 kc_0 ?_
    exact J_dr (kX12_where_14 H ) ⟨rfl, ⟨rfl, ⟨rfl, ⟨rfl, trivial⟩⟩⟩⟩
  · replace H := br1 q4 H
    refine J_iconst (1 : Int32) dX12_where_9 kc_1 ?_
    refine J_goto 14 dX12_where_10 rfl ?_
    exact J_dr (kX12_where_14 H ) ⟨rfl, ⟨rfl, ⟨rfl, ⟨rfl, trivial⟩⟩⟩⟩
theorem okX12_where {d : Nat} {h : Hp} {v0 : Nat} {v1 : Int32} {v2 : Int32} {v3 : Int32} {r : Int32} {h9 : Hp} (H : MX12_where h v0 v1 v2 v3 = some (r, h9)) : CT (d + 1) YX12_where [.ref v0, .int v1, .int v2, .int v3] h (oI r) h9 := CT_of (by decide +kernel) (Nat.le_of_ble_eq_true rfl) (eX12_where H)
noncomputable def MX12_width_39 (h : Hp) (v0 : Nat) (v1 : Int32) (v2 : Int32) (v3 : Int32) (s0 : Nat) (s1 : Int32) : Option Hp :=
  gg (kd h s0 = 11) <|
  lt (sI h s0 0 s1) fun h5 =>
  gg (kd h v0 = 11) <|
  if (gI h5 v0 0) = 0 then
    gg (kd h (gP h v0 1) = 20) <|
    gg (inB (((16 : Int32) + ((27 : Int32) * v1)) + v2) (ln h (gP h v0 1)) = true) <|
    lt (sI h5 (gP h v0 1) (((16 : Int32) + ((27 : Int32) * v1)) + v2).toNatClampNeg v3) fun h14 =>
    some h14
  else
    some h5
set_option maxRecDepth 100000 in
set_option maxHeartbeats 8000000 in
theorem kX12_width_39 {d : Nat} {h : Hp} {v0 : Nat} {v1 : Int32} {v2 : Int32} {v3 : Int32} {s0 : Nat} {s1 : Int32} {h9 : Hp} (H : MX12_width_39 h v0 v1 v2 v3 s0 s1 = some h9) : J (d + 1) YX12_width 39 [.ref v0, .int v1, .int v2, .int v3] [.int s1, .ref s0] h oV h9 := by
  unfold MX12_width_39 at H
  obtain ⟨g4, H⟩ := gd H
  obtain ⟨h5, e6, H⟩ := lt_el H
  refine J_pI 11 0 dX12_width_39 g4 flX12_122 rfl rfl e6 ?_
  have c7 := ekI e6
  have c8 := elI e6
  have c9 := epI e6
  refine J_aload_n 0 dX12_width_42 rfl rfl ?_
  obtain ⟨g10, H⟩ := gd H
  refine J_getI 11 0 dX12_width_43 (kq c7 g10) flX12_122 rfl ?_
  refine J_if_ne 64 dX12_width_46 rfl (fun q11 => ?_) (fun q11 => ?_)
  · replace H := br0 q11 H
    cases H
    exact J_ret dX12_width_64 rfl
  · replace H := br1 q11 H
    refine J_aload_n 0 dX12_width_49 rfl rfl ?_
    refine J_gP 11 1 dX12_width_50 (kq c7 g10) flX12_8 rfl (congrFun (congrFun c9 v0) 1) ?_
    refine J_bipush (16 : Int32) dX12_width_53 kb_16 ?_
    refine J_bipush (27 : Int32) dX12_width_55 kb_27 ?_
    refine J_iload_n 1 dX12_width_57 rfl rfl ?_
    refine J_imul dX12_width_58 ?_
    refine J_iadd dX12_width_59 ?_
    refine J_iload_n 2 dX12_width_60 rfl rfl ?_
    refine J_iadd dX12_width_61 ?_
    refine J_iload_n 3 dX12_width_62 rfl rfl ?_
    obtain ⟨g12, H⟩ := gd H
    obtain ⟨g13, H⟩ := gd H
    obtain ⟨h14, e15, H⟩ := lt_el H
    refine J_sI dX12_width_63 (kq c7 g12) (lq c8 g13) e15 ?_
    have c16 := (ekI e15).trans c7
    have c17 := (elI e15).trans c8
    have c18 := (epI e15).trans c9
    cases H
    exact J_ret dX12_width_64 rfl
noncomputable def MX12_width_20 (h : Hp) (v0 : Nat) (v1 : Int32) (v2 : Int32) (v3 : Int32) (s0 : Nat) : Option Hp :=
  MX12_width_39 h v0 v1 v2 v3 s0 (1 : Int32)
set_option maxRecDepth 100000 in
set_option maxHeartbeats 8000000 in
theorem kX12_width_20 {d : Nat} {h : Hp} {v0 : Nat} {v1 : Int32} {v2 : Int32} {v3 : Int32} {s0 : Nat} {h9 : Hp} (H : MX12_width_20 h v0 v1 v2 v3 s0 = some h9) : J (d + 1) YX12_width 20 [.ref v0, .int v1, .int v2, .int v3] [.ref s0] h oV h9 := by
  unfold MX12_width_20 at H
  refine J_iconst (1 : Int32) dX12_width_20 kc_1 ?_
  refine J_goto 39 dX12_width_21 rfl ?_
  exact J_dr (kX12_width_39 H ) ⟨rfl, ⟨rfl, ⟨rfl, ⟨rfl, trivial⟩⟩⟩⟩
noncomputable def MX12_width (h : Hp) (v0 : Nat) (v1 : Int32) (v2 : Int32) (v3 : Int32) : Option Hp :=
  Option.bind (MX12_isIn h v1 (0 : Int32) (1 : Int32)) fun t2 =>
  if t2 = 0 then
    MX12_width_20 h v0 v1 v2 v3 v0
  else
    Option.bind (MX12_isIn h v2 (0 : Int32) (26 : Int32)) fun t20 =>
    if t20 = 0 then
      MX12_width_20 h v0 v1 v2 v3 v0
    else
      Option.bind (MX12_isIn h v3 (1 : Int32) (20 : Int32)) fun t23 =>
      if t23 = 0 then
        MX12_width_39 h v0 v1 v2 v3 v0 (2 : Int32)
      else
        MX12_width_39 h v0 v1 v2 v3 v0 (0 : Int32)
set_option maxRecDepth 100000 in
set_option maxHeartbeats 8000000 in
theorem eX12_width {d : Nat} {h : Hp} {v0 : Nat} {v1 : Int32} {v2 : Int32} {v3 : Int32} {h9 : Hp} (H : MX12_width h v0 v1 v2 v3 = some h9) : J (d + 1) YX12_width 0 [.ref v0, .int v1, .int v2, .int v3] [] h oV h9 := by
  unfold MX12_width at H
  refine J_aload_n 0 dX12_width_0 rfl rfl ?_
  refine J_iload_n 1 dX12_width_1 rfl rfl ?_
  refine J_iconst (0 : Int32) dX12_width_2 kc_0 ?_
  refine J_iconst (1 : Int32) dX12_width_3 kc_1 ?_
  obtain ⟨t2, e1, H⟩ := bd H
  refine J_cS (as := [.int v1, .int (0 : Int32), .int (1 : Int32)]) YX12_isIn 3 dX12_width_4 moX12_isIn msX12_isIn mlX12_157 (okX12_isIn (d := d) e1) rfl rfl [.ref v0] rfl rfl (st2 := [.int t2, .ref v0]) rfl ?_
  refine J_if_eq 20 dX12_width_7 rfl (fun q3 => ?_) (fun q3 => ?_)
  · replace H := br1 q3 H
    exact J_dr (kX12_width_20 H ) ⟨rfl, ⟨rfl, ⟨rfl, ⟨rfl, trivial⟩⟩⟩⟩
  · replace H := br0 q3 H
    refine J_iload_n 2 dX12_width_10 rfl rfl ?_
    refine J_iconst (0 : Int32) dX12_width_11 kc_0 ?_
    refine J_bipush (26 : Int32) dX12_width_12 kb_26 ?_
    obtain ⟨t20, e19, H⟩ := bd H
    refine J_cS (as := [.int v2, .int (0 : Int32), .int (26 : Int32)]) YX12_isIn 3 dX12_width_14 moX12_isIn msX12_isIn mlX12_157 (okX12_isIn (d := d) e19) rfl rfl [.ref v0] rfl rfl (st2 := [.int t20, .ref v0]) rfl ?_
    refine J_if_ne 24 dX12_width_17 rfl (fun q21 => ?_) (fun q21 => ?_)
    · replace H := br0 q21 H
      refine J_iload_n 3 dX12_width_24 rfl rfl ?_
      refine J_iconst (1 : Int32) dX12_width_25 kc_1 ?_
      refine J_bipush (20 : Int32) dX12_width_26 kb_20 ?_
      obtain ⟨t23, e22, H⟩ := bd H
      refine J_cS (as := [.int v3, .int (1 : Int32), .int (20 : Int32)]) YX12_isIn 3 dX12_width_28 moX12_isIn msX12_isIn mlX12_157 (okX12_isIn (d := d) e22) rfl rfl [.ref v0] rfl rfl (st2 := [.int t23, .ref v0]) rfl ?_
      refine J_if_ne 38 dX12_width_31 rfl (fun q24 => ?_) (fun q24 => ?_)
      · replace H := br0 q24 H
        refine J_iconst (0 : Int32) dX12_width_38 kc_0 ?_
        exact J_dr (kX12_width_39 H ) ⟨rfl, ⟨rfl, ⟨rfl, ⟨rfl, trivial⟩⟩⟩⟩
      · replace H := br1 q24 H
        refine J_iconst (2 : Int32) dX12_width_34 kc_2 ?_
        refine J_goto 39 dX12_width_35 rfl ?_
        exact J_dr (kX12_width_39 H ) ⟨rfl, ⟨rfl, ⟨rfl, ⟨rfl, trivial⟩⟩⟩⟩
    · replace H := br1 q21 H
      exact J_dr (kX12_width_20 H ) ⟨rfl, ⟨rfl, ⟨rfl, ⟨rfl, trivial⟩⟩⟩⟩
theorem okX12_width {d : Nat} {h : Hp} {v0 : Nat} {v1 : Int32} {v2 : Int32} {v3 : Int32} {h9 : Hp} (H : MX12_width h v0 v1 v2 v3 = some h9) : CT (d + 1) YX12_width [.ref v0, .int v1, .int v2, .int v3] h oV h9 := CT_of (by decide +kernel) (Nat.le_of_ble_eq_true rfl) (eX12_width H)
