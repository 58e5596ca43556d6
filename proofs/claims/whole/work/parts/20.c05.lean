noncomputable def MX5_addText_121 (h : Hp) (v0 : Nat) (v4 : Int32) (v5 : Int32) : Option Hp :=
  if v5 ≤ 0 then
    some h
  else
    gg (β := Hp) (kd h v0 = 4) <|
    Option.bind (α := Hp) (β := Hp) (MX5_addBit h v0 (v4 + v5) (1 : Int32)) fun (h8 : Hp) =>
    some h8
set_option maxRecDepth 100000 in
set_option maxHeartbeats 8000000 in
theorem kX5_addText_121 {d : Nat} {h : Hp} {v0 : Nat} {v4 : Int32} {v5 : Int32} {h9 : Hp} (H : MX5_addText_121 h v0 v4 v5 = some h9) : J (d + 1) YX5_addText 121 [.ref v0, Value.null, Value.null, Value.null, .int v4, .int v5, Value.null, Value.null] [] h oV h9 := by
  unfold MX5_addText_121 at H
  refine J_iload dX5_addText_121 rfl ?_
  refine J_if_le 136 dX5_addText_123 rfl (fun q5 => ?_) (fun q5 => ?_)
  · replace H := br1 q5 H
    cases H
    exact J_ret dX5_addText_136 rfl
  · replace H := br0 q5 H
    refine J_aload_n 0 dX5_addText_126 rfl rfl ?_
    refine J_iload dX5_addText_127 rfl ?_
    refine J_iload dX5_addText_129 rfl ?_
    refine J_iadd dX5_addText_131 ?_
    refine J_iconst (1 : Int32) dX5_addText_132 kc_1 ?_
    obtain ⟨g7, H⟩ := gd H
    obtain ⟨h8, e6, H⟩ := bd H
    refine J_cV (as := [.int (v4 + v5), .int (1 : Int32)]) 4 YX5_addBit 2 dX5_addText_133 moX5_addBit mvX5_addBit mlX5_75 g7 rfl rfl (okX5_addBit (d := d) e6) rfl rfl [] rfl rfl (st2 := []) rfl ?_
    cases H
    exact J_ret dX5_addText_136 rfl
noncomputable def MX5_addText_102 (h : Hp) (v0 : Nat) (v1 : Nat) (v3 : Int32) (v4 : Int32) (v5 : Int32) (v6 : Int32) (s0 : Nat) (s1 : Int32) (s2 : Int32) : Option ((Int32 × Int32 × Int32 × Hp) ⊕ Hp) :=
  gg (β := ((Int32 × Int32 × Int32 × Hp) ⊕ Hp)) (kd h s0 = 4) <|
  Option.bind (α := Hp) (β := ((Int32 × Int32 × Int32 × Hp) ⊕ Hp)) (MX5_addBit h s0 s1 s2) fun (h19 : Hp) =>
  some (.inl ((v4 + v5), (0 : Int32), (v6 + (1 : Int32)), h19))
set_option maxRecDepth 100000 in
set_option maxHeartbeats 8000000 in
theorem kX5_addText_102 {d : Nat} {h : Hp} {v0 : Nat} {v1 : Nat} {v3 : Int32} {v4 : Int32} {v5 : Int32} {v6 : Int32} {s0 : Nat} {s1 : Int32} {s2 : Int32} {h9 : Hp} {x : ((Int32 × Int32 × Int32 × Hp) ⊕ Hp)} (H : MX5_addText_102 h v0 v1 v3 v4 v5 v6 s0 s1 s2 = some x) (hb0 : ∀ s : Int32 × Int32 × Int32 × Hp, x = .inl s → J (d + 1) YX5_addText 17 [.ref v0, .ref v1, Value.null, .int v3, .int s.1, .int s.2.1, .int s.2.2.1, Value.null] [] s.2.2.2 oV h9) (hx : ∀ z : Hp, x = .inr (z) → z = h9) : J (d + 1) YX5_addText 102 [.ref v0, .ref v1, Value.null, .int v3, .int v4, .int v5, .int v6, Value.null] [.int s2, .int s1, .ref s0] h oV h9 := by
  unfold MX5_addText_102 at H
  obtain ⟨g18, H⟩ := gd H
  obtain ⟨h19, e17, H⟩ := bd H
  refine J_cV (as := [.int s1, .int s2]) 4 YX5_addBit 2 dX5_addText_102 moX5_addBit mvX5_addBit mlX5_75 g18 rfl rfl (okX5_addBit (d := d) e17) rfl rfl [] rfl rfl (st2 := []) rfl ?_
  refine J_iload dX5_addText_105 rfl ?_
  refine J_iload dX5_addText_107 rfl ?_
  refine J_iadd dX5_addText_109 ?_
  refine J_istore dX5_addText_110 (by decide) (ls' := [.ref v0, .ref v1, Value.null, .int v3, .int (v4 + v5), .int v5, .int v6, Value.null]) rfl ?_
  refine J_iconst (0 : Int32) dX5_addText_112 kc_0 ?_
  refine J_istore dX5_addText_113 (by decide) (ls' := [.ref v0, .ref v1, Value.null, .int v3, .int (v4 + v5), .int (0 : Int32), .int v6, Value.null]) rfl ?_
  refine J_iinc (v6 + (1 : Int32)) dX5_addText_115 rfl (congrArg (HAdd.hAdd v6) kc_1) (by decide) (ls' := [.ref v0, .ref v1, Value.null, .int v3, .int (v4 + v5), .int (0 : Int32), .int (v6 + (1 : Int32)), Value.null]) rfl ?_
  refine J_goto 17 dX5_addText_118 rfl ?_
  cases H
  exact J_dr (hb0 _ rfl) ⟨rfl, ⟨rfl, ⟨rfl, ⟨rfl, ⟨rfl, ⟨rfl, trivial⟩⟩⟩⟩⟩⟩
noncomputable def BX5_addText_17 (h : Hp) (v0 : Nat) (v1 : Nat) (v3 : Int32) (v4 : Int32) (v5 : Int32) (v6 : Int32) : Option ((Int32 × Int32 × Int32 × Hp) ⊕ Hp) :=
  if v3 ≤ v6 then
    up1 (MX5_addText_121 h v0 v4 v5)
  else
    gg (β := ((Int32 × Int32 × Int32 × Hp) ⊕ Hp)) (kd h v1 = 21) <|
    if (nI (ln h v1)) ≤ v6 then
      up1 (MX5_addText_121 h v0 v4 v5)
    else
      gg (β := ((Int32 × Int32 × Int32 × Hp) ⊕ Hp)) (inB v6 (ln h v1) = true) <|
      Option.bind (α := Int32) (β := ((Int32 × Int32 × Int32 × Hp) ⊕ Hp)) (MX1_isLetter h (gI h v1 v6.toNatClampNeg)) fun (t13 : Int32) =>
      if t13 = 0 then
        if v5 ≤ 0 then
          some (.inl (v4, v5, (v6 + (1 : Int32)), h))
        else
          if (gI h v1 v6.toNatClampNeg) = (45 : Int32) then
            MX5_addText_102 h v0 v1 v3 v4 v5 v6 v0 (v4 + v5) (0 : Int32)
          else
            MX5_addText_102 h v0 v1 v3 v4 v5 v6 v0 (v4 + v5) (1 : Int32)
      else
        gg (β := ((Int32 × Int32 × Int32 × Hp) ⊕ Hp)) (kd h v0 = 4) <|
        gg (β := ((Int32 × Int32 × Int32 × Hp) ⊕ Hp)) (kd h (gP h v0 0) = 21) <|
        if (nI (ln h (gP h v0 0))) ≤ (v4 + v5) then
          some (.inl (v4, (v5 + (1 : Int32)), (v6 + (1 : Int32)), h))
        else
          gg (β := ((Int32 × Int32 × Int32 × Hp) ⊕ Hp)) (inB (v4 + v5) (ln h (gP h v0 0)) = true) <|
          lt (α := Hp) (β := Option ((Int32 × Int32 × Int32 × Hp) ⊕ Hp)) (sI h (gP h v0 0) (v4 + v5).toNatClampNeg (vp_nar .byte (((gI h v1 v6.toNatClampNeg) - (97 : Int32)).toInt8.toInt32))) fun (h24 : Hp) =>
          some (.inl (v4, (v5 + (1 : Int32)), (v6 + (1 : Int32)), h24))
set_option maxRecDepth 100000 in
set_option maxHeartbeats 8000000 in
theorem bX5_addText_17 {d : Nat} {h : Hp} {v0 : Nat} {v1 : Nat} {v3 : Int32} {v4 : Int32} {v5 : Int32} {v6 : Int32} {h9 : Hp} {x : ((Int32 × Int32 × Int32 × Hp) ⊕ Hp)} (H : BX5_addText_17 h v0 v1 v3 v4 v5 v6 = some x) (hb0 : ∀ s : Int32 × Int32 × Int32 × Hp, x = .inl s → J (d + 1) YX5_addText 17 [.ref v0, .ref v1, Value.null, .int v3, .int s.1, .int s.2.1, .int s.2.2.1, Value.null] [] s.2.2.2 oV h9) (hx : ∀ z : Hp, x = .inr (z) → z = h9) : J (d + 1) YX5_addText 17 [.ref v0, .ref v1, Value.null, .int v3, .int v4, .int v5, .int v6, Value.null] [] h oV h9 := by
  unfold BX5_addText_17 at H
  refine J_iload dX5_addText_17 rfl ?_
  refine J_iload_n 3 dX5_addText_19 rfl rfl ?_
  refine J_icmp_ge 121 dX5_addText_20 rfl (fun q4 => ?_) (fun q4 => ?_)
  · replace H := br1 q4 H
    obtain ⟨y0, H90, rfl⟩ := up1_el H
    replace H := H90
    obtain rfl := hx _ rfl
    exact J_dr (kX5_addText_121 H ) ⟨rfl, ⟨rfl, ⟨rfl, trivial⟩⟩⟩
  · replace H := br0 q4 H
    refine J_iload dX5_addText_23 rfl ?_
    refine J_aload_n 1 dX5_addText_25 rfl rfl ?_
    obtain ⟨g9, H⟩ := gd H
    refine J_len 21 dX5_addText_26 g9 rfl ?_
    refine J_icmp_ge 121 dX5_addText_27 rfl (fun q10 => ?_) (fun q10 => ?_)
    · replace H := br1 q10 H
      obtain ⟨y0, H90, rfl⟩ := up1_el H
      replace H := H90
      obtain rfl := hx _ rfl
      exact J_dr (kX5_addText_121 H ) ⟨rfl, ⟨rfl, ⟨rfl, trivial⟩⟩⟩
    · replace H := br0 q10 H
      refine J_aload_n 1 dX5_addText_30 rfl rfl ?_
      refine J_iload dX5_addText_31 rfl ?_
      obtain ⟨g11, H⟩ := gd H
      refine J_bald dX5_addText_33 g9 (inB_ok g11) ?_
      refine J_istore dX5_addText_34 (by decide) (ls' := [.ref v0, .ref v1, Value.null, .int v3, .int v4, .int v5, .int v6, .int (gI h v1 v6.toNatClampNeg)]) rfl ?_
      refine J_iload dX5_addText_36 rfl ?_
      obtain ⟨t13, e12, H⟩ := bd H
      refine J_cS (as := [.int (gI h v1 v6.toNatClampNeg)]) YX1_isLetter 1 dX5_addText_38 moX1_isLetter msX1_isLetter mlX5_69 (okX1_isLetter (d := d) e12) rfl rfl [] rfl rfl (st2 := [.int t13]) rfl ?_
      refine J_if_eq 79 dX5_addText_41 rfl (fun q14 => ?_) (fun q14 => ?_)
      · replace H := br1 q14 H
        refine J_iload dX5_addText_79 rfl ?_
        refine J_if_le 115 dX5_addText_81 rfl (fun q15 => ?_) (fun q15 => ?_)
        · replace H := br1 q15 H
          refine J_iinc (v6 + (1 : Int32)) dX5_addText_115 rfl (congrArg (HAdd.hAdd v6) kc_1) (by decide) (ls' := [.ref v0, .ref v1, Value.null, .int v3, .int v4, .int v5, .int (v6 + (1 : Int32)), .int (gI h v1 v6.toNatClampNeg)]) rfl ?_
          refine J_goto 17 dX5_addText_118 rfl ?_
          cases H
          exact J_dr (hb0 _ rfl) ⟨rfl, ⟨rfl, ⟨rfl, ⟨rfl, ⟨rfl, ⟨rfl, trivial⟩⟩⟩⟩⟩⟩
        · replace H := br0 q15 H
          refine J_aload_n 0 dX5_addText_84 rfl rfl ?_
          refine J_iload dX5_addText_85 rfl ?_
          refine J_iload dX5_addText_87 rfl ?_
          refine J_iadd dX5_addText_89 ?_
          refine J_iload dX5_addText_90 rfl ?_
          refine J_bipush (45 : Int32) dX5_addText_92 kb_45 ?_
          refine J_icmp_eq 101 dX5_addText_94 rfl (fun q16 => ?_) (fun q16 => ?_)
          · replace H := br1 q16 H
            refine J_iconst (0 : Int32) dX5_addText_101 kc_0 ?_
            exact J_dr (kX5_addText_102 H hb0 hx) ⟨rfl, ⟨rfl, ⟨rfl, ⟨rfl, ⟨rfl, ⟨rfl, trivial⟩⟩⟩⟩⟩⟩
          · replace H := br0 q16 H
            refine J_iconst (1 : Int32) dX5_addText_97 kc_1 ?_
            refine J_goto 102 dX5_addText_98 rfl ?_
            exact J_dr (kX5_addText_102 H hb0 hx) ⟨rfl, ⟨rfl, ⟨rfl, ⟨rfl, ⟨rfl, ⟨rfl, trivial⟩⟩⟩⟩⟩⟩
      · replace H := br0 q14 H
        refine J_iload dX5_addText_44 rfl ?_
        refine J_iload dX5_addText_46 rfl ?_
        refine J_iadd dX5_addText_48 ?_
        refine J_aload_n 0 dX5_addText_49 rfl rfl ?_
        obtain ⟨g20, H⟩ := gd H
        refine J_gP 4 0 dX5_addText_50 g20 flX5_9 rfl rfl ?_
        obtain ⟨g21, H⟩ := gd H
        refine J_len 21 dX5_addText_53 g21 rfl ?_
        refine J_icmp_ge 73 dX5_addText_54 rfl (fun q22 => ?_) (fun q22 => ?_)
        · replace H := br1 q22 H
          refine J_iinc (v5 + (1 : Int32)) dX5_addText_73 rfl (congrArg (HAdd.hAdd v5) kc_1) (by decide) (ls' := [.ref v0, .ref v1, Value.null, .int v3, .int v4, .int (v5 + (1 : Int32)), .int v6, .int (gI h v1 v6.toNatClampNeg)]) rfl ?_
          refine J_goto 115 dX5_addText_76 rfl ?_
          refine J_iinc (v6 + (1 : Int32)) dX5_addText_115 rfl (congrArg (HAdd.hAdd v6) kc_1) (by decide) (ls' := [.ref v0, .ref v1, Value.null, .int v3, .int v4, .int (v5 + (1 : Int32)), .int (v6 + (1 : Int32)), .int (gI h v1 v6.toNatClampNeg)]) rfl ?_
          refine J_goto 17 dX5_addText_118 rfl ?_
          cases H
          exact J_dr (hb0 _ rfl) ⟨rfl, ⟨rfl, ⟨rfl, ⟨rfl, ⟨rfl, ⟨rfl, trivial⟩⟩⟩⟩⟩⟩
        · replace H := br0 q22 H
          refine J_aload_n 0 dX5_addText_57 rfl rfl ?_
          refine J_gP 4 0 dX5_addText_58 g20 flX5_9 rfl rfl ?_
          refine J_iload dX5_addText_61 rfl ?_
          refine J_iload dX5_addText_63 rfl ?_
          refine J_iadd dX5_addText_65 ?_
          refine J_iload dX5_addText_66 rfl ?_
          refine J_bipush (97 : Int32) dX5_addText_68 kb_97 ?_
          refine J_isub dX5_addText_70 ?_
          refine J_i2b dX5_addText_71 ?_
          obtain ⟨g23, H⟩ := gd H
          obtain ⟨h24, e25, H⟩ := lt_el H
          refine J_sB dX5_addText_72 g21 (inB_ok g23) e25 ?_
          have c26 := ekI e25
          have c27 := elI e25
          have c28 := epI e25
          refine J_iinc (v5 + (1 : Int32)) dX5_addText_73 rfl (congrArg (HAdd.hAdd v5) kc_1) (by decide) (ls' := [.ref v0, .ref v1, Value.null, .int v3, .int v4, .int (v5 + (1 : Int32)), .int v6, .int (gI h v1 v6.toNatClampNeg)]) rfl ?_
          refine J_goto 115 dX5_addText_76 rfl ?_
          refine J_iinc (v6 + (1 : Int32)) dX5_addText_115 rfl (congrArg (HAdd.hAdd v6) kc_1) (by decide) (ls' := [.ref v0, .ref v1, Value.null, .int v3, .int v4, .int (v5 + (1 : Int32)), .int (v6 + (1 : Int32)), .int (gI h v1 v6.toNatClampNeg)]) rfl ?_
          refine J_goto 17 dX5_addText_118 rfl ?_
          cases H
          exact J_dr (hb0 _ rfl) ⟨rfl, ⟨rfl, ⟨rfl, ⟨rfl, ⟨rfl, ⟨rfl, trivial⟩⟩⟩⟩⟩⟩
noncomputable def MX5_addText_17 (h : Hp) (v0 : Nat) (v1 : Nat) (v3 : Int32) (v4 : Int32) (v5 : Int32) (v6 : Int32) : Option Hp := it (fun q : Int32 × Int32 × Int32 × Hp => BX5_addText_17 q.2.2.2 v0 v1 v3 q.1 q.2.1 q.2.2.1) (v4, v5, v6, h)
set_option maxRecDepth 100000 in
set_option maxHeartbeats 8000000 in
theorem kX5_addText_17 {d : Nat} {h : Hp} {v0 : Nat} {v1 : Nat} {v3 : Int32} {v4 : Int32} {v5 : Int32} {v6 : Int32} {h9 : Hp} (H : MX5_addText_17 h v0 v1 v3 v4 v5 v6 = some h9) : J (d + 1) YX5_addText 17 [.ref v0, .ref v1, Value.null, .int v3, .int v4, .int v5, .int v6, Value.null] [] h oV h9 := by
  unfold MX5_addText_17 at H
  refine it_J (G := (fun q : Int32 × Int32 × Int32 × Hp => J (d + 1) YX5_addText 17 [.ref v0, .ref v1, Value.null, .int v3, .int q.1, .int q.2.1, .int q.2.2.1, Value.null] [] q.2.2.2 oV h9)) (Q := (fun y : Hp => y = h9)) (fun q x Hq hm => ?_) H rfl
  exact bX5_addText_17 Hq (fun s hs => by subst hs; exact hm) (fun z hz => by subst hz; exact hm)
noncomputable def MX5_addText (h : Hp) (v0 : Nat) (v1 : Nat) (v2 : Int32) (v3 : Int32) : Option Hp :=
  gg (β := Hp) (kd h v0 = 4) <|
  gg (β := Hp) (kd h (gP h v0 1) = 20) <|
  gg (β := Hp) (inB (gI h v0 5) (ln h (gP h v0 1)) = true) <|
  MX5_addText_17 h v0 v1 v3 (gI h (gP h v0 1) (gI h v0 5).toNatClampNeg) (0 : Int32) v2
set_option maxRecDepth 100000 in
set_option maxHeartbeats 8000000 in
theorem eX5_addText {d : Nat} {h : Hp} {v0 : Nat} {v1 : Nat} {v2 : Int32} {v3 : Int32} {h9 : Hp} (H : MX5_addText h v0 v1 v2 v3 = some h9) : J (d + 1) YX5_addText 0 [.ref v0, .ref v1, .int v2, .int v3, Value.null, Value.null, Value.null, Value.null] [] h oV h9 := by
  unfold MX5_addText at H
  refine J_aload_n 0 dX5_addText_0 rfl rfl ?_
  obtain ⟨g1, H⟩ := gd H
  refine J_gP 4 1 dX5_addText_1 g1 flX5_15 rfl rfl ?_
  refine J_aload_n 0 dX5_addText_4 rfl rfl ?_
  refine J_getI 4 5 dX5_addText_5 g1 flX5_29 rfl ?_
  obtain ⟨g2, H⟩ := gd H
  obtain ⟨g3, H⟩ := gd H
  refine J_iald dX5_addText_8 g2 (inB_ok g3) ?_
  refine J_istore dX5_addText_9 (by decide) (ls' := [.ref v0, .ref v1, .int v2, .int v3, .int (gI h (gP h v0 1) (gI h v0 5).toNatClampNeg), Value.null, Value.null, Value.null]) rfl ?_
  refine J_iconst (0 : Int32) dX5_addText_11 kc_0 ?_
  refine J_istore dX5_addText_12 (by decide) (ls' := [.ref v0, .ref v1, .int v2, .int v3, .int (gI h (gP h v0 1) (gI h v0 5).toNatClampNeg), .int (0 : Int32), Value.null, Value.null]) rfl ?_
  refine J_iload_n 2 dX5_addText_14 rfl rfl ?_
  refine J_istore dX5_addText_15 (by decide) (ls' := [.ref v0, .ref v1, .int v2, .int v3, .int (gI h (gP h v0 1) (gI h v0 5).toNatClampNeg), .int (0 : Int32), .int v2, Value.null]) rfl ?_
  exact J_dr (kX5_addText_17 H ) ⟨rfl, ⟨rfl, ⟨rfl, ⟨rfl, ⟨rfl, ⟨rfl, trivial⟩⟩⟩⟩⟩⟩
theorem okX5_addText {d : Nat} {h : Hp} {v0 : Nat} {v1 : Nat} {v2 : Int32} {v3 : Int32} {h9 : Hp} (H : MX5_addText h v0 v1 v2 v3 = some h9) : CT (d + 1) YX5_addText [.ref v0, .ref v1, .int v2, .int v3] h oV h9 := CT_of (by decide +kernel) (Nat.le_of_ble_eq_true rfl) (eX5_addText H)
noncomputable def MX5_empty (h : Hp) (v0 : Nat) (v1 : Int32) (v2 : Int32) : Option Hp :=
  gg (β := Hp) (kd h v0 = 4) <|
  lt (α := Hp) (β := Option Hp) (sI h v0 5 (0 : Int32)) fun (h2 : Hp) =>
  lt (α := Hp) (β := Option Hp) (sI h2 v0 6 (0 : Int32)) fun (h7 : Hp) =>
  lt (α := Hp) (β := Option Hp) (sI h7 v0 7 v1) fun (h12 : Hp) =>
  lt (α := Hp) (β := Option Hp) (sI h12 v0 8 v2) fun (h17 : Hp) =>
  lt (α := Hp) (β := Option Hp) (sI h17 v0 9 (0 : Int32)) fun (h22 : Hp) =>
  lt (α := Hp) (β := Option Hp) (sI h22 v0 10 (0 : Int32)) fun (h27 : Hp) =>
  lt (α := Hp) (β := Option Hp) (sI h27 v0 11 (0 : Int32)) fun (h32 : Hp) =>
  some h32
set_option maxRecDepth 100000 in
set_option maxHeartbeats 8000000 in
theorem eX5_empty {d : Nat} {h : Hp} {v0 : Nat} {v1 : Int32} {v2 : Int32} {h9 : Hp} (H : MX5_empty h v0 v1 v2 = some h9) : J (d) YX5_empty 0 [.ref v0, .int v1, .int v2] [] h oV h9 := by
  unfold MX5_empty at H
  refine J_aload_n 0 dX5_empty_0 rfl rfl ?_
  refine J_iconst (0 : Int32) dX5_empty_1 kc_0 ?_
  obtain ⟨g1, H⟩ := gd H
  obtain ⟨h2, e3, H⟩ := lt_el H
  refine J_pI 4 5 dX5_empty_2 g1 flX5_29 rfl rfl e3 ?_
  have c4 := ekI e3
  have c5 := elI e3
  have c6 := epI e3
  refine J_aload_n 0 dX5_empty_5 rfl rfl ?_
  refine J_iconst (0 : Int32) dX5_empty_6 kc_0 ?_
  obtain ⟨h7, e8, H⟩ := lt_el H
  refine J_pI 4 6 dX5_empty_7 (kq c4 g1) flX5_33 rfl rfl e8 ?_
  have c9 := (ekI e8).trans c4
  have c10 := (elI e8).trans c5
  have c11 := (epI e8).trans c6
  refine J_aload_n 0 dX5_empty_10 rfl rfl ?_
  refine J_iload_n 1 dX5_empty_11 rfl rfl ?_
  obtain ⟨h12, e13, H⟩ := lt_el H
  refine J_pI 4 7 dX5_empty_12 (kq c9 g1) flX5_36 rfl rfl e13 ?_
  have c14 := (ekI e13).trans c9
  have c15 := (elI e13).trans c10
  have c16 := (epI e13).trans c11
  refine J_aload_n 0 dX5_empty_15 rfl rfl ?_
  refine J_iload_n 2 dX5_empty_16 rfl rfl ?_
  obtain ⟨h17, e18, H⟩ := lt_el H
  refine J_pI 4 8 dX5_empty_17 (kq c14 g1) flX5_39 rfl rfl e18 ?_
  have c19 := (ekI e18).trans c14
  have c20 := (elI e18).trans c15
  have c21 := (epI e18).trans c16
  refine J_aload_n 0 dX5_empty_20 rfl rfl ?_
  refine J_iconst (0 : Int32) dX5_empty_21 kc_0 ?_
  obtain ⟨h22, e23, H⟩ := lt_el H
  refine J_pI 4 9 dX5_empty_22 (kq c19 g1) flX5_42 rfl rfl e23 ?_
  have c24 := (ekI e23).trans c19
  have c25 := (elI e23).trans c20
  have c26 := (epI e23).trans c21
  refine J_aload_n 0 dX5_empty_25 rfl rfl ?_
  refine J_iconst (0 : Int32) dX5_empty_26 kc_0 ?_
  obtain ⟨h27, e28, H⟩ := lt_el H
  refine J_pZ 4 10 dX5_empty_27 (kq c24 g1) flX5_45 rfl rfl rfl e28 ?_
  have c29 := (ekI e28).trans c24
  have c30 := (elI e28).trans c25
  have c31 := (epI e28).trans c26
  refine J_aload_n 0 dX5_empty_30 rfl rfl ?_
  refine J_iconst (0 : Int32) dX5_empty_31 kc_0 ?_
  obtain ⟨h32, e33, H⟩ := lt_el H
  refine J_pZ 4 11 dX5_empty_32 (kq c29 g1) flX5_49 rfl rfl rfl e33 ?_
  have c34 := (ekI e33).trans c29
  have c35 := (elI e33).trans c30
  have c36 := (epI e33).trans c31
  cases H
  exact J_ret dX5_empty_35 rfl
theorem okX5_empty {d : Nat} {h : Hp} {v0 : Nat} {v1 : Int32} {v2 : Int32} {h9 : Hp} (H : MX5_empty h v0 v1 v2 = some h9) : CT (d) YX5_empty [.ref v0, .int v1, .int v2] h oV h9 := CT_of (by decide +kernel) (Nat.le_of_ble_eq_true rfl) (eX5_empty H)
noncomputable def MX5_putWord (h : Hp) (v0 : Nat) (v1 : Nat) (v2 : Int32) (v3 : Nat) (v4 : Int32) : Option Hp :=
  gg (β := Hp) (kd h v1 = 4) <|
  gg (β := Hp) (kd h v0 = 4) <|
  Option.bind (α := Hp) (β := Hp) (MX5_empty h v0 (gI h v1 7) (gI h v1 8)) fun (h4 : Hp) =>
  gg (β := Hp) (kd h4 v1 = 4) <|
  Option.bind (α := Int32) (β := Hp) (MX5_firstBit h4 v1 v2) fun (t7 : Int32) =>
  gg (β := Hp) (kd h4 v0 = 4) <|
  Option.bind (α := Hp) (β := Hp) (MX5_addBits h4 v0 v1 (0 : Int32) t7) fun (h10 : Hp) =>
  gg (β := Hp) (kd h10 v0 = 4) <|
  Option.bind (α := Hp) (β := Hp) (MX5_addText h10 v0 v3 (0 : Int32) v4) fun (h13 : Hp) =>
  gg (β := Hp) (kd h13 v1 = 4) <|
  Option.bind (α := Int32) (β := Hp) (MX5_bitsOfWord h13 v1 v2) fun (t16 : Int32) =>
  gg (β := Hp) (kd h13 v0 = 4) <|
  Option.bind (α := Hp) (β := Hp) (MX5_addBits h13 v0 v1 (t7 + t16) (gI h13 v1 5)) fun (h19 : Hp) =>
  some h19
set_option maxRecDepth 100000 in
set_option maxHeartbeats 8000000 in
theorem eX5_putWord {d : Nat} {h : Hp} {v0 : Nat} {v1 : Nat} {v2 : Int32} {v3 : Nat} {v4 : Int32} {h9 : Hp} (H : MX5_putWord h v0 v1 v2 v3 v4 = some h9) : J (d + 2) YX5_putWord 0 [.ref v0, .ref v1, .int v2, .ref v3, .int v4, Value.null] [] h oV h9 := by
  unfold MX5_putWord at H
  refine J_aload_n 0 dX5_putWord_0 rfl rfl ?_
  refine J_aload_n 1 dX5_putWord_1 rfl rfl ?_
  obtain ⟨g1, H⟩ := gd H
  refine J_getI 4 7 dX5_putWord_2 g1 flX5_36 rfl ?_
  refine J_aload_n 1 dX5_putWord_5 rfl rfl ?_
  refine J_getI 4 8 dX5_putWord_6 g1 flX5_39 rfl ?_
  obtain ⟨g3, H⟩ := gd H
  obtain ⟨h4, e2, H⟩ := bd H
  refine J_cV (as := [.int (gI h v1 7), .int (gI h v1 8)]) 4 YX5_empty 2 dX5_putWord_9 moX5_empty mvX5_empty mlX5_79 g3 rfl rfl (okX5_empty (d := d + 1) e2) rfl rfl [] rfl rfl (st2 := []) rfl ?_
  refine J_aload_n 1 dX5_putWord_12 rfl rfl ?_
  refine J_iload_n 2 dX5_putWord_13 rfl rfl ?_
  obtain ⟨g6, H⟩ := gd H
  obtain ⟨t7, e5, H⟩ := bd H
  refine J_cV (as := [.int v2]) 4 YX5_firstBit 1 dX5_putWord_14 moX5_firstBit mvX5_firstBit mlX5_83 g6 rfl rfl (okX5_firstBit (d := d + 1) e5) rfl rfl [] rfl rfl (st2 := [.int t7]) rfl ?_
  refine J_istore dX5_putWord_17 (by decide) (ls' := [.ref v0, .ref v1, .int v2, .ref v3, .int v4, .int t7]) rfl ?_
  refine J_aload_n 0 dX5_putWord_19 rfl rfl ?_
  refine J_aload_n 1 dX5_putWord_20 rfl rfl ?_
  refine J_iconst (0 : Int32) dX5_putWord_21 kc_0 ?_
  refine J_iload dX5_putWord_22 rfl ?_
  obtain ⟨g9, H⟩ := gd H
  obtain ⟨h10, e8, H⟩ := bd H
  refine J_cV (as := [.ref v1, .int (0 : Int32), .int t7]) 4 YX5_addBits 3 dX5_putWord_24 moX5_addBits mvX5_addBits mlX5_87 g9 rfl rfl (okX5_addBits (d := d) e8) rfl rfl [] rfl rfl (st2 := []) rfl ?_
  refine J_aload_n 0 dX5_putWord_27 rfl rfl ?_
  refine J_aload_n 3 dX5_putWord_28 rfl rfl ?_
  refine J_iconst (0 : Int32) dX5_putWord_29 kc_0 ?_
  refine J_iload dX5_putWord_30 rfl ?_
  obtain ⟨g12, H⟩ := gd H
  obtain ⟨h13, e11, H⟩ := bd H
  refine J_cV (as := [.ref v3, .int (0 : Int32), .int v4]) 4 YX5_addText 3 dX5_putWord_32 moX5_addText mvX5_addText mlX5_91 g12 rfl rfl (okX5_addText (d := d) e11) rfl rfl [] rfl rfl (st2 := []) rfl ?_
  refine J_aload_n 0 dX5_putWord_35 rfl rfl ?_
  refine J_aload_n 1 dX5_putWord_36 rfl rfl ?_
  refine J_iload dX5_putWord_37 rfl ?_
  refine J_aload_n 1 dX5_putWord_39 rfl rfl ?_
  refine J_iload_n 2 dX5_putWord_40 rfl rfl ?_
  obtain ⟨g15, H⟩ := gd H
  obtain ⟨t16, e14, H⟩ := bd H
  refine J_cV (as := [.int v2]) 4 YX5_bitsOfWord 1 dX5_putWord_41 moX5_bitsOfWord mvX5_bitsOfWord mlX5_95 g15 rfl rfl (okX5_bitsOfWord (d := d) e14) rfl rfl [.int t7, .ref v1, .ref v0] rfl rfl (st2 := [.int t16, .int t7, .ref v1, .ref v0]) rfl ?_
  refine J_iadd dX5_putWord_44 ?_
  refine J_aload_n 1 dX5_putWord_45 rfl rfl ?_
  refine J_getI 4 5 dX5_putWord_46 g15 flX5_29 rfl ?_
  obtain ⟨g18, H⟩ := gd H
  obtain ⟨h19, e17, H⟩ := bd H
  refine J_cV (as := [.ref v1, .int (t7 + t16), .int (gI h13 v1 5)]) 4 YX5_addBits 3 dX5_putWord_49 moX5_addBits mvX5_addBits mlX5_87 g18 rfl rfl (okX5_addBits (d := d) e17) rfl rfl [] rfl rfl (st2 := []) rfl ?_
  cases H
  exact J_ret dX5_putWord_52 rfl
theorem okX5_putWord {d : Nat} {h : Hp} {v0 : Nat} {v1 : Nat} {v2 : Int32} {v3 : Nat} {v4 : Int32} {h9 : Hp} (H : MX5_putWord h v0 v1 v2 v3 v4 = some h9) : CT (d + 2) YX5_putWord [.ref v0, .ref v1, .int v2, .ref v3, .int v4] h oV h9 := CT_of (by decide +kernel) (Nat.le_of_ble_eq_true rfl) (eX5_putWord H)
noncomputable def MX5_lineOf_28 (h : Hp) (v0 : Nat) : Option Int32 :=
  gg (β := Int32) (kd h v0 = 4) <|
  some (gI h v0 9)
set_option maxRecDepth 100000 in
set_option maxHeartbeats 8000000 in
theorem kX5_lineOf_28 {d : Nat} {h : Hp} {v0 : Nat} {r : Int32} (H : MX5_lineOf_28 h v0 = some r) : J (d) YX5_lineOf 28 [.ref v0, Value.null, Value.null] [] h (oI r) h := by
  unfold MX5_lineOf_28 at H
  refine J_aload_n 0 dX5_lineOf_28 rfl rfl ?_
  obtain ⟨g3, H⟩ := gd H
  refine J_getI 4 9 dX5_lineOf_29 g3 flX5_42 rfl ?_
  cases H
  exact J_iretI dX5_lineOf_32 rfl
noncomputable def BX5_lineOf_2 (h : Hp) (v0 : Nat) (v1 : Int32) (v2 : Int32) : Option ((Int32) ⊕ Int32) :=
  gg (β := ((Int32) ⊕ Int32)) (kd h v0 = 4) <|
  if (gI h v0 9) ≤ v2 then
    up1 (MX5_lineOf_28 h v0)
  else
    gg (β := ((Int32) ⊕ Int32)) (kd h (gP h v0 3) = 20) <|
    gg (β := ((Int32) ⊕ Int32)) (inB v2 (ln h (gP h v0 3)) = true) <|
    if (gI h (gP h v0 3) v2.toNatClampNeg) < v1 then
      some (.inl (v2 + (1 : Int32)))
    else
      some (.inr (v2))
set_option maxRecDepth 100000 in
set_option maxHeartbeats 8000000 in
theorem bX5_lineOf_2 {d : Nat} {h : Hp} {v0 : Nat} {v1 : Int32} {v2 : Int32} {r : Int32} {x : ((Int32) ⊕ Int32)} (H : BX5_lineOf_2 h v0 v1 v2 = some x) (hb0 : ∀ s : Int32, x = .inl s → J (d) YX5_lineOf 2 [.ref v0, .int v1, .int s] [] h (oI r) h) (hx : ∀ z : Int32, x = .inr (z) → z = r) : J (d) YX5_lineOf 2 [.ref v0, .int v1, .int v2] [] h (oI r) h := by
  unfold BX5_lineOf_2 at H
  refine J_iload_n 2 dX5_lineOf_2 rfl rfl ?_
  refine J_aload_n 0 dX5_lineOf_3 rfl rfl ?_
  obtain ⟨g1, H⟩ := gd H
  refine J_getI 4 9 dX5_lineOf_4 g1 flX5_42 rfl ?_
  refine J_icmp_ge 28 dX5_lineOf_7 rfl (fun q2 => ?_) (fun q2 => ?_)
  · replace H := br1 q2 H
    obtain ⟨y0, H90, rfl⟩ := up1_el H
    replace H := H90
    obtain rfl := hx _ rfl
    exact J_dr (kX5_lineOf_28 H ) ⟨rfl, trivial⟩
  · replace H := br0 q2 H
    refine J_aload_n 0 dX5_lineOf_10 rfl rfl ?_
    refine J_gP 4 3 dX5_lineOf_11 g1 flX5_23 rfl rfl ?_
    refine J_iload_n 2 dX5_lineOf_14 rfl rfl ?_
    obtain ⟨g4, H⟩ := gd H
    obtain ⟨g5, H⟩ := gd H
    refine J_iald dX5_lineOf_15 g4 (inB_ok g5) ?_
    refine J_iload_n 1 dX5_lineOf_16 rfl rfl ?_
    refine J_icmp_lt 22 dX5_lineOf_17 rfl (fun q6 => ?_) (fun q6 => ?_)
    · replace H := br1 q6 H
      refine J_iinc (v2 + (1 : Int32)) dX5_lineOf_22 rfl (congrArg (HAdd.hAdd v2) kc_1) (by decide) (ls' := [.ref v0, .int v1, .int (v2 + (1 : Int32))]) rfl ?_
      refine J_goto 2 dX5_lineOf_25 rfl ?_
      cases H
      exact J_dr (hb0 _ rfl) ⟨rfl, ⟨rfl, ⟨rfl, trivial⟩⟩⟩
    · replace H := br0 q6 H
      refine J_iload_n 2 dX5_lineOf_20 rfl rfl ?_
      cases H
      cases hx _ rfl
      exact J_iretI dX5_lineOf_21 rfl
noncomputable def MX5_lineOf_2 (h : Hp) (v0 : Nat) (v1 : Int32) (v2 : Int32) : Option Int32 := it (fun q : Int32 => BX5_lineOf_2 h v0 v1 q) (v2)
set_option maxRecDepth 100000 in
set_option maxHeartbeats 8000000 in
theorem kX5_lineOf_2 {d : Nat} {h : Hp} {v0 : Nat} {v1 : Int32} {v2 : Int32} {r : Int32} (H : MX5_lineOf_2 h v0 v1 v2 = some r) : J (d) YX5_lineOf 2 [.ref v0, .int v1, .int v2] [] h (oI r) h := by
  unfold MX5_lineOf_2 at H
  refine it_J (G := (fun q : Int32 => J (d) YX5_lineOf 2 [.ref v0, .int v1, .int q] [] h (oI r) h)) (Q := (fun y : Int32 => y = r)) (fun q x Hq hm => ?_) H rfl
  exact bX5_lineOf_2 Hq (fun s hs => by subst hs; exact hm) (fun z hz => by subst hz; exact hm)
noncomputable def MX5_lineOf (h : Hp) (v0 : Nat) (v1 : Int32) : Option Int32 :=
  MX5_lineOf_2 h v0 v1 (0 : Int32)
set_option maxRecDepth 100000 in
set_option maxHeartbeats 8000000 in
theorem eX5_lineOf {d : Nat} {h : Hp} {v0 : Nat} {v1 : Int32} {r : Int32} (H : MX5_lineOf h v0 v1 = some r) : J (d) YX5_lineOf 0 [.ref v0, .int v1, Value.null] [] h (oI r) h := by
  unfold MX5_lineOf at H
  refine J_iconst (0 : Int32) dX5_lineOf_0 kc_0 ?_
  refine J_istore_n 2 dX5_lineOf_1 rfl (by decide) (ls' := [.ref v0, .int v1, .int (0 : Int32)]) rfl ?_
  exact J_dr (kX5_lineOf_2 H ) ⟨rfl, ⟨rfl, ⟨rfl, trivial⟩⟩⟩
theorem okX5_lineOf {d : Nat} {h : Hp} {v0 : Nat} {v1 : Int32} {r : Int32} (H : MX5_lineOf h v0 v1 = some r) : CT (d) YX5_lineOf [.ref v0, .int v1] h (oI r) h := CT_of (by decide +kernel) (Nat.le_of_ble_eq_true rfl) (eX5_lineOf H)
noncomputable def BX8_sameBytes_22 (h : Hp) (v0 : Nat) (v1 : Int32) (v2 : Nat) (v4 : Int32) : Option ((Int32) ⊕ Int32) :=
  if v1 ≤ v4 then
    some (.inr ((1 : Int32)))
  else
    gg (β := ((Int32) ⊕ Int32)) (kd h v0 = 21) <|
    gg (β := ((Int32) ⊕ Int32)) (inB v4 (ln h v0) = true) <|
    gg (β := ((Int32) ⊕ Int32)) (kd h v2 = 21) <|
    gg (β := ((Int32) ⊕ Int32)) (inB v4 (ln h v2) = true) <|
    if (gI h v0 v4.toNatClampNeg) = (gI h v2 v4.toNatClampNeg) then
      some (.inl (v4 + (1 : Int32)))
    else
      some (.inr ((0 : Int32)))
set_option maxRecDepth 100000 in
set_option maxHeartbeats 8000000 in
theorem bX8_sameBytes_22 {d : Nat} {h : Hp} {v0 : Nat} {v1 : Int32} {v2 : Nat} {v4 : Int32} {r : Int32} {x : ((Int32) ⊕ Int32)} (H : BX8_sameBytes_22 h v0 v1 v2 v4 = some x) (hb0 : ∀ s : Int32, x = .inl s → J (d) YX8_sameBytes 22 [.ref v0, .int v1, .ref v2, Value.null, .int s] [] h (oI r) h) (hx : ∀ z : Int32, x = .inr (z) → z = r) : J (d) YX8_sameBytes 22 [.ref v0, .int v1, .ref v2, Value.null, .int v4] [] h (oI r) h := by
  unfold BX8_sameBytes_22 at H
  refine J_iload dX8_sameBytes_22 rfl ?_
  refine J_iload_n 1 dX8_sameBytes_24 rfl rfl ?_
  refine J_icmp_ge 47 dX8_sameBytes_25 rfl (fun q6 => ?_) (fun q6 => ?_)
  · replace H := br1 q6 H
    refine J_iconst (1 : Int32) dX8_sameBytes_47 kc_1 ?_
    cases H
    cases hx _ rfl
    exact J_rZ dX8_sameBytes_48 rfl rfl
  · replace H := br0 q6 H
    refine J_aload_n 0 dX8_sameBytes_28 rfl rfl ?_
    refine J_iload dX8_sameBytes_29 rfl ?_
    obtain ⟨g7, H⟩ := gd H
    obtain ⟨g8, H⟩ := gd H
    refine J_bald dX8_sameBytes_31 g7 (inB_ok g8) ?_
    refine J_aload_n 2 dX8_sameBytes_32 rfl rfl ?_
    refine J_iload dX8_sameBytes_33 rfl ?_
    obtain ⟨g9, H⟩ := gd H
    obtain ⟨g10, H⟩ := gd H
    refine J_bald dX8_sameBytes_35 g9 (inB_ok g10) ?_
    refine J_icmp_eq 41 dX8_sameBytes_36 rfl (fun q11 => ?_) (fun q11 => ?_)
    · replace H := br1 q11 H
      refine J_iinc (v4 + (1 : Int32)) dX8_sameBytes_41 rfl (congrArg (HAdd.hAdd v4) kc_1) (by decide) (ls' := [.ref v0, .int v1, .ref v2, Value.null, .int (v4 + (1 : Int32))]) rfl ?_
      refine J_goto 22 dX8_sameBytes_44 rfl ?_
      cases H
      exact J_dr (hb0 _ rfl) ⟨rfl, ⟨rfl, ⟨rfl, ⟨rfl, trivial⟩⟩⟩⟩
    · replace H := br0 q11 H
      refine J_iconst (0 : Int32) dX8_sameBytes_39 kc_0 ?_
      cases H
      cases hx _ rfl
      exact J_rZ dX8_sameBytes_40 rfl rfl
noncomputable def MX8_sameBytes_22 (h : Hp) (v0 : Nat) (v1 : Int32) (v2 : Nat) (v4 : Int32) : Option Int32 := it (fun q : Int32 => BX8_sameBytes_22 h v0 v1 v2 q) (v4)
set_option maxRecDepth 100000 in
set_option maxHeartbeats 8000000 in
theorem kX8_sameBytes_22 {d : Nat} {h : Hp} {v0 : Nat} {v1 : Int32} {v2 : Nat} {v4 : Int32} {r : Int32} (H : MX8_sameBytes_22 h v0 v1 v2 v4 = some r) : J (d) YX8_sameBytes 22 [.ref v0, .int v1, .ref v2, Value.null, .int v4] [] h (oI r) h := by
  unfold MX8_sameBytes_22 at H
  refine it_J (G := (fun q : Int32 => J (d) YX8_sameBytes 22 [.ref v0, .int v1, .ref v2, Value.null, .int q] [] h (oI r) h)) (Q := (fun y : Int32 => y = r)) (fun q x Hq hm => ?_) H rfl
  exact bX8_sameBytes_22 Hq (fun s hs => by subst hs; exact hm) (fun z hz => by subst hz; exact hm)
noncomputable def MX8_sameBytes (h : Hp) (v0 : Nat) (v1 : Int32) (v2 : Nat) (v3 : Int32) : Option Int32 :=
  if v1 = v3 then
    gg (β := Int32) (kd h v0 = 21) <|
    if (nI (ln h v0)) < v1 then
      some (0 : Int32)
    else
      gg (β := Int32) (kd h v2 = 21) <|
      if v3 ≤ (nI (ln h v2)) then
        MX8_sameBytes_22 h v0 v1 v2 (0 : Int32)
      else
        some (0 : Int32)
  else
    some (0 : Int32)
set_option maxRecDepth 100000 in
set_option maxHeartbeats 8000000 in
theorem eX8_sameBytes {d : Nat} {h : Hp} {v0 : Nat} {v1 : Int32} {v2 : Nat} {v3 : Int32} {r : Int32} (H : MX8_sameBytes h v0 v1 v2 v3 = some r) : J (d) YX8_sameBytes 0 [.ref v0, .int v1, .ref v2, .int v3, Value.null] [] h (oI r) h := by
  unfold MX8_sameBytes at H
  refine J_iload_n 1 dX8_sameBytes_0 rfl rfl ?_
  refine J_iload_n 3 dX8_sameBytes_1 rfl rfl ?_
  refine J_icmp_ne 17 dX8_sameBytes_2 rfl (fun q1 => ?_) (fun q1 => ?_)
  · replace H := br0 q1 H
    refine J_iconst (0 : Int32) dX8_sameBytes_17 kc_0 ?_
    cases H
    exact J_rZ dX8_sameBytes_18 rfl rfl
  · replace H := br1 q1 H
    refine J_iload_n 1 dX8_sameBytes_5 rfl rfl ?_
    refine J_aload_n 0 dX8_sameBytes_6 rfl rfl ?_
    obtain ⟨g2, H⟩ := gd H
    refine J_len 21 dX8_sameBytes_7 g2 rfl ?_
    refine J_icmp_gt 17 dX8_sameBytes_8 rfl (fun q3 => ?_) (fun q3 => ?_)
    · replace H := br1 q3 H
      refine J_iconst (0 : Int32) dX8_sameBytes_17 kc_0 ?_
      cases H
      exact J_rZ dX8_sameBytes_18 rfl rfl
    · replace H := br0 q3 H
      refine J_iload_n 3 dX8_sameBytes_11 rfl rfl ?_
      refine J_aload_n 2 dX8_sameBytes_12 rfl rfl ?_
      obtain ⟨g4, H⟩ := gd H
      refine J_len 21 dX8_sameBytes_13 g4 rfl ?_
      refine J_icmp_le 19 dX8_sameBytes_14 rfl (fun q5 => ?_) (fun q5 => ?_)
      · replace H := br1 q5 H
        refine J_iconst (0 : Int32) dX8_sameBytes_19 kc_0 ?_
        refine J_istore dX8_sameBytes_20 (by decide) (ls' := [.ref v0, .int v1, .ref v2, .int v3, .int (0 : Int32)]) rfl ?_
        exact J_dr (kX8_sameBytes_22 H ) ⟨rfl, ⟨rfl, ⟨rfl, ⟨rfl, trivial⟩⟩⟩⟩
      · replace H := br0 q5 H
        refine J_iconst (0 : Int32) dX8_sameBytes_17 kc_0 ?_
        cases H
        exact J_rZ dX8_sameBytes_18 rfl rfl
theorem okX8_sameBytes {d : Nat} {h : Hp} {v0 : Nat} {v1 : Int32} {v2 : Nat} {v3 : Int32} {r : Int32} (H : MX8_sameBytes h v0 v1 v2 v3 = some r) : CT (d) YX8_sameBytes [.ref v0, .int v1, .ref v2, .int v3] h (oI r) h := CT_of (by decide +kernel) (Nat.le_of_ble_eq_true rfl) (eX8_sameBytes H)
noncomputable def BX7_countSame_18 (h : Hp) (v0 : Nat) (v1 : Nat) (v2 : Nat) (v4 : Int32) (v5 : Int32) : Option ((Int32 × Hp) ⊕ (Int32 × Hp)) :=
  if v4 ≤ v5 then
    some (.inr ((v5, h)))
  else
    gg (β := ((Int32 × Hp) ⊕ (Int32 × Hp))) (kd h v1 = 4) <|
    gg (β := ((Int32 × Hp) ⊕ (Int32 × Hp))) (kd h v0 = 6) <|
    b2 (α := Int32) (β := Hp) (γ := ((Int32 × Hp) ⊕ (Int32 × Hp))) (MX5_spell h v1 (((gI h v1 9) - (1 : Int32)) - v5) (gP h v0 18)) fun (t8 : Int32) (h7 : Hp) =>
    gg (β := ((Int32 × Hp) ⊕ (Int32 × Hp))) (kd h7 v2 = 4) <|
    gg (β := ((Int32 × Hp) ⊕ (Int32 × Hp))) (kd h7 v0 = 6) <|
    b2 (α := Int32) (β := Hp) (γ := ((Int32 × Hp) ⊕ (Int32 × Hp))) (MX5_spell h7 v2 (((gI h7 v2 9) - (1 : Int32)) - v5) (gP h7 v0 19)) fun (t13 : Int32) (h12 : Hp) =>
    gg (β := ((Int32 × Hp) ⊕ (Int32 × Hp))) (kd h12 v0 = 6) <|
    Option.bind (α := Int32) (β := ((Int32 × Hp) ⊕ (Int32 × Hp))) (MX8_sameBytes h12 (gP h12 v0 18) t8 (gP h12 v0 19) t13) fun (t16 : Int32) =>
    if t16 = 0 then
      some (.inr ((v5, h12)))
    else
      some (.inl ((v5 + (1 : Int32)), h12))
set_option maxRecDepth 100000 in
set_option maxHeartbeats 8000000 in
theorem bX7_countSame_18 {d : Nat} {h : Hp} {v0 : Nat} {v1 : Nat} {v2 : Nat} {v4 : Int32} {v5 : Int32} {r : Int32} {h9 : Hp} {x : ((Int32 × Hp) ⊕ (Int32 × Hp))} (H : BX7_countSame_18 h v0 v1 v2 v4 v5 = some x) (hb0 : ∀ s : Int32 × Hp, x = .inl s → J (d + 2) YX7_countSame 18 [.ref v0, .ref v1, .ref v2, Value.null, .int v4, .int s.1, Value.null, Value.null] [] s.2 (oI r) h9) (hx : ∀ z : (Int32 × Hp), x = .inr (z) → z = (r, h9)) : J (d + 2) YX7_countSame 18 [.ref v0, .ref v1, .ref v2, Value.null, .int v4, .int v5, Value.null, Value.null] [] h (oI r) h9 := by
  unfold BX7_countSame_18 at H
  refine J_iload dX7_countSame_18 rfl ?_
  refine J_iload dX7_countSame_20 rfl ?_
  refine J_icmp_ge 90 dX7_countSame_22 rfl (fun q3 => ?_) (fun q3 => ?_)
  · replace H := br1 q3 H
    refine J_iload dX7_countSame_90 rfl ?_
    cases H
    cases hx _ rfl
    exact J_iretI dX7_countSame_92 rfl
  · replace H := br0 q3 H
    refine J_aload_n 1 dX7_countSame_25 rfl rfl ?_
    refine J_aload_n 1 dX7_countSame_26 rfl rfl ?_
    obtain ⟨g4, H⟩ := gd H
    refine J_getI 4 9 dX7_countSame_27 g4 flX7_225 rfl ?_
    refine J_iconst (1 : Int32) dX7_countSame_30 kc_1 ?_
    refine J_isub dX7_countSame_31 ?_
    refine J_iload dX7_countSame_32 rfl ?_
    refine J_isub dX7_countSame_34 ?_
    refine J_aload_n 0 dX7_countSame_35 rfl rfl ?_
    obtain ⟨g5, H⟩ := gd H
    refine J_gP 6 18 dX7_countSame_36 g5 flX7_85 rfl rfl ?_
    obtain ⟨t8, h7, e6, H⟩ := b2_el H
    refine J_cV (as := [.int (((gI h v1 9) - (1 : Int32)) - v5), .ref (gP h v0 18)]) 4 YX5_spell 2 dX7_countSame_39 moX5_spell mvX5_spell mlX7_270 g4 rfl rfl (okX5_spell (d := d) e6) rfl rfl [] rfl rfl (st2 := [.int t8]) rfl ?_
    refine J_istore dX7_countSame_42 (by decide) (ls' := [.ref v0, .ref v1, .ref v2, Value.null, .int v4, .int v5, .int t8, Value.null]) rfl ?_
    refine J_aload_n 2 dX7_countSame_44 rfl rfl ?_
    refine J_aload_n 2 dX7_countSame_45 rfl rfl ?_
    obtain ⟨g9, H⟩ := gd H
    refine J_getI 4 9 dX7_countSame_46 g9 flX7_225 rfl ?_
    refine J_iconst (1 : Int32) dX7_countSame_49 kc_1 ?_
    refine J_isub dX7_countSame_50 ?_
    refine J_iload dX7_countSame_51 rfl ?_
    refine J_isub dX7_countSame_53 ?_
    refine J_aload_n 0 dX7_countSame_54 rfl rfl ?_
    obtain ⟨g10, H⟩ := gd H
    refine J_gP 6 19 dX7_countSame_55 g10 flX7_89 rfl rfl ?_
    obtain ⟨t13, h12, e11, H⟩ := b2_el H
    refine J_cV (as := [.int (((gI h7 v2 9) - (1 : Int32)) - v5), .ref (gP h7 v0 19)]) 4 YX5_spell 2 dX7_countSame_58 moX5_spell mvX5_spell mlX7_270 g9 rfl rfl (okX5_spell (d := d) e11) rfl rfl [] rfl rfl (st2 := [.int t13]) rfl ?_
    refine J_istore dX7_countSame_61 (by decide) (ls' := [.ref v0, .ref v1, .ref v2, Value.null, .int v4, .int v5, .int t8, .int t13]) rfl ?_
    refine J_aload_n 0 dX7_countSame_63 rfl rfl ?_
    obtain ⟨g14, H⟩ := gd H
    refine J_gP 6 18 dX7_countSame_64 g14 flX7_85 rfl rfl ?_
    refine J_iload dX7_countSame_67 rfl ?_
    refine J_aload_n 0 dX7_countSame_69 rfl rfl ?_
    refine J_gP 6 19 dX7_countSame_70 g14 flX7_89 rfl rfl ?_
    refine J_iload dX7_countSame_73 rfl ?_
    obtain ⟨t16, e15, H⟩ := bd H
    refine J_cS (as := [.ref (gP h12 v0 18), .int t8, .ref (gP h12 v0 19), .int t13]) YX8_sameBytes 4 dX7_countSame_75 moX8_sameBytes msX8_sameBytes mlX7_374 (okX8_sameBytes (d := d + 1) e15) rfl rfl [] rfl rfl (st2 := [.int t16]) rfl ?_
    refine J_if_ne 84 dX7_countSame_78 rfl (fun q17 => ?_) (fun q17 => ?_)
    · replace H := br0 q17 H
      refine J_iinc (v5 + (1 : Int32)) dX7_countSame_84 rfl (congrArg (HAdd.hAdd v5) kc_1) (by decide) (ls' := [.ref v0, .ref v1, .ref v2, Value.null, .int v4, .int (v5 + (1 : Int32)), .int t8, .int t13]) rfl ?_
      refine J_goto 18 dX7_countSame_87 rfl ?_
      cases H
      exact J_dr (hb0 _ rfl) ⟨rfl, ⟨rfl, ⟨rfl, ⟨rfl, ⟨rfl, trivial⟩⟩⟩⟩⟩
    · replace H := br1 q17 H
      refine J_iload dX7_countSame_81 rfl ?_
      cases H
      cases hx _ rfl
      exact J_iretI dX7_countSame_83 rfl
noncomputable def MX7_countSame_18 (h : Hp) (v0 : Nat) (v1 : Nat) (v2 : Nat) (v4 : Int32) (v5 : Int32) : Option (Int32 × Hp) := it (fun q : Int32 × Hp => BX7_countSame_18 q.2 v0 v1 v2 v4 q.1) (v5, h)
set_option maxRecDepth 100000 in
set_option maxHeartbeats 8000000 in
theorem kX7_countSame_18 {d : Nat} {h : Hp} {v0 : Nat} {v1 : Nat} {v2 : Nat} {v4 : Int32} {v5 : Int32} {r : Int32} {h9 : Hp} (H : MX7_countSame_18 h v0 v1 v2 v4 v5 = some (r, h9)) : J (d + 2) YX7_countSame 18 [.ref v0, .ref v1, .ref v2, Value.null, .int v4, .int v5, Value.null, Value.null] [] h (oI r) h9 := by
  unfold MX7_countSame_18 at H
  refine it_J (G := (fun q : Int32 × Hp => J (d + 2) YX7_countSame 18 [.ref v0, .ref v1, .ref v2, Value.null, .int v4, .int q.1, Value.null, Value.null] [] q.2 (oI r) h9)) (Q := (fun y : (Int32 × Hp) => y = (r, h9))) (fun q x Hq hm => ?_) H rfl
  exact bX7_countSame_18 Hq (fun s hs => by subst hs; exact hm) (fun z hz => by subst hz; exact hm)
noncomputable def MX7_countSame (h : Hp) (v0 : Nat) (v1 : Nat) (v2 : Nat) (v3 : Int32) : Option (Int32 × Hp) :=
  gg (β := (Int32 × Hp)) (kd h v1 = 4) <|
  gg (β := (Int32 × Hp)) (kd h v2 = 4) <|
  MX7_countSame_18 h v0 v1 v2 ((jmin (gI h v1 9) (gI h v2 9)) - v3) (0 : Int32)
set_option maxRecDepth 100000 in
set_option maxHeartbeats 8000000 in
theorem eX7_countSame {d : Nat} {h : Hp} {v0 : Nat} {v1 : Nat} {v2 : Nat} {v3 : Int32} {r : Int32} {h9 : Hp} (H : MX7_countSame h v0 v1 v2 v3 = some (r, h9)) : J (d + 2) YX7_countSame 0 [.ref v0, .ref v1, .ref v2, .int v3, Value.null, Value.null, Value.null, Value.null] [] h (oI r) h9 := by
  unfold MX7_countSame at H
  refine J_aload_n 1 dX7_countSame_0 rfl rfl ?_
  obtain ⟨g1, H⟩ := gd H
  refine J_getI 4 9 dX7_countSame_1 g1 flX7_225 rfl ?_
  refine J_aload_n 2 dX7_countSame_4 rfl rfl ?_
  obtain ⟨g2, H⟩ := gd H
  refine J_getI 4 9 dX7_countSame_5 g2 flX7_225 rfl ?_
  refine J_mn dX7_countSame_8 mlX7_371 rfl ?_
  refine J_iload_n 3 dX7_countSame_11 rfl rfl ?_
  refine J_isub dX7_countSame_12 ?_
  refine J_istore dX7_countSame_13 (by decide) (ls' := [.ref v0, .ref v1, .ref v2, .int v3, .int ((jmin (gI h v1 9) (gI h v2 9)) - v3), Value.null, Value.null, Value.null]) rfl ?_
  refine J_iconst (0 : Int32) dX7_countSame_15 kc_0 ?_
  refine J_istore dX7_countSame_16 (by decide) (ls' := [.ref v0, .ref v1, .ref v2, .int v3, .int ((jmin (gI h v1 9) (gI h v2 9)) - v3), .int (0 : Int32), Value.null, Value.null]) rfl ?_
  exact J_dr (kX7_countSame_18 H ) ⟨rfl, ⟨rfl, ⟨rfl, ⟨rfl, ⟨rfl, trivial⟩⟩⟩⟩⟩
theorem okX7_countSame {d : Nat} {h : Hp} {v0 : Nat} {v1 : Nat} {v2 : Nat} {v3 : Int32} {r : Int32} {h9 : Hp} (H : MX7_countSame h v0 v1 v2 v3 = some (r, h9)) : CT (d + 2) YX7_countSame [.ref v0, .ref v1, .ref v2, .int v3] h (oI r) h9 := CT_of (by decide +kernel) (Nat.le_of_ble_eq_true rfl) (eX7_countSame H)
noncomputable def BX7_movePlaces_31 (h : Hp) (v0 : Nat) (v1 : Nat) (v2 : Nat) (v4 : Int32) (v5 : Int32) : Option ((Int32 × Hp) ⊕ Hp) :=
  if v4 < v5 then
    some (.inr (h))
  else
    gg (β := ((Int32 × Hp) ⊕ Hp)) (kd h v2 = 4) <|
    gg (β := ((Int32 × Hp) ⊕ Hp)) (kd h v1 = 4) <|
    gg (β := ((Int32 × Hp) ⊕ Hp)) (kd h (gP h v1 4) = 20) <|
    gg (β := ((Int32 × Hp) ⊕ Hp)) (inB ((gI h v1 9) - v5) (ln h (gP h v1 4)) = true) <|
    gg (β := ((Int32 × Hp) ⊕ Hp)) (kd h v0 = 6) <|
    Option.bind (α := Nat) (β := ((Int32 × Hp) ⊕ Hp)) (MX7_findSlug h v0 (gI h (gP h v1 4) ((gI h v1 9) - v5).toNatClampNeg)) fun (t10 : Nat) =>
    if t10 = 0 then
      some (.inl ((v5 + (1 : Int32)), h))
    else
      gg (β := ((Int32 × Hp) ⊕ Hp)) (kd h t10 = 7) <|
      lt (α := Hp) (β := Option ((Int32 × Hp) ⊕ Hp)) (sI h t10 11 ((gI h v2 9) - v5)) fun (h13 : Hp) =>
      gg (β := ((Int32 × Hp) ⊕ Hp)) (inB ((gI h13 v1 9) - v5) (ln h (gP h v1 4)) = true) <|
      gg (β := ((Int32 × Hp) ⊕ Hp)) (kd h (gP h v2 4) = 20) <|
      gg (β := ((Int32 × Hp) ⊕ Hp)) (inB ((gI h v2 9) - v5) (ln h (gP h v2 4)) = true) <|
      lt (α := Hp) (β := Option ((Int32 × Hp) ⊕ Hp)) (sI h13 (gP h v2 4) ((gI h v2 9) - v5).toNatClampNeg (gI h13 (gP h v1 4) ((gI h13 v1 9) - v5).toNatClampNeg)) fun (h21 : Hp) =>
      some (.inl ((v5 + (1 : Int32)), h21))
set_option maxRecDepth 100000 in
set_option maxHeartbeats 8000000 in
theorem bX7_movePlaces_31 {d : Nat} {h : Hp} {v0 : Nat} {v1 : Nat} {v2 : Nat} {v4 : Int32} {v5 : Int32} {h9 : Hp} {x : ((Int32 × Hp) ⊕ Hp)} (H : BX7_movePlaces_31 h v0 v1 v2 v4 v5 = some x) (hb0 : ∀ s : Int32 × Hp, x = .inl s → J (d + 3) YX7_movePlaces 31 [.ref v0, .ref v1, .ref v2, Value.null, .int v4, .int s.1, Value.null, Value.null] [] s.2 oV h9) (hx : ∀ z : Hp, x = .inr (z) → z = h9) : J (d + 3) YX7_movePlaces 31 [.ref v0, .ref v1, .ref v2, Value.null, .int v4, .int v5, Value.null, Value.null] [] h oV h9 := by
  unfold BX7_movePlaces_31 at H
  refine J_iload dX7_movePlaces_31 rfl ?_
  refine J_iload dX7_movePlaces_33 rfl ?_
  refine J_icmp_gt 102 dX7_movePlaces_35 rfl (fun q3 => ?_) (fun q3 => ?_)
  · replace H := br1 q3 H
    cases H
    cases hx _ rfl
    exact J_ret dX7_movePlaces_102 rfl
  · replace H := br0 q3 H
    refine J_aload_n 2 dX7_movePlaces_38 rfl rfl ?_
    obtain ⟨g4, H⟩ := gd H
    refine J_getI 4 9 dX7_movePlaces_39 g4 flX7_225 rfl ?_
    refine J_iload dX7_movePlaces_42 rfl ?_
    refine J_isub dX7_movePlaces_44 ?_
    refine J_istore dX7_movePlaces_45 (by decide) (ls' := [.ref v0, .ref v1, .ref v2, Value.null, .int v4, .int v5, .int ((gI h v2 9) - v5), Value.null]) rfl ?_
    refine J_aload_n 0 dX7_movePlaces_47 rfl rfl ?_
    refine J_aload_n 1 dX7_movePlaces_48 rfl rfl ?_
    obtain ⟨g5, H⟩ := gd H
    refine J_gP 4 4 dX7_movePlaces_49 g5 flX7_327 rfl rfl ?_
    refine J_aload_n 1 dX7_movePlaces_52 rfl rfl ?_
    refine J_getI 4 9 dX7_movePlaces_53 g5 flX7_225 rfl ?_
    refine J_iload dX7_movePlaces_56 rfl ?_
    refine J_isub dX7_movePlaces_58 ?_
    obtain ⟨g6, H⟩ := gd H
    obtain ⟨g7, H⟩ := gd H
    refine J_iald dX7_movePlaces_59 g6 (inB_ok g7) ?_
    obtain ⟨g9, H⟩ := gd H
    obtain ⟨t10, e8, H⟩ := bd H
    refine J_cV (as := [.int (gI h (gP h v1 4) ((gI h v1 9) - v5).toNatClampNeg)]) 6 YX7_findSlug 1 dX7_movePlaces_60 moX7_findSlug mvX7_findSlug mlX7_315 g9 rfl rfl (okX7_findSlug (d := d + 2) e8) rfl rfl [] rfl rfl (st2 := [.ref t10]) rfl ?_
    refine J_astore dX7_movePlaces_63 (by decide) (ls' := [.ref v0, .ref v1, .ref v2, Value.null, .int v4, .int v5, .int ((gI h v2 9) - v5), .ref t10]) rfl ?_
    refine J_aload dX7_movePlaces_65 rfl ?_
    refine J_ifnull 96 dX7_movePlaces_67 rfl (fun q11 => ?_) (fun q11 => ?_)
    · replace H := br1 q11 H
      refine J_iinc (v5 + (1 : Int32)) dX7_movePlaces_96 rfl (congrArg (HAdd.hAdd v5) kc_1) (by decide) (ls' := [.ref v0, .ref v1, .ref v2, Value.null, .int v4, .int (v5 + (1 : Int32)), .int ((gI h v2 9) - v5), .ref t10]) rfl ?_
      refine J_goto 31 dX7_movePlaces_99 rfl ?_
      cases H
      exact J_dr (hb0 _ rfl) ⟨rfl, ⟨rfl, ⟨rfl, ⟨rfl, ⟨rfl, trivial⟩⟩⟩⟩⟩
    · replace H := br0 q11 H
      refine J_aload dX7_movePlaces_70 rfl ?_
      refine J_iload dX7_movePlaces_72 rfl ?_
      obtain ⟨g12, H⟩ := gd H
      obtain ⟨h13, e14, H⟩ := lt_el H
      refine J_pI 7 11 dX7_movePlaces_74 g12 flX7_324 rfl rfl e14 ?_
      have c15 := ekI e14
      have c16 := elI e14
      have c17 := epI e14
      refine J_aload_n 2 dX7_movePlaces_77 rfl rfl ?_
      refine J_gP 4 4 dX7_movePlaces_78 (kq c15 g4) flX7_327 rfl (congrFun (congrFun c17 v2) 4) ?_
      refine J_iload dX7_movePlaces_81 rfl ?_
      refine J_aload_n 1 dX7_movePlaces_83 rfl rfl ?_
      refine J_gP 4 4 dX7_movePlaces_84 (kq c15 g5) flX7_327 rfl (congrFun (congrFun c17 v1) 4) ?_
      refine J_aload_n 1 dX7_movePlaces_87 rfl rfl ?_
      refine J_getI 4 9 dX7_movePlaces_88 (kq c15 g5) flX7_225 rfl ?_
      refine J_iload dX7_movePlaces_91 rfl ?_
      refine J_isub dX7_movePlaces_93 ?_
      obtain ⟨g18, H⟩ := gd H
      refine J_iald dX7_movePlaces_94 (kq c15 g6) (lq c16 g18) ?_
      obtain ⟨g19, H⟩ := gd H
      obtain ⟨g20, H⟩ := gd H
      obtain ⟨h21, e22, H⟩ := lt_el H
      refine J_sI dX7_movePlaces_95 (kq c15 g19) (lq c16 g20) e22 ?_
      have c23 := (ekI e22).trans c15
      have c24 := (elI e22).trans c16
      have c25 := (epI e22).trans c17
      refine J_iinc (v5 + (1 : Int32)) dX7_movePlaces_96 rfl (congrArg (HAdd.hAdd v5) kc_1) (by decide) (ls' := [.ref v0, .ref v1, .ref v2, Value.null, .int v4, .int (v5 + (1 : Int32)), .int ((gI h v2 9) - v5), .ref t10]) rfl ?_
      refine J_goto 31 dX7_movePlaces_99 rfl ?_
      cases H
      exact J_dr (hb0 _ rfl) ⟨rfl, ⟨rfl, ⟨rfl, ⟨rfl, ⟨rfl, trivial⟩⟩⟩⟩⟩
noncomputable def MX7_movePlaces_31 (h : Hp) (v0 : Nat) (v1 : Nat) (v2 : Nat) (v4 : Int32) (v5 : Int32) : Option Hp := it (fun q : Int32 × Hp => BX7_movePlaces_31 q.2 v0 v1 v2 v4 q.1) (v5, h)
set_option maxRecDepth 100000 in
set_option maxHeartbeats 8000000 in
theorem kX7_movePlaces_31 {d : Nat} {h : Hp} {v0 : Nat} {v1 : Nat} {v2 : Nat} {v4 : Int32} {v5 : Int32} {h9 : Hp} (H : MX7_movePlaces_31 h v0 v1 v2 v4 v5 = some h9) : J (d + 3) YX7_movePlaces 31 [.ref v0, .ref v1, .ref v2, Value.null, .int v4, .int v5, Value.null, Value.null] [] h oV h9 := by
  unfold MX7_movePlaces_31 at H
  refine it_J (G := (fun q : Int32 × Hp => J (d + 3) YX7_movePlaces 31 [.ref v0, .ref v1, .ref v2, Value.null, .int v4, .int q.1, Value.null, Value.null] [] q.2 oV h9)) (Q := (fun y : Hp => y = h9)) (fun q x Hq hm => ?_) H rfl
  exact bX7_movePlaces_31 Hq (fun s hs => by subst hs; exact hm) (fun z hz => by subst hz; exact hm)
noncomputable def MX7_movePlaces_28 (h : Hp) (v0 : Nat) (v1 : Nat) (v2 : Nat) (v4 : Int32) : Option Hp :=
  MX7_movePlaces_31 h v0 v1 v2 v4 (1 : Int32)
set_option maxRecDepth 100000 in
set_option maxHeartbeats 8000000 in
theorem kX7_movePlaces_28 {d : Nat} {h : Hp} {v0 : Nat} {v1 : Nat} {v2 : Nat} {v4 : Int32} {h9 : Hp} (H : MX7_movePlaces_28 h v0 v1 v2 v4 = some h9) : J (d + 3) YX7_movePlaces 28 [.ref v0, .ref v1, .ref v2, Value.null, .int v4, Value.null, Value.null, Value.null] [] h oV h9 := by
  unfold MX7_movePlaces_28 at H
  refine J_iconst (1 : Int32) dX7_movePlaces_28 kc_1 ?_
  refine J_istore dX7_movePlaces_29 (by decide) (ls' := [.ref v0, .ref v1, .ref v2, Value.null, .int v4, .int (1 : Int32), Value.null, Value.null]) rfl ?_
  exact J_dr (kX7_movePlaces_31 H ) ⟨rfl, ⟨rfl, ⟨rfl, ⟨rfl, ⟨rfl, trivial⟩⟩⟩⟩⟩
noncomputable def BX7_movePlaces_3 (h : Hp) (v0 : Nat) (v1 : Nat) (v2 : Nat) (v4 : Int32) (v5 : Int32) : Option ((Int32 × Hp) ⊕ Hp) :=
  gg (β := ((Int32 × Hp) ⊕ Hp)) (kd h v1 = 4) <|
  if ((gI h v1 9) - v4) ≤ v5 then
    up1 (MX7_movePlaces_28 h v0 v1 v2 v4)
  else
    gg (β := ((Int32 × Hp) ⊕ Hp)) (kd h v0 = 6) <|
    Option.bind (α := Hp) (β := ((Int32 × Hp) ⊕ Hp)) (MX7_takeAwayAt h v0 v1 v5) fun (h28 : Hp) =>
    some (.inl ((v5 + (1 : Int32)), h28))
set_option maxRecDepth 100000 in
set_option maxHeartbeats 8000000 in
theorem bX7_movePlaces_3 {d : Nat} {h : Hp} {v0 : Nat} {v1 : Nat} {v2 : Nat} {v4 : Int32} {v5 : Int32} {h9 : Hp} {x : ((Int32 × Hp) ⊕ Hp)} (H : BX7_movePlaces_3 h v0 v1 v2 v4 v5 = some x) (hb0 : ∀ s : Int32 × Hp, x = .inl s → J (d + 3) YX7_movePlaces 3 [.ref v0, .ref v1, .ref v2, Value.null, .int v4, .int s.1, Value.null, Value.null] [] s.2 oV h9) (hx : ∀ z : Hp, x = .inr (z) → z = h9) : J (d + 3) YX7_movePlaces 3 [.ref v0, .ref v1, .ref v2, Value.null, .int v4, .int v5, Value.null, Value.null] [] h oV h9 := by
  unfold BX7_movePlaces_3 at H
  refine J_iload dX7_movePlaces_3 rfl ?_
  refine J_aload_n 1 dX7_movePlaces_5 rfl rfl ?_
  obtain ⟨g1, H⟩ := gd H
  refine J_getI 4 9 dX7_movePlaces_6 g1 flX7_225 rfl ?_
  refine J_iload dX7_movePlaces_9 rfl ?_
  refine J_isub dX7_movePlaces_11 ?_
  refine J_icmp_ge 28 dX7_movePlaces_12 rfl (fun q2 => ?_) (fun q2 => ?_)
  · replace H := br1 q2 H
    obtain ⟨y0, H90, rfl⟩ := up1_el H
    replace H := H90
    obtain rfl := hx _ rfl
    exact J_dr (kX7_movePlaces_28 H ) ⟨rfl, ⟨rfl, ⟨rfl, ⟨rfl, trivial⟩⟩⟩⟩
  · replace H := br0 q2 H
    refine J_aload_n 0 dX7_movePlaces_15 rfl rfl ?_
    refine J_aload_n 1 dX7_movePlaces_16 rfl rfl ?_
    refine J_iload dX7_movePlaces_17 rfl ?_
    obtain ⟨g27, H⟩ := gd H
    obtain ⟨h28, e26, H⟩ := bd H
    refine J_cV (as := [.ref v1, .int v5]) 6 YX7_takeAwayAt 2 dX7_movePlaces_19 moX7_takeAwayAt mvX7_takeAwayAt mlX7_303 g27 rfl rfl (okX7_takeAwayAt (d := d) e26) rfl rfl [] rfl rfl (st2 := []) rfl ?_
    refine J_iinc (v5 + (1 : Int32)) dX7_movePlaces_22 rfl (congrArg (HAdd.hAdd v5) kc_1) (by decide) (ls' := [.ref v0, .ref v1, .ref v2, Value.null, .int v4, .int (v5 + (1 : Int32)), Value.null, Value.null]) rfl ?_
    refine J_goto 3 dX7_movePlaces_25 rfl ?_
    cases H
    exact J_dr (hb0 _ rfl) ⟨rfl, ⟨rfl, ⟨rfl, ⟨rfl, ⟨rfl, trivial⟩⟩⟩⟩⟩
noncomputable def MX7_movePlaces_3 (h : Hp) (v0 : Nat) (v1 : Nat) (v2 : Nat) (v4 : Int32) (v5 : Int32) : Option Hp := it (fun q : Int32 × Hp => BX7_movePlaces_3 q.2 v0 v1 v2 v4 q.1) (v5, h)
set_option maxRecDepth 100000 in
set_option maxHeartbeats 8000000 in
theorem kX7_movePlaces_3 {d : Nat} {h : Hp} {v0 : Nat} {v1 : Nat} {v2 : Nat} {v4 : Int32} {v5 : Int32} {h9 : Hp} (H : MX7_movePlaces_3 h v0 v1 v2 v4 v5 = some h9) : J (d + 3) YX7_movePlaces 3 [.ref v0, .ref v1, .ref v2, Value.null, .int v4, .int v5, Value.null, Value.null] [] h oV h9 := by
  unfold MX7_movePlaces_3 at H
  refine it_J (G := (fun q : Int32 × Hp => J (d + 3) YX7_movePlaces 3 [.ref v0, .ref v1, .ref v2, Value.null, .int v4, .int q.1, Value.null, Value.null] [] q.2 oV h9)) (Q := (fun y : Hp => y = h9)) (fun q x Hq hm => ?_) H rfl
  exact bX7_movePlaces_3 Hq (fun s hs => by subst hs; exact hm) (fun z hz => by subst hz; exact hm)
noncomputable def MX7_movePlaces (h : Hp) (v0 : Nat) (v1 : Nat) (v2 : Nat) (v3 : Int32) (v4 : Int32) : Option Hp :=
  MX7_movePlaces_3 h v0 v1 v2 v4 v3
set_option maxRecDepth 100000 in
set_option maxHeartbeats 8000000 in
theorem eX7_movePlaces {d : Nat} {h : Hp} {v0 : Nat} {v1 : Nat} {v2 : Nat} {v3 : Int32} {v4 : Int32} {h9 : Hp} (H : MX7_movePlaces h v0 v1 v2 v3 v4 = some h9) : J (d + 3) YX7_movePlaces 0 [.ref v0, .ref v1, .ref v2, .int v3, .int v4, Value.null, Value.null, Value.null] [] h oV h9 := by
  unfold MX7_movePlaces at H
  refine J_iload_n 3 dX7_movePlaces_0 rfl rfl ?_
  refine J_istore dX7_movePlaces_1 (by decide) (ls' := [.ref v0, .ref v1, .ref v2, .int v3, .int v4, .int v3, Value.null, Value.null]) rfl ?_
  exact J_dr (kX7_movePlaces_3 H ) ⟨rfl, ⟨rfl, ⟨rfl, ⟨rfl, ⟨rfl, trivial⟩⟩⟩⟩⟩
theorem okX7_movePlaces {d : Nat} {h : Hp} {v0 : Nat} {v1 : Nat} {v2 : Nat} {v3 : Int32} {v4 : Int32} {h9 : Hp} (H : MX7_movePlaces h v0 v1 v2 v3 v4 = some h9) : CT (d + 3) YX7_movePlaces [.ref v0, .ref v1, .ref v2, .int v3, .int v4] h oV h9 := CT_of (by decide +kernel) (Nat.le_of_ble_eq_true rfl) (eX7_movePlaces H)
noncomputable def MX7_correctWith_152 (h : Hp) (v6 : Int32) (v9 : Int32) : Option (Int32 × Hp) :=
  some ((v9 - v6), h)
set_option maxRecDepth 100000 in
set_option maxHeartbeats 8000000 in
theorem kX7_correctWith_152 {d : Nat} {h : Hp} {v6 : Int32} {v9 : Int32} {r : Int32} {h9 : Hp} (H : MX7_correctWith_152 h v6 v9 = some (r, h9)) : J (d + 4) YX7_correctWith 152 [Value.null, Value.null, Value.null, Value.null, Value.null, Value.null, .int v6, Value.null, Value.null, .int v9] [] h (oI r) h9 := by
  unfold MX7_correctWith_152 at H
  refine J_iload dX7_correctWith_152 rfl ?_
  refine J_iload dX7_correctWith_154 rfl ?_
  refine J_isub dX7_correctWith_156 ?_
  cases H
  exact J_iretI dX7_correctWith_157 rfl
noncomputable def MX7_correctWith (h : Hp) (v0 : Nat) (v1 : Int32) (v2 : Int32) (v3 : Nat) (v4 : Nat) : Option (Int32 × Hp) :=
  gg (β := (Int32 × Hp)) (kd h v0 = 6) <|
  Option.bind (α := Nat) (β := (Int32 × Hp)) (MX7_findPart h v0 v1) fun (t3 : Nat) =>
  if t3 = 0 then
    some ((-1 : Int32), h)
  else
    gg (β := (Int32 × Hp)) (kd h t3 = 4) <|
    if (gI h t3 11) = 0 then
      Option.bind (α := Hp) (β := (Int32 × Hp)) (MX5_takeCopy h t3 v3) fun (h47 : Hp) =>
      some ((0 : Int32), h47)
    else
      Option.bind (α := Int32) (β := (Int32 × Hp)) (MX5_firstBit h t3 v2) fun (t8 : Int32) =>
      Option.bind (α := Int32) (β := (Int32 × Hp)) (MX5_lineOf h t3 t8) fun (t10 : Int32) =>
      Option.bind (α := Int32) (β := (Int32 × Hp)) (MX5_firstBitOfLine h t3 t10) fun (t12 : Int32) =>
      b2 (α := Nat) (β := Hp) (γ := (Int32 × Hp)) (MX7_breakerFor h v0 v3 (gI h v0 0)) fun (t15 : Nat) (h14 : Hp) =>
      gg (β := (Int32 × Hp)) (kd h14 t15 = 0) <|
      b2 (α := Int32) (β := Hp) (γ := (Int32 × Hp)) (MX0_solve h14 t15 t12) fun (t19 : Int32) (h18 : Hp) =>
      if t19 = (-1 : Int32) then
        some ((-1 : Int32), h18)
      else
        gg (β := (Int32 × Hp)) (kd h18 v3 = 4) <|
        Option.bind (α := Hp) (β := (Int32 × Hp)) (MX5_takeLines h18 v3 t3) fun (h23 : Hp) =>
        gg (β := (Int32 × Hp)) (kd h23 v0 = 6) <|
        gg (β := (Int32 × Hp)) (kd h23 (gP h23 v0 14) = 0) <|
        Option.bind (α := Hp) (β := (Int32 × Hp)) (MX0_putLines h23 (gP h23 v0 14) v3 t10 t12) fun (h27 : Hp) =>
        gg (β := (Int32 × Hp)) (kd h27 v0 = 6) <|
        b2 (α := Int32) (β := Hp) (γ := (Int32 × Hp)) (MX7_countSame h27 v0 t3 v3 t10) fun (t31 : Int32) (h30 : Hp) =>
        gg (β := (Int32 × Hp)) (kd h30 v0 = 6) <|
        Option.bind (α := Hp) (β := (Int32 × Hp)) (MX7_movePlaces h30 v0 t3 v3 t10 t31) fun (h34 : Hp) =>
        gg (β := (Int32 × Hp)) (kd h34 t3 = 4) <|
        Option.bind (α := Hp) (β := (Int32 × Hp)) (MX5_takeCopy h34 t3 v3) fun (h37 : Hp) =>
        gg (β := (Int32 × Hp)) (kd h37 t3 = 4) <|
        Option.bind (α := Hp) (β := (Int32 × Hp)) (MX5_takeLines h37 t3 v3) fun (h40 : Hp) =>
        gg (β := (Int32 × Hp)) (kd h40 t3 = 4) <|
        if ((gI h40 t3 9) - t31) ≤ t10 then
          MX7_correctWith_152 h40 t10 ((gI h40 t3 9) - t31)
        else
          gg (β := (Int32 × Hp)) (kd h40 v4 = 3) <|
          Option.bind (α := Hp) (β := (Int32 × Hp)) (MX4_addJob h40 v4 v1 t10 ((gI h40 t3 9) - t31) (1 : Int32)) fun (h45 : Hp) =>
          MX7_correctWith_152 h45 t10 ((gI h40 t3 9) - t31)
set_option maxRecDepth 100000 in
set_option maxHeartbeats 8000000 in
theorem eX7_correctWith {d : Nat} {h : Hp} {v0 : Nat} {v1 : Int32} {v2 : Int32} {v3 : Nat} {v4 : Nat} {r : Int32} {h9 : Hp} (H : MX7_correctWith h v0 v1 v2 v3 v4 = some (r, h9)) : J (d + 4) YX7_correctWith 0 [.ref v0, .int v1, .int v2, .ref v3, .ref v4, Value.null, Value.null, Value.null, Value.null, Value.null] [] h (oI r) h9 := by
  unfold MX7_correctWith at H
  refine J_aload_n 0 dX7_correctWith_0 rfl rfl ?_
  refine J_iload_n 1 dX7_correctWith_1 rfl rfl ?_
  obtain ⟨g2, H⟩ := gd H
  obtain ⟨t3, e1, H⟩ := bd H
  refine J_cV (as := [.int v1]) 6 YX7_findPart 1 dX7_correctWith_2 moX7_findPart mvX7_findPart mlX7_120 g2 rfl rfl (okX7_findPart (d := d + 3) e1) rfl rfl [] rfl rfl (st2 := [.ref t3]) rfl ?_
  refine J_astore dX7_correctWith_5 (by decide) (ls' := [.ref v0, .int v1, .int v2, .ref v3, .ref v4, .ref t3, Value.null, Value.null, Value.null, Value.null]) rfl ?_
  refine J_aload dX7_correctWith_7 rfl ?_
  refine J_ifnonnull 14 dX7_correctWith_9 rfl (fun q4 => ?_) (fun q4 => ?_)
  · replace H := br0 q4 H
    refine J_aload dX7_correctWith_14 rfl ?_
    obtain ⟨g5, H⟩ := gd H
    refine J_getI 4 11 dX7_correctWith_16 g5 flX7_212 rfl ?_
    refine J_if_ne 30 dX7_correctWith_19 rfl (fun q6 => ?_) (fun q6 => ?_)
    · replace H := br0 q6 H
      refine J_aload dX7_correctWith_30 rfl ?_
      refine J_aload dX7_correctWith_32 rfl ?_
      refine J_iload_n 2 dX7_correctWith_34 rfl rfl ?_
      obtain ⟨t8, e7, H⟩ := bd H
      refine J_cV (as := [.int v2]) 4 YX5_firstBit 1 dX7_correctWith_35 moX5_firstBit mvX5_firstBit mlX7_347 g5 rfl rfl (okX5_firstBit (d := d + 3) e7) rfl rfl [.ref t3] rfl rfl (st2 := [.int t8, .ref t3]) rfl ?_
      obtain ⟨t10, e9, H⟩ := bd H
      refine J_cV (as := [.int t8]) 4 YX5_lineOf 1 dX7_correctWith_38 moX5_lineOf mvX5_lineOf mlX7_350 g5 rfl rfl (okX5_lineOf (d := d + 3) e9) rfl rfl [] rfl rfl (st2 := [.int t10]) rfl ?_
      refine J_istore dX7_correctWith_41 (by decide) (ls' := [.ref v0, .int v1, .int v2, .ref v3, .ref v4, .ref t3, .int t10, Value.null, Value.null, Value.null]) rfl ?_
      refine J_aload dX7_correctWith_43 rfl ?_
      refine J_iload dX7_correctWith_45 rfl ?_
      obtain ⟨t12, e11, H⟩ := bd H
      refine J_cV (as := [.int t10]) 4 YX5_firstBitOfLine 1 dX7_correctWith_47 moX5_firstBitOfLine mvX5_firstBitOfLine mlX7_353 g5 rfl rfl (okX5_firstBitOfLine (d := d + 3) e11) rfl rfl [] rfl rfl (st2 := [.int t12]) rfl ?_
      refine J_istore dX7_correctWith_50 (by decide) (ls' := [.ref v0, .int v1, .int v2, .ref v3, .ref v4, .ref t3, .int t10, .int t12, Value.null, Value.null]) rfl ?_
      refine J_aload_n 0 dX7_correctWith_52 rfl rfl ?_
      refine J_aload_n 3 dX7_correctWith_53 rfl rfl ?_
      refine J_aload_n 0 dX7_correctWith_54 rfl rfl ?_
      refine J_getI 6 0 dX7_correctWith_55 g2 flX7_9 rfl ?_
      obtain ⟨t15, h14, e13, H⟩ := b2_el H
      refine J_cV (as := [.ref v3, .int (gI h v0 0)]) 6 YX7_breakerFor 2 dX7_correctWith_58 moX7_breakerFor mvX7_breakerFor mlX7_256 g2 rfl rfl (okX7_breakerFor (d := d) e13) rfl rfl [] rfl rfl (st2 := [.ref t15]) rfl ?_
      refine J_iload dX7_correctWith_61 rfl ?_
      obtain ⟨g17, H⟩ := gd H
      obtain ⟨t19, h18, e16, H⟩ := b2_el H
      refine J_cV (as := [.int t12]) 0 YX0_solve 1 dX7_correctWith_63 moX0_solve mvX0_solve mlX7_260 g17 rfl rfl (okX0_solve (d := d) e16) rfl rfl [] rfl rfl (st2 := [.int t19]) rfl ?_
      refine J_iconst (-1 : Int32) dX7_correctWith_66 kc_m1 ?_
      refine J_icmp_ne 72 dX7_correctWith_67 rfl (fun q20 => ?_) (fun q20 => ?_)
      · replace H := br0 q20 H
        refine J_aload_n 3 dX7_correctWith_72 rfl rfl ?_
        refine J_aload dX7_correctWith_73 rfl ?_
        obtain ⟨g22, H⟩ := gd H
        obtain ⟨h23, e21, H⟩ := bd H
        refine J_cV (as := [.ref t3]) 4 YX5_takeLines 1 dX7_correctWith_75 moX5_takeLines mvX5_takeLines mlX7_356 g22 rfl rfl (okX5_takeLines (d := d + 3) e21) rfl rfl [] rfl rfl (st2 := []) rfl ?_
        refine J_aload_n 0 dX7_correctWith_78 rfl rfl ?_
        obtain ⟨g24, H⟩ := gd H
        refine J_gP 6 14 dX7_correctWith_79 g24 flX7_72 rfl rfl ?_
        refine J_aload_n 3 dX7_correctWith_82 rfl rfl ?_
        refine J_iload dX7_correctWith_83 rfl ?_
        refine J_iload dX7_correctWith_85 rfl ?_
        obtain ⟨g26, H⟩ := gd H
        obtain ⟨h27, e25, H⟩ := bd H
        refine J_cV (as := [.ref v3, .int t10, .int t12]) 0 YX0_putLines 3 dX7_correctWith_87 moX0_putLines mvX0_putLines mlX7_263 g26 rfl rfl (okX0_putLines (d := d + 3) e25) rfl rfl [] rfl rfl (st2 := []) rfl ?_
        refine J_aload_n 0 dX7_correctWith_90 rfl rfl ?_
        refine J_aload dX7_correctWith_91 rfl ?_
        refine J_aload_n 3 dX7_correctWith_93 rfl rfl ?_
        refine J_iload dX7_correctWith_94 rfl ?_
        obtain ⟨g29, H⟩ := gd H
        obtain ⟨t31, h30, e28, H⟩ := b2_el H
        refine J_cV (as := [.ref t3, .ref v3, .int t10]) 6 YX7_countSame 3 dX7_correctWith_96 moX7_countSame mvX7_countSame mlX7_359 g29 rfl rfl (okX7_countSame (d := d + 1) e28) rfl rfl [] rfl rfl (st2 := [.int t31]) rfl ?_
        refine J_istore dX7_correctWith_99 (by decide) (ls' := [.ref v0, .int v1, .int v2, .ref v3, .ref v4, .ref t3, .int t10, .int t12, .int t31, Value.null]) rfl ?_
        refine J_aload_n 0 dX7_correctWith_101 rfl rfl ?_
        refine J_aload dX7_correctWith_102 rfl ?_
        refine J_aload_n 3 dX7_correctWith_104 rfl rfl ?_
        refine J_iload dX7_correctWith_105 rfl ?_
        refine J_iload dX7_correctWith_107 rfl ?_
        obtain ⟨g33, H⟩ := gd H
        obtain ⟨h34, e32, H⟩ := bd H
        refine J_cV (as := [.ref t3, .ref v3, .int t10, .int t31]) 6 YX7_movePlaces 4 dX7_correctWith_109 moX7_movePlaces mvX7_movePlaces mlX7_363 g33 rfl rfl (okX7_movePlaces (d := d) e32) rfl rfl [] rfl rfl (st2 := []) rfl ?_
        refine J_aload dX7_correctWith_112 rfl ?_
        refine J_aload_n 3 dX7_correctWith_114 rfl rfl ?_
        obtain ⟨g36, H⟩ := gd H
        obtain ⟨h37, e35, H⟩ := bd H
        refine J_cV (as := [.ref v3]) 4 YX5_takeCopy 1 dX7_correctWith_115 moX5_takeCopy mvX5_takeCopy mlX7_344 g36 rfl rfl (okX5_takeCopy (d := d + 2) e35) rfl rfl [] rfl rfl (st2 := []) rfl ?_
        refine J_aload dX7_correctWith_118 rfl ?_
        refine J_aload_n 3 dX7_correctWith_120 rfl rfl ?_
        obtain ⟨g39, H⟩ := gd H
        obtain ⟨h40, e38, H⟩ := bd H
        refine J_cV (as := [.ref v3]) 4 YX5_takeLines 1 dX7_correctWith_121 moX5_takeLines mvX5_takeLines mlX7_356 g39 rfl rfl (okX5_takeLines (d := d + 3) e38) rfl rfl [] rfl rfl (st2 := []) rfl ?_
        refine J_aload dX7_correctWith_124 rfl ?_
        obtain ⟨g41, H⟩ := gd H
        refine J_getI 4 9 dX7_correctWith_126 g41 flX7_225 rfl ?_
        refine J_iload dX7_correctWith_129 rfl ?_
        refine J_isub dX7_correctWith_131 ?_
        refine J_istore dX7_correctWith_132 (by decide) (ls' := [.ref v0, .int v1, .int v2, .ref v3, .ref v4, .ref t3, .int t10, .int t12, .int t31, .int ((gI h40 t3 9) - t31)]) rfl ?_
        refine J_iload dX7_correctWith_134 rfl ?_
        refine J_iload dX7_correctWith_136 rfl ?_
        refine J_icmp_le 152 dX7_correctWith_138 rfl (fun q42 => ?_) (fun q42 => ?_)
        · replace H := br1 q42 H
          exact J_dr (kX7_correctWith_152 H ) ⟨rfl, ⟨rfl, trivial⟩⟩
        · replace H := br0 q42 H
          refine J_aload dX7_correctWith_141 rfl ?_
          refine J_iload_n 1 dX7_correctWith_143 rfl rfl ?_
          refine J_iload dX7_correctWith_144 rfl ?_
          refine J_iload dX7_correctWith_146 rfl ?_
          refine J_iconst (1 : Int32) dX7_correctWith_148 kc_1 ?_
          obtain ⟨g44, H⟩ := gd H
          obtain ⟨h45, e43, H⟩ := bd H
          refine J_cV (as := [.int v1, .int t10, .int ((gI h40 t3 9) - t31), .int (1 : Int32)]) 3 YX4_addJob 4 dX7_correctWith_149 moX4_addJob mvX4_addJob mlX7_367 g44 rfl rfl (okX4_addJob (d := d + 3) e43) rfl rfl [] rfl rfl (st2 := []) rfl ?_
          exact J_dr (kX7_correctWith_152 H ) ⟨rfl, ⟨rfl, trivial⟩⟩
      · replace H := br1 q20 H
        refine J_iconst (-1 : Int32) dX7_correctWith_70 kc_m1 ?_
        cases H
        exact J_iretI dX7_correctWith_71 rfl
    · replace H := br1 q6 H
      refine J_aload dX7_correctWith_22 rfl ?_
      refine J_aload_n 3 dX7_correctWith_24 rfl rfl ?_
      obtain ⟨h47, e46, H⟩ := bd H
      refine J_cV (as := [.ref v3]) 4 YX5_takeCopy 1 dX7_correctWith_25 moX5_takeCopy mvX5_takeCopy mlX7_344 g5 rfl rfl (okX5_takeCopy (d := d + 2) e46) rfl rfl [] rfl rfl (st2 := []) rfl ?_
      refine J_iconst (0 : Int32) dX7_correctWith_28 kc_0 ?_
      cases H
      exact J_iretI dX7_correctWith_29 rfl
  · replace H := br1 q4 H
    refine J_iconst (-1 : Int32) dX7_correctWith_12 kc_m1 ?_
    cases H
    exact J_iretI dX7_correctWith_13 rfl
theorem okX7_correctWith {d : Nat} {h : Hp} {v0 : Nat} {v1 : Int32} {v2 : Int32} {v3 : Nat} {v4 : Nat} {r : Int32} {h9 : Hp} (H : MX7_correctWith h v0 v1 v2 v3 v4 = some (r, h9)) : CT (d + 4) YX7_correctWith [.ref v0, .int v1, .int v2, .ref v3, .ref v4] h (oI r) h9 := CT_of (by decide +kernel) (Nat.le_of_ble_eq_true rfl) (eX7_correctWith H)
noncomputable def BX4_hasJobOf_2 (h : Hp) (v0 : Nat) (v1 : Int32) (v2 : Int32) : Option ((Int32) ⊕ Int32) :=
  gg (β := ((Int32) ⊕ Int32)) (kd h v0 = 3) <|
  if (gI h v0 3) ≤ v2 then
    some (.inr ((0 : Int32)))
  else
    gg (β := ((Int32) ⊕ Int32)) (kd h (gP h v0 7) = 20) <|
    gg (β := ((Int32) ⊕ Int32)) (inB v2 (ln h (gP h v0 7)) = true) <|
    if (gI h (gP h v0 7) v2.toNatClampNeg) = v1 then
      some (.inr ((1 : Int32)))
    else
      some (.inl (v2 + (1 : Int32)))
set_option maxRecDepth 100000 in
set_option maxHeartbeats 8000000 in
theorem bX4_hasJobOf_2 {d : Nat} {h : Hp} {v0 : Nat} {v1 : Int32} {v2 : Int32} {r : Int32} {x : ((Int32) ⊕ Int32)} (H : BX4_hasJobOf_2 h v0 v1 v2 = some x) (hb0 : ∀ s : Int32, x = .inl s → J (d) YX4_hasJobOf 2 [.ref v0, .int v1, .int s] [] h (oI r) h) (hx : ∀ z : Int32, x = .inr (z) → z = r) : J (d) YX4_hasJobOf 2 [.ref v0, .int v1, .int v2] [] h (oI r) h := by
  unfold BX4_hasJobOf_2 at H
  refine J_iload_n 2 dX4_hasJobOf_2 rfl rfl ?_
  refine J_aload_n 0 dX4_hasJobOf_3 rfl rfl ?_
  obtain ⟨g1, H⟩ := gd H
  refine J_getI 3 3 dX4_hasJobOf_4 g1 flX4_23 rfl ?_
  refine J_icmp_ge 28 dX4_hasJobOf_7 rfl (fun q2 => ?_) (fun q2 => ?_)
  · replace H := br1 q2 H
    refine J_iconst (0 : Int32) dX4_hasJobOf_28 kc_0 ?_
    cases H
    cases hx _ rfl
    exact J_rZ dX4_hasJobOf_29 rfl rfl
  · replace H := br0 q2 H
    refine J_aload_n 0 dX4_hasJobOf_10 rfl rfl ?_
    refine J_gP 3 7 dX4_hasJobOf_11 g1 flX4_35 rfl rfl ?_
    refine J_iload_n 2 dX4_hasJobOf_14 rfl rfl ?_
    obtain ⟨g3, H⟩ := gd H
    obtain ⟨g4, H⟩ := gd H
    refine J_iald dX4_hasJobOf_15 g3 (inB_ok g4) ?_
    refine J_iload_n 1 dX4_hasJobOf_16 rfl rfl ?_
    refine J_icmp_ne 22 dX4_hasJobOf_17 rfl (fun q5 => ?_) (fun q5 => ?_)
    · replace H := br0 q5 H
      refine J_iinc (v2 + (1 : Int32)) dX4_hasJobOf_22 rfl (congrArg (HAdd.hAdd v2) kc_1) (by decide) (ls' := [.ref v0, .int v1, .int (v2 + (1 : Int32))]) rfl ?_
      refine J_goto 2 dX4_hasJobOf_25 rfl ?_
      cases H
      exact J_dr (hb0 _ rfl) ⟨rfl, ⟨rfl, ⟨rfl, trivial⟩⟩⟩
    · replace H := br1 q5 H
      refine J_iconst (1 : Int32) dX4_hasJobOf_20 kc_1 ?_
      cases H
      cases hx _ rfl
      exact J_rZ dX4_hasJobOf_21 rfl rfl
noncomputable def MX4_hasJobOf_2 (h : Hp) (v0 : Nat) (v1 : Int32) (v2 : Int32) : Option Int32 := it (fun q : Int32 => BX4_hasJobOf_2 h v0 v1 q) (v2)
set_option maxRecDepth 100000 in
set_option maxHeartbeats 8000000 in
theorem kX4_hasJobOf_2 {d : Nat} {h : Hp} {v0 : Nat} {v1 : Int32} {v2 : Int32} {r : Int32} (H : MX4_hasJobOf_2 h v0 v1 v2 = some r) : J (d) YX4_hasJobOf 2 [.ref v0, .int v1, .int v2] [] h (oI r) h := by
  unfold MX4_hasJobOf_2 at H
  refine it_J (G := (fun q : Int32 => J (d) YX4_hasJobOf 2 [.ref v0, .int v1, .int q] [] h (oI r) h)) (Q := (fun y : Int32 => y = r)) (fun q x Hq hm => ?_) H rfl
  exact bX4_hasJobOf_2 Hq (fun s hs => by subst hs; exact hm) (fun z hz => by subst hz; exact hm)
noncomputable def MX4_hasJobOf (h : Hp) (v0 : Nat) (v1 : Int32) : Option Int32 :=
  MX4_hasJobOf_2 h v0 v1 (0 : Int32)
set_option maxRecDepth 100000 in
set_option maxHeartbeats 8000000 in
theorem eX4_hasJobOf {d : Nat} {h : Hp} {v0 : Nat} {v1 : Int32} {r : Int32} (H : MX4_hasJobOf h v0 v1 = some r) : J (d) YX4_hasJobOf 0 [.ref v0, .int v1, Value.null] [] h (oI r) h := by
  unfold MX4_hasJobOf at H
  refine J_iconst (0 : Int32) dX4_hasJobOf_0 kc_0 ?_
  refine J_istore_n 2 dX4_hasJobOf_1 rfl (by decide) (ls' := [.ref v0, .int v1, .int (0 : Int32)]) rfl ?_
  exact J_dr (kX4_hasJobOf_2 H ) ⟨rfl, ⟨rfl, ⟨rfl, trivial⟩⟩⟩
theorem okX4_hasJobOf {d : Nat} {h : Hp} {v0 : Nat} {v1 : Int32} {r : Int32} (H : MX4_hasJobOf h v0 v1 = some r) : CT (d) YX4_hasJobOf [.ref v0, .int v1] h (oI r) h := CT_of (by decide +kernel) (Nat.le_of_ble_eq_true rfl) (eX4_hasJobOf H)
noncomputable def BX7_isQueued_2 (h : Hp) (v0 : Nat) (v1 : Int32) (v2 : Int32) : Option ((Int32 × Hp) ⊕ (Int32 × Hp)) :=
  gg (β := ((Int32 × Hp) ⊕ (Int32 × Hp))) (kd h v0 = 6) <|
  if (gI h v0 9) ≤ v2 then
    some (.inr (((0 : Int32), h)))
  else
    b2 (α := Nat) (β := Hp) (γ := ((Int32 × Hp) ⊕ (Int32 × Hp))) (MX7_ownMachine h v0 v2) fun (t5 : Nat) (h4 : Hp) =>
    gg (β := ((Int32 × Hp) ⊕ (Int32 × Hp))) (kd h4 t5 = 3) <|
    Option.bind (α := Int32) (β := ((Int32 × Hp) ⊕ (Int32 × Hp))) (MX4_hasJobOf h4 t5 v1) fun (t8 : Int32) =>
    if t8 = 0 then
      some (.inl ((v2 + (1 : Int32)), h4))
    else
      some (.inr (((1 : Int32), h4)))
set_option maxRecDepth 100000 in
set_option maxHeartbeats 8000000 in
theorem bX7_isQueued_2 {d : Nat} {h : Hp} {v0 : Nat} {v1 : Int32} {v2 : Int32} {r : Int32} {h9 : Hp} {x : ((Int32 × Hp) ⊕ (Int32 × Hp))} (H : BX7_isQueued_2 h v0 v1 v2 = some x) (hb0 : ∀ s : Int32 × Hp, x = .inl s → J (d + 2) YX7_isQueued 2 [.ref v0, .int v1, .int s.1] [] s.2 (oI r) h9) (hx : ∀ z : (Int32 × Hp), x = .inr (z) → z = (r, h9)) : J (d + 2) YX7_isQueued 2 [.ref v0, .int v1, .int v2] [] h (oI r) h9 := by
  unfold BX7_isQueued_2 at H
  refine J_iload_n 2 dX7_isQueued_2 rfl rfl ?_
  refine J_aload_n 0 dX7_isQueued_3 rfl rfl ?_
  obtain ⟨g1, H⟩ := gd H
  refine J_getI 6 9 dX7_isQueued_4 g1 flX7_51 rfl ?_
  refine J_icmp_ge 30 dX7_isQueued_7 rfl (fun q2 => ?_) (fun q2 => ?_)
  · replace H := br1 q2 H
    refine J_iconst (0 : Int32) dX7_isQueued_30 kc_0 ?_
    cases H
    cases hx _ rfl
    exact J_rZ dX7_isQueued_31 rfl rfl
  · replace H := br0 q2 H
    refine J_aload_n 0 dX7_isQueued_10 rfl rfl ?_
    refine J_iload_n 2 dX7_isQueued_11 rfl rfl ?_
    obtain ⟨t5, h4, e3, H⟩ := b2_el H
    refine J_cV (as := [.int v2]) 6 YX7_ownMachine 1 dX7_isQueued_12 moX7_ownMachine mvX7_ownMachine mlX7_106 g1 rfl rfl (okX7_ownMachine (d := d) e3) rfl rfl [] rfl rfl (st2 := [.ref t5]) rfl ?_
    refine J_iload_n 1 dX7_isQueued_15 rfl rfl ?_
    obtain ⟨g7, H⟩ := gd H
    obtain ⟨t8, e6, H⟩ := bd H
    refine J_cV (as := [.int v1]) 3 YX4_hasJobOf 1 dX7_isQueued_16 moX4_hasJobOf mvX4_hasJobOf mlX7_341 g7 rfl rfl (okX4_hasJobOf (d := d + 1) e6) rfl rfl [] rfl rfl (st2 := [.int t8]) rfl ?_
    refine J_if_eq 24 dX7_isQueued_19 rfl (fun q9 => ?_) (fun q9 => ?_)
    · replace H := br1 q9 H
      refine J_iinc (v2 + (1 : Int32)) dX7_isQueued_24 rfl (congrArg (HAdd.hAdd v2) kc_1) (by decide) (ls' := [.ref v0, .int v1, .int (v2 + (1 : Int32))]) rfl ?_
      refine J_goto 2 dX7_isQueued_27 rfl ?_
      cases H
      exact J_dr (hb0 _ rfl) ⟨rfl, ⟨rfl, ⟨rfl, trivial⟩⟩⟩
    · replace H := br0 q9 H
      refine J_iconst (1 : Int32) dX7_isQueued_22 kc_1 ?_
      cases H
      cases hx _ rfl
      exact J_rZ dX7_isQueued_23 rfl rfl
noncomputable def MX7_isQueued_2 (h : Hp) (v0 : Nat) (v1 : Int32) (v2 : Int32) : Option (Int32 × Hp) := it (fun q : Int32 × Hp => BX7_isQueued_2 q.2 v0 v1 q.1) (v2, h)
set_option maxRecDepth 100000 in
set_option maxHeartbeats 8000000 in
theorem kX7_isQueued_2 {d : Nat} {h : Hp} {v0 : Nat} {v1 : Int32} {v2 : Int32} {r : Int32} {h9 : Hp} (H : MX7_isQueued_2 h v0 v1 v2 = some (r, h9)) : J (d + 2) YX7_isQueued 2 [.ref v0, .int v1, .int v2] [] h (oI r) h9 := by
  unfold MX7_isQueued_2 at H
  refine it_J (G := (fun q : Int32 × Hp => J (d + 2) YX7_isQueued 2 [.ref v0, .int v1, .int q.1] [] q.2 (oI r) h9)) (Q := (fun y : (Int32 × Hp) => y = (r, h9))) (fun q x Hq hm => ?_) H rfl
  exact bX7_isQueued_2 Hq (fun s hs => by subst hs; exact hm) (fun z hz => by subst hz; exact hm)
noncomputable def MX7_isQueued (h : Hp) (v0 : Nat) (v1 : Int32) : Option (Int32 × Hp) :=
  MX7_isQueued_2 h v0 v1 (0 : Int32)
set_option maxRecDepth 100000 in
set_option maxHeartbeats 8000000 in
theorem eX7_isQueued {d : Nat} {h : Hp} {v0 : Nat} {v1 : Int32} {r : Int32} {h9 : Hp} (H : MX7_isQueued h v0 v1 = some (r, h9)) : J (d + 2) YX7_isQueued 0 [.ref v0, .int v1, Value.null] [] h (oI r) h9 := by
  unfold MX7_isQueued at H
  refine J_iconst (0 : Int32) dX7_isQueued_0 kc_0 ?_
  refine J_istore_n 2 dX7_isQueued_1 rfl (by decide) (ls' := [.ref v0, .int v1, .int (0 : Int32)]) rfl ?_
  exact J_dr (kX7_isQueued_2 H ) ⟨rfl, ⟨rfl, ⟨rfl, trivial⟩⟩⟩
theorem okX7_isQueued {d : Nat} {h : Hp} {v0 : Nat} {v1 : Int32} {r : Int32} {h9 : Hp} (H : MX7_isQueued h v0 v1 = some (r, h9)) : CT (d + 2) YX7_isQueued [.ref v0, .int v1] h (oI r) h9 := CT_of (by decide +kernel) (Nat.le_of_ble_eq_true rfl) (eX7_isQueued H)
noncomputable def MX11_correct_131 (h : Hp) (v0 : Nat) (v1 : Int32) (v2 : Int32) (v4 : Int32) (v5 : Nat) (v6 : Nat) : Option ((Int32 ⊕ Nat) × Hp) :=
  gg (β := ((Int32 ⊕ Nat) × Hp)) (kd h v6 = 3) <|
  if (gI h v6 3) < (30 : Int32) then
    gg (β := ((Int32 ⊕ Nat) × Hp)) (kd h v0 = 10) <|
    gg (β := ((Int32 ⊕ Nat) × Hp)) (kd h (gP h v0 4) = 4) <|
    Option.bind (α := Hp) (β := ((Int32 ⊕ Nat) × Hp)) (MX5_putWord h (gP h v0 4) v5 v2 (gP h v0 0) v4) fun (h32 : Hp) =>
    gg (β := ((Int32 ⊕ Nat) × Hp)) (kd h32 v0 = 10) <|
    gg (β := ((Int32 ⊕ Nat) × Hp)) (kd h32 (gP h32 v0 5) = 6) <|
    b2 (α := Int32) (β := Hp) (γ := ((Int32 ⊕ Nat) × Hp)) (MX7_correctWith h32 (gP h32 v0 5) v1 v2 (gP h32 v0 4) v6) fun (t37 : Int32) (h36 : Hp) =>
    some (.inl t37, h36)
  else
    some (.inr 3, bmp h 1 6)
set_option maxRecDepth 100000 in
set_option maxHeartbeats 8000000 in
theorem kX11_correct_131 {d : Nat} {h : Hp} {v0 : Nat} {v1 : Int32} {v2 : Int32} {v4 : Int32} {v5 : Nat} {v6 : Nat} {r : Int32 ⊕ Nat} {h9 : Hp} (H : MX11_correct_131 h v0 v1 v2 v4 v5 v6 = some (r, h9)) : J (d + 5) YX11_correct 131 [.ref v0, .int v1, .int v2, Value.null, .int v4, .ref v5, .ref v6, Value.null] [] h (oT r) h9 := by
  unfold MX11_correct_131 at H
  refine J_aload dX11_correct_131 rfl ?_
  obtain ⟨g27, H⟩ := gd H
  refine J_getI 3 3 dX11_correct_133 g27 flX11_258 rfl ?_
  refine J_bipush (30 : Int32) dX11_correct_136 kb_30 ?_
  refine J_icmp_lt 149 dX11_correct_138 rfl (fun q28 => ?_) (fun q28 => ?_)
  · replace H := br1 q28 H
    refine J_aload_n 0 dX11_correct_149 rfl rfl ?_
    obtain ⟨g29, H⟩ := gd H
    refine J_gP 10 4 dX11_correct_150 g29 flX11_32 rfl rfl ?_
    refine J_aload dX11_correct_153 rfl ?_
    refine J_iload_n 2 dX11_correct_155 rfl rfl ?_
    refine J_aload_n 0 dX11_correct_156 rfl rfl ?_
    refine J_gP 10 0 dX11_correct_157 g29 flX11_9 rfl rfl ?_
    refine J_iload dX11_correct_160 rfl ?_
    obtain ⟨g31, H⟩ := gd H
    obtain ⟨h32, e30, H⟩ := bd H
    refine J_cV (as := [.ref v5, .int v2, .ref (gP h v0 0), .int v4]) 4 YX5_putWord 4 dX11_correct_162 moX5_putWord mvX5_putWord mlX11_343 g31 rfl rfl (okX5_putWord (d := d + 2) e30) rfl rfl [] rfl rfl (st2 := []) rfl ?_
    refine J_aload_n 0 dX11_correct_165 rfl rfl ?_
    obtain ⟨g33, H⟩ := gd H
    refine J_gP 10 5 dX11_correct_166 g33 flX11_39 rfl rfl ?_
    refine J_iload_n 1 dX11_correct_169 rfl rfl ?_
    refine J_iload_n 2 dX11_correct_170 rfl rfl ?_
    refine J_aload_n 0 dX11_correct_171 rfl rfl ?_
    refine J_gP 10 4 dX11_correct_172 g33 flX11_32 rfl rfl ?_
    refine J_aload dX11_correct_175 rfl ?_
    obtain ⟨g35, H⟩ := gd H
    obtain ⟨t37, h36, e34, H⟩ := b2_el H
    refine J_cV (as := [.int v1, .int v2, .ref (gP h32 v0 4), .ref v6]) 6 YX7_correctWith 4 dX11_correct_177 moX7_correctWith mvX7_correctWith mlX11_347 g35 rfl rfl (okX7_correctWith (d := d) e34) rfl rfl [] rfl rfl (st2 := [.int t37]) rfl ?_
    cases H
    exact J_iretI dX11_correct_180 rfl
  · replace H := br0 q28 H
    cases H
    exact J_throw 3 ["java/lang/RuntimeException", "java/lang/Exception"] dX11_correct_141 dX11_correct_144 dX11_correct_145 dX11_correct_148 th_112 clX11_110 (Nat.le_of_ble_eq_true rfl)
noncomputable def MX11_correct (h : Hp) (v0 : Nat) (v1 : Int32) (v2 : Int32) (v3 : Int32) : Option ((Int32 ⊕ Nat) × Hp) :=
  gg (β := ((Int32 ⊕ Nat) × Hp)) (kd h v0 = 10) <|
  b2 (α := Int32) (β := Hp) (γ := ((Int32 ⊕ Nat) × Hp)) (MX11_useTape h v0) fun (t4 : Int32) (h3 : Hp) =>
  gg (β := ((Int32 ⊕ Nat) × Hp)) (kd h3 v0 = 10) <|
  gg (β := ((Int32 ⊕ Nat) × Hp)) (kd h3 (gP h3 v0 5) = 6) <|
  Option.bind (α := Nat) (β := ((Int32 ⊕ Nat) × Hp)) (MX7_findPart h3 (gP h3 v0 5) v1) fun (t8 : Nat) =>
  Option.bind (α := Nat) (β := ((Int32 ⊕ Nat) × Hp)) (MX7_findMachine h3 (gP h3 v0 5) v3) fun (t10 : Nat) =>
  if t8 = 0 then
    some (.inr 1, bmp h3 1 6)
  else
    if t10 = 0 then
      some (.inr 1, bmp h3 1 6)
    else
      if v2 < 0 then
        some (.inr 1, bmp h3 1 6)
      else
        gg (β := ((Int32 ⊕ Nat) × Hp)) (kd h3 t8 = 4) <|
        if v2 < (gI h3 t8 6) then
          Option.bind (α := Int32) (β := ((Int32 ⊕ Nat) × Hp)) (MX5_bitsOfWord h3 t8 v2) fun (t17 : Int32) =>
          Option.bind (α := Int32) (β := ((Int32 ⊕ Nat) × Hp)) (MX1_firstWrong h3 (gP h3 v0 0) t4 (1 : Int32) (1 : Int32) ((gI h3 t8 5) - t17)) fun (t19 : Int32) =>
          lt (α := Hp) (β := Option ((Int32 ⊕ Nat) × Hp)) (sI h3 v0 2 t19) fun (h20 : Hp) =>
          if (gI h20 v0 2) = (-1 : Int32) then
            if (gI h20 t8 11) = 0 then
              MX11_correct_131 h20 v0 v1 v2 t4 t8 t10
            else
              b2 (α := Int32) (β := Hp) (γ := ((Int32 ⊕ Nat) × Hp)) (MX7_isQueued h20 (gP h3 v0 5) v1) fun (t40 : Int32) (h39 : Hp) =>
              if t40 = 0 then
                MX11_correct_131 h39 v0 v1 v2 t4 t8 t10
              else
                some (.inr 5, bmp h39 1 6)
          else
            some (.inr 2, bmp h20 1 6)
        else
          some (.inr 1, bmp h3 1 6)
set_option maxRecDepth 100000 in
set_option maxHeartbeats 8000000 in
theorem eX11_correct {d : Nat} {h : Hp} {v0 : Nat} {v1 : Int32} {v2 : Int32} {v3 : Int32} {r : Int32 ⊕ Nat} {h9 : Hp} (H : MX11_correct h v0 v1 v2 v3 = some (r, h9)) : J (d + 5) YX11_correct 0 [.ref v0, .int v1, .int v2, .int v3, Value.null, Value.null, Value.null, Value.null] [] h (oT r) h9 := by
  unfold MX11_correct at H
  refine J_aload_n 0 dX11_correct_0 rfl rfl ?_
  obtain ⟨g2, H⟩ := gd H
  obtain ⟨t4, h3, e1, H⟩ := b2_el H
  refine J_cV (as := []) 10 YX11_useTape 0 dX11_correct_1 moX11_useTape mvX11_useTape mlX11_94 g2 rfl rfl (okX11_useTape (d := d + 4) e1) rfl rfl [] rfl rfl (st2 := [.int t4]) rfl ?_
  refine J_istore dX11_correct_4 (by decide) (ls' := [.ref v0, .int v1, .int v2, .int v3, .int t4, Value.null, Value.null, Value.null]) rfl ?_
  refine J_aload_n 0 dX11_correct_6 rfl rfl ?_
  obtain ⟨g5, H⟩ := gd H
  refine J_gP 10 5 dX11_correct_7 g5 flX11_39 rfl rfl ?_
  refine J_iload_n 1 dX11_correct_10 rfl rfl ?_
  obtain ⟨g7, H⟩ := gd H
  obtain ⟨t8, e6, H⟩ := bd H
  refine J_cV (as := [.int v1]) 6 YX7_findPart 1 dX11_correct_11 moX7_findPart mvX7_findPart mlX11_139 g7 rfl rfl (okX7_findPart (d := d + 4) e6) rfl rfl [] rfl rfl (st2 := [.ref t8]) rfl ?_
  refine J_astore dX11_correct_14 (by decide) (ls' := [.ref v0, .int v1, .int v2, .int v3, .int t4, .ref t8, Value.null, Value.null]) rfl ?_
  refine J_aload_n 0 dX11_correct_16 rfl rfl ?_
  refine J_gP 10 5 dX11_correct_17 g5 flX11_39 rfl rfl ?_
  refine J_iload_n 3 dX11_correct_20 rfl rfl ?_
  obtain ⟨t10, e9, H⟩ := bd H
  refine J_cV (as := [.int v3]) 6 YX7_findMachine 1 dX11_correct_21 moX7_findMachine mvX7_findMachine mlX11_231 g7 rfl rfl (okX7_findMachine (d := d + 4) e9) rfl rfl [] rfl rfl (st2 := [.ref t10]) rfl ?_
  refine J_astore dX11_correct_24 (by decide) (ls' := [.ref v0, .int v1, .int v2, .int v3, .int t4, .ref t8, .ref t10, Value.null]) rfl ?_
  refine J_aload dX11_correct_26 rfl ?_
  refine J_ifnull 49 dX11_correct_28 rfl (fun q11 => ?_) (fun q11 => ?_)
  · replace H := br1 q11 H
    cases H
    exact J_throw 1 ["java/lang/RuntimeException", "java/lang/Exception"] dX11_correct_49 dX11_correct_52 dX11_correct_53 dX11_correct_56 th_86 clX11_84 (Nat.le_of_ble_eq_true rfl)
  · replace H := br0 q11 H
    refine J_aload dX11_correct_31 rfl ?_
    refine J_ifnull 49 dX11_correct_33 rfl (fun q12 => ?_) (fun q12 => ?_)
    · replace H := br1 q12 H
      cases H
      exact J_throw 1 ["java/lang/RuntimeException", "java/lang/Exception"] dX11_correct_49 dX11_correct_52 dX11_correct_53 dX11_correct_56 th_86 clX11_84 (Nat.le_of_ble_eq_true rfl)
    · replace H := br0 q12 H
      refine J_iload_n 2 dX11_correct_36 rfl rfl ?_
      refine J_if_lt 49 dX11_correct_37 rfl (fun q13 => ?_) (fun q13 => ?_)
      · replace H := br1 q13 H
        cases H
        exact J_throw 1 ["java/lang/RuntimeException", "java/lang/Exception"] dX11_correct_49 dX11_correct_52 dX11_correct_53 dX11_correct_56 th_86 clX11_84 (Nat.le_of_ble_eq_true rfl)
      · replace H := br0 q13 H
        refine J_iload_n 2 dX11_correct_40 rfl rfl ?_
        refine J_aload dX11_correct_41 rfl ?_
        obtain ⟨g14, H⟩ := gd H
        refine J_getI 4 6 dX11_correct_43 g14 flX11_143 rfl ?_
        refine J_icmp_lt 57 dX11_correct_46 rfl (fun q15 => ?_) (fun q15 => ?_)
        · replace H := br1 q15 H
          refine J_aload dX11_correct_57 rfl ?_
          refine J_getI 4 5 dX11_correct_59 g14 flX11_146 rfl ?_
          refine J_aload dX11_correct_62 rfl ?_
          refine J_iload_n 2 dX11_correct_64 rfl rfl ?_
          obtain ⟨t17, e16, H⟩ := bd H
          refine J_cV (as := [.int v2]) 4 YX5_bitsOfWord 1 dX11_correct_65 moX5_bitsOfWord mvX5_bitsOfWord mlX11_337 g14 rfl rfl (okX5_bitsOfWord (d := d + 3) e16) rfl rfl [.int (gI h3 t8 5)] rfl rfl (st2 := [.int t17, .int (gI h3 t8 5)]) rfl ?_
          refine J_isub dX11_correct_68 ?_
          refine J_istore dX11_correct_69 (by decide) (ls' := [.ref v0, .int v1, .int v2, .int v3, .int t4, .ref t8, .ref t10, .int ((gI h3 t8 5) - t17)]) rfl ?_
          refine J_aload_n 0 dX11_correct_71 rfl rfl ?_
          refine J_aload_n 0 dX11_correct_72 rfl rfl ?_
          refine J_gP 10 0 dX11_correct_73 g5 flX11_9 rfl rfl ?_
          refine J_iload dX11_correct_76 rfl ?_
          refine J_iconst (1 : Int32) dX11_correct_78 kc_1 ?_
          refine J_iconst (1 : Int32) dX11_correct_79 kc_1 ?_
          refine J_iload dX11_correct_80 rfl ?_
          obtain ⟨t19, e18, H⟩ := bd H
          refine J_cS (as := [.ref (gP h3 v0 0), .int t4, .int (1 : Int32), .int (1 : Int32), .int ((gI h3 t8 5) - t17)]) YX1_firstWrong 5 dX11_correct_82 moX1_firstWrong msX1_firstWrong mlX11_101 (okX1_firstWrong (d := d + 3) e18) rfl rfl [.ref v0] rfl rfl (st2 := [.int t19, .ref v0]) rfl ?_
          obtain ⟨h20, e21, H⟩ := lt_el H
          refine J_pI 10 2 dX11_correct_85 g5 flX11_17 rfl rfl e21 ?_
          have c22 := ekI e21
          have c23 := elI e21
          have c24 := epI e21
          refine J_aload_n 0 dX11_correct_88 rfl rfl ?_
          refine J_getI 10 2 dX11_correct_89 (kq c22 g5) flX11_17 rfl ?_
          refine J_iconst (-1 : Int32) dX11_correct_92 kc_m1 ?_
          refine J_icmp_eq 104 dX11_correct_93 rfl (fun q25 => ?_) (fun q25 => ?_)
          · replace H := br1 q25 H
            refine J_aload dX11_correct_104 rfl ?_
            refine J_getI 4 11 dX11_correct_106 (kq c22 g14) flX11_159 rfl ?_
            refine J_if_eq 131 dX11_correct_109 rfl (fun q26 => ?_) (fun q26 => ?_)
            · replace H := br1 q26 H
              exact J_dr (kX11_correct_131 H ) ⟨rfl, ⟨rfl, ⟨rfl, ⟨rfl, ⟨rfl, ⟨rfl, trivial⟩⟩⟩⟩⟩⟩
            · replace H := br0 q26 H
              refine J_aload_n 0 dX11_correct_112 rfl rfl ?_
              refine J_gP 10 5 dX11_correct_113 (kq c22 g5) flX11_39 rfl (congrFun (congrFun c24 v0) 5) ?_
              refine J_iload_n 1 dX11_correct_116 rfl rfl ?_
              obtain ⟨t40, h39, e38, H⟩ := b2_el H
              refine J_cV (as := [.int v1]) 6 YX7_isQueued 1 dX11_correct_117 moX7_isQueued mvX7_isQueued mlX11_340 (kq c22 g7) rfl rfl (okX7_isQueued (d := d + 2) e38) rfl rfl [] rfl rfl (st2 := [.int t40]) rfl ?_
              refine J_if_eq 131 dX11_correct_120 rfl (fun q41 => ?_) (fun q41 => ?_)
              · replace H := br1 q41 H
                exact J_dr (kX11_correct_131 H ) ⟨rfl, ⟨rfl, ⟨rfl, ⟨rfl, ⟨rfl, ⟨rfl, trivial⟩⟩⟩⟩⟩⟩
              · replace H := br0 q41 H
                cases H
                exact J_throw 5 ["java/lang/RuntimeException", "java/lang/Exception"] dX11_correct_123 dX11_correct_126 dX11_correct_127 dX11_correct_130 th_324 clX11_322 (Nat.le_of_ble_eq_true rfl)
          · replace H := br0 q25 H
            cases H
            exact J_throw 2 ["java/lang/RuntimeException", "java/lang/Exception"] dX11_correct_96 dX11_correct_99 dX11_correct_100 dX11_correct_103 th_89 clX11_87 (Nat.le_of_ble_eq_true rfl)
        · replace H := br0 q15 H
          cases H
          exact J_throw 1 ["java/lang/RuntimeException", "java/lang/Exception"] dX11_correct_49 dX11_correct_52 dX11_correct_53 dX11_correct_56 th_86 clX11_84 (Nat.le_of_ble_eq_true rfl)
theorem okX11_correct {d : Nat} {h : Hp} {v0 : Nat} {v1 : Int32} {v2 : Int32} {v3 : Int32} {r : Int32 ⊕ Nat} {h9 : Hp} (H : MX11_correct h v0 v1 v2 v3 = some (r, h9)) : CT (d + 5) YX11_correct [.ref v0, .int v1, .int v2, .int v3] h (oT r) h9 := CT_of (by decide +kernel) (Nat.le_of_ble_eq_true rfl) (eX11_correct H)
noncomputable def MX7_countCorrected_29 (h : Hp) (v0 : Nat) (v2 : Int32) (s0 : Int32) (s1 : Int32) : Option ((Int32 × Int32 × Hp) ⊕ (Int32 × Hp)) :=
  some (.inl ((s0 + s1), (v2 + (1 : Int32)), h))
set_option maxRecDepth 100000 in
set_option maxHeartbeats 8000000 in
theorem kX7_countCorrected_29 {d : Nat} {h : Hp} {v0 : Nat} {v2 : Int32} {s0 : Int32} {s1 : Int32} {r : Int32} {h9 : Hp} {x : ((Int32 × Int32 × Hp) ⊕ (Int32 × Hp))} (H : MX7_countCorrected_29 h v0 v2 s0 s1 = some x) (hb0 : ∀ s : Int32 × Int32 × Hp, x = .inl s → J (d + 2) YX7_countCorrected 4 [.ref v0, .int s.1, .int s.2.1] [] s.2.2 (oI r) h9) (hx : ∀ z : (Int32 × Hp), x = .inr (z) → z = (r, h9)) : J (d + 2) YX7_countCorrected 29 [.ref v0, Value.null, .int v2] [.int s1, .int s0] h (oI r) h9 := by
  unfold MX7_countCorrected_29 at H
  refine J_iadd dX7_countCorrected_29 ?_
  refine J_istore_n 1 dX7_countCorrected_30 rfl (by decide) (ls' := [.ref v0, .int (s0 + s1), .int v2]) rfl ?_
  refine J_iinc (v2 + (1 : Int32)) dX7_countCorrected_31 rfl (congrArg (HAdd.hAdd v2) kc_1) (by decide) (ls' := [.ref v0, .int (s0 + s1), .int (v2 + (1 : Int32))]) rfl ?_
  refine J_goto 4 dX7_countCorrected_34 rfl ?_
  cases H
  exact J_dr (hb0 _ rfl) ⟨rfl, ⟨rfl, ⟨rfl, trivial⟩⟩⟩
noncomputable def BX7_countCorrected_4 (h : Hp) (v0 : Nat) (v1 : Int32) (v2 : Int32) : Option ((Int32 × Int32 × Hp) ⊕ (Int32 × Hp)) :=
  gg (β := ((Int32 × Int32 × Hp) ⊕ (Int32 × Hp))) (kd h v0 = 6) <|
  if (gI h v0 11) ≤ v2 then
    some (.inr ((v1, h)))
  else
    b2 (α := Nat) (β := Hp) (γ := ((Int32 × Int32 × Hp) ⊕ (Int32 × Hp))) (MX7_ownSlug h v0 v2) fun (t5 : Nat) (h4 : Hp) =>
    gg (β := ((Int32 × Int32 × Hp) ⊕ (Int32 × Hp))) (kd h4 t5 = 7) <|
    if (gI h4 t5 14) = 0 then
      MX7_countCorrected_29 h4 v0 v2 v1 (0 : Int32)
    else
      MX7_countCorrected_29 h4 v0 v2 v1 (1 : Int32)
set_option maxRecDepth 100000 in
set_option maxHeartbeats 8000000 in
theorem bX7_countCorrected_4 {d : Nat} {h : Hp} {v0 : Nat} {v1 : Int32} {v2 : Int32} {r : Int32} {h9 : Hp} {x : ((Int32 × Int32 × Hp) ⊕ (Int32 × Hp))} (H : BX7_countCorrected_4 h v0 v1 v2 = some x) (hb0 : ∀ s : Int32 × Int32 × Hp, x = .inl s → J (d + 2) YX7_countCorrected 4 [.ref v0, .int s.1, .int s.2.1] [] s.2.2 (oI r) h9) (hx : ∀ z : (Int32 × Hp), x = .inr (z) → z = (r, h9)) : J (d + 2) YX7_countCorrected 4 [.ref v0, .int v1, .int v2] [] h (oI r) h9 := by
  unfold BX7_countCorrected_4 at H
  refine J_iload_n 2 dX7_countCorrected_4 rfl rfl ?_
  refine J_aload_n 0 dX7_countCorrected_5 rfl rfl ?_
  obtain ⟨g1, H⟩ := gd H
  refine J_getI 6 11 dX7_countCorrected_6 g1 flX7_60 rfl ?_
  refine J_icmp_ge 37 dX7_countCorrected_9 rfl (fun q2 => ?_) (fun q2 => ?_)
  · replace H := br1 q2 H
    refine J_iload_n 1 dX7_countCorrected_37 rfl rfl ?_
    cases H
    cases hx _ rfl
    exact J_iretI dX7_countCorrected_38 rfl
  · replace H := br0 q2 H
    refine J_iload_n 1 dX7_countCorrected_12 rfl rfl ?_
    refine J_aload_n 0 dX7_countCorrected_13 rfl rfl ?_
    refine J_iload_n 2 dX7_countCorrected_14 rfl rfl ?_
    obtain ⟨t5, h4, e3, H⟩ := b2_el H
    refine J_cV (as := [.int v2]) 6 YX7_ownSlug 1 dX7_countCorrected_15 moX7_ownSlug mvX7_ownSlug mlX7_113 g1 rfl rfl (okX7_ownSlug (d := d) e3) rfl rfl [.int v1] rfl rfl (st2 := [.ref t5, .int v1]) rfl ?_
    obtain ⟨g6, H⟩ := gd H
    refine J_getI 7 14 dX7_countCorrected_18 g6 flX7_168 rfl ?_
    refine J_if_eq 28 dX7_countCorrected_21 rfl (fun q7 => ?_) (fun q7 => ?_)
    · replace H := br1 q7 H
      refine J_iconst (0 : Int32) dX7_countCorrected_28 kc_0 ?_
      exact J_dr (kX7_countCorrected_29 H hb0 hx) ⟨rfl, ⟨rfl, trivial⟩⟩
    · replace H := br0 q7 H
      refine J_iconst (1 : Int32) dX7_countCorrected_24 kc_1 ?_
      refine J_goto 29 dX7_countCorrected_25 rfl ?_
      exact J_dr (kX7_countCorrected_29 H hb0 hx) ⟨rfl, ⟨rfl, trivial⟩⟩
noncomputable def MX7_countCorrected_4 (h : Hp) (v0 : Nat) (v1 : Int32) (v2 : Int32) : Option (Int32 × Hp) := it (fun q : Int32 × Int32 × Hp => BX7_countCorrected_4 q.2.2 v0 q.1 q.2.1) (v1, v2, h)
set_option maxRecDepth 100000 in
set_option maxHeartbeats 8000000 in
theorem kX7_countCorrected_4 {d : Nat} {h : Hp} {v0 : Nat} {v1 : Int32} {v2 : Int32} {r : Int32} {h9 : Hp} (H : MX7_countCorrected_4 h v0 v1 v2 = some (r, h9)) : J (d + 2) YX7_countCorrected 4 [.ref v0, .int v1, .int v2] [] h (oI r) h9 := by
  unfold MX7_countCorrected_4 at H
  refine it_J (G := (fun q : Int32 × Int32 × Hp => J (d + 2) YX7_countCorrected 4 [.ref v0, .int q.1, .int q.2.1] [] q.2.2 (oI r) h9)) (Q := (fun y : (Int32 × Hp) => y = (r, h9))) (fun q x Hq hm => ?_) H rfl
  exact bX7_countCorrected_4 Hq (fun s hs => by subst hs; exact hm) (fun z hz => by subst hz; exact hm)
noncomputable def MX7_countCorrected (h : Hp) (v0 : Nat) : Option (Int32 × Hp) :=
  MX7_countCorrected_4 h v0 (0 : Int32) (0 : Int32)
set_option maxRecDepth 100000 in
set_option maxHeartbeats 8000000 in
theorem eX7_countCorrected {d : Nat} {h : Hp} {v0 : Nat} {r : Int32} {h9 : Hp} (H : MX7_countCorrected h v0 = some (r, h9)) : J (d + 2) YX7_countCorrected 0 [.ref v0, Value.null, Value.null] [] h (oI r) h9 := by
  unfold MX7_countCorrected at H
  refine J_iconst (0 : Int32) dX7_countCorrected_0 kc_0 ?_
  refine J_istore_n 1 dX7_countCorrected_1 rfl (by decide) (ls' := [.ref v0, .int (0 : Int32), Value.null]) rfl ?_
  refine J_iconst (0 : Int32) dX7_countCorrected_2 kc_0 ?_
  refine J_istore_n 2 dX7_countCorrected_3 rfl (by decide) (ls' := [.ref v0, .int (0 : Int32), .int (0 : Int32)]) rfl ?_
  exact J_dr (kX7_countCorrected_4 H ) ⟨rfl, ⟨rfl, ⟨rfl, trivial⟩⟩⟩
theorem okX7_countCorrected {d : Nat} {h : Hp} {v0 : Nat} {r : Int32} {h9 : Hp} (H : MX7_countCorrected h v0 = some (r, h9)) : CT (d + 2) YX7_countCorrected [.ref v0] h (oI r) h9 := CT_of (by decide +kernel) (Nat.le_of_ble_eq_true rfl) (eX7_countCorrected H)
noncomputable def MX7_countRead_78 (h : Hp) (v0 : Nat) (v1 : Int32) (v2 : Int32) (v4 : Int32) (s0 : Int32) (s1 : Int32) : Option ((Int32 × Int32 × Hp) ⊕ (Int32 × Hp)) :=
  some (.inl ((s0 + s1), (v4 + (1 : Int32)), h))
set_option maxRecDepth 100000 in
set_option maxHeartbeats 8000000 in
theorem kX7_countRead_78 {d : Nat} {h : Hp} {v0 : Nat} {v1 : Int32} {v2 : Int32} {v4 : Int32} {s0 : Int32} {s1 : Int32} {r : Int32} {h9 : Hp} {x : ((Int32 × Int32 × Hp) ⊕ (Int32 × Hp))} (H : MX7_countRead_78 h v0 v1 v2 v4 s0 s1 = some x) (hb0 : ∀ s : Int32 × Int32 × Hp, x = .inl s → J (d + 2) YX7_countRead 5 [.ref v0, .int v1, .int v2, .int s.1, .int s.2.1, Value.null, Value.null, Value.null] [] s.2.2 (oI r) h9) (hx : ∀ z : (Int32 × Hp), x = .inr (z) → z = (r, h9)) : J (d + 2) YX7_countRead 78 [.ref v0, .int v1, .int v2, Value.null, .int v4, Value.null, Value.null, Value.null] [.int s1, .int s0] h (oI r) h9 := by
  unfold MX7_countRead_78 at H
  refine J_iadd dX7_countRead_78 ?_
  refine J_istore_n 3 dX7_countRead_79 rfl (by decide) (ls' := [.ref v0, .int v1, .int v2, .int (s0 + s1), .int v4, Value.null, Value.null, Value.null]) rfl ?_
  refine J_iinc (v4 + (1 : Int32)) dX7_countRead_80 rfl (congrArg (HAdd.hAdd v4) kc_1) (by decide) (ls' := [.ref v0, .int v1, .int v2, .int (s0 + s1), .int (v4 + (1 : Int32)), Value.null, Value.null, Value.null]) rfl ?_
  refine J_goto 5 dX7_countRead_83 rfl ?_
  cases H
  exact J_dr (hb0 _ rfl) ⟨rfl, ⟨rfl, ⟨rfl, ⟨rfl, ⟨rfl, trivial⟩⟩⟩⟩⟩
noncomputable def MX7_countRead_77 (h : Hp) (v0 : Nat) (v1 : Int32) (v2 : Int32) (v4 : Int32) (s0 : Int32) : Option ((Int32 × Int32 × Hp) ⊕ (Int32 × Hp)) :=
  MX7_countRead_78 h v0 v1 v2 v4 s0 (0 : Int32)
set_option maxRecDepth 100000 in
set_option maxHeartbeats 8000000 in
theorem kX7_countRead_77 {d : Nat} {h : Hp} {v0 : Nat} {v1 : Int32} {v2 : Int32} {v4 : Int32} {s0 : Int32} {r : Int32} {h9 : Hp} {x : ((Int32 × Int32 × Hp) ⊕ (Int32 × Hp))} (H : MX7_countRead_77 h v0 v1 v2 v4 s0 = some x) (hb0 : ∀ s : Int32 × Int32 × Hp, x = .inl s → J (d + 2) YX7_countRead 5 [.ref v0, .int v1, .int v2, .int s.1, .int s.2.1, Value.null, Value.null, Value.null] [] s.2.2 (oI r) h9) (hx : ∀ z : (Int32 × Hp), x = .inr (z) → z = (r, h9)) : J (d + 2) YX7_countRead 77 [.ref v0, .int v1, .int v2, Value.null, .int v4, Value.null, Value.null, Value.null] [.int s0] h (oI r) h9 := by
  unfold MX7_countRead_77 at H
  refine J_iconst (0 : Int32) dX7_countRead_77 kc_0 ?_
  exact J_dr (kX7_countRead_78 H hb0 hx) ⟨rfl, ⟨rfl, ⟨rfl, ⟨rfl, trivial⟩⟩⟩⟩
noncomputable def MX7_countRead_50 (h : Hp) (v0 : Nat) (v1 : Int32) (v2 : Int32) (v3 : Int32) (v4 : Int32) (v5 : Nat) (v6 : Int32) (s0 : Int32) : Option ((Int32 × Int32 × Hp) ⊕ (Int32 × Hp)) :=
  gg (β := ((Int32 × Int32 × Hp) ⊕ (Int32 × Hp))) (kd h v5 = 7) <|
  if (gI h v5 10) = 0 then
    if v6 = v1 then
      if s0 = v2 then
        MX7_countRead_78 h v0 v1 v2 v4 v3 (1 : Int32)
      else
        MX7_countRead_77 h v0 v1 v2 v4 v3
    else
      MX7_countRead_77 h v0 v1 v2 v4 v3
  else
    MX7_countRead_77 h v0 v1 v2 v4 v3
set_option maxRecDepth 100000 in
set_option maxHeartbeats 8000000 in
theorem kX7_countRead_50 {d : Nat} {h : Hp} {v0 : Nat} {v1 : Int32} {v2 : Int32} {v3 : Int32} {v4 : Int32} {v5 : Nat} {v6 : Int32} {s0 : Int32} {r : Int32} {h9 : Hp} {x : ((Int32 × Int32 × Hp) ⊕ (Int32 × Hp))} (H : MX7_countRead_50 h v0 v1 v2 v3 v4 v5 v6 s0 = some x) (hb0 : ∀ s : Int32 × Int32 × Hp, x = .inl s → J (d + 2) YX7_countRead 5 [.ref v0, .int v1, .int v2, .int s.1, .int s.2.1, Value.null, Value.null, Value.null] [] s.2.2 (oI r) h9) (hx : ∀ z : (Int32 × Hp), x = .inr (z) → z = (r, h9)) : J (d + 2) YX7_countRead 50 [.ref v0, .int v1, .int v2, .int v3, .int v4, .ref v5, .int v6, Value.null] [.int s0] h (oI r) h9 := by
  unfold MX7_countRead_50 at H
  refine J_istore dX7_countRead_50 (by decide) (ls' := [.ref v0, .int v1, .int v2, .int v3, .int v4, .ref v5, .int v6, .int s0]) rfl ?_
  refine J_iload_n 3 dX7_countRead_52 rfl rfl ?_
  refine J_aload dX7_countRead_53 rfl ?_
  obtain ⟨g10, H⟩ := gd H
  refine J_getI 7 10 dX7_countRead_55 g10 flX7_318 rfl ?_
  refine J_if_ne 77 dX7_countRead_58 rfl (fun q11 => ?_) (fun q11 => ?_)
  · replace H := br0 q11 H
    exact J_dr (kX7_countRead_77 H hb0 hx) ⟨rfl, ⟨rfl, ⟨rfl, ⟨rfl, trivial⟩⟩⟩⟩
  · replace H := br1 q11 H
    refine J_iload dX7_countRead_61 rfl ?_
    refine J_iload_n 1 dX7_countRead_63 rfl rfl ?_
    refine J_icmp_ne 77 dX7_countRead_64 rfl (fun q12 => ?_) (fun q12 => ?_)
    · replace H := br0 q12 H
      exact J_dr (kX7_countRead_77 H hb0 hx) ⟨rfl, ⟨rfl, ⟨rfl, ⟨rfl, trivial⟩⟩⟩⟩
    · replace H := br1 q12 H
      refine J_iload dX7_countRead_67 rfl ?_
      refine J_iload_n 2 dX7_countRead_69 rfl rfl ?_
      refine J_icmp_ne 77 dX7_countRead_70 rfl (fun q13 => ?_) (fun q13 => ?_)
      · replace H := br0 q13 H
        exact J_dr (kX7_countRead_77 H hb0 hx) ⟨rfl, ⟨rfl, ⟨rfl, ⟨rfl, trivial⟩⟩⟩⟩
      · replace H := br1 q13 H
        refine J_iconst (1 : Int32) dX7_countRead_73 kc_1 ?_
        refine J_goto 78 dX7_countRead_74 rfl ?_
        exact J_dr (kX7_countRead_78 H hb0 hx) ⟨rfl, ⟨rfl, ⟨rfl, ⟨rfl, trivial⟩⟩⟩⟩
noncomputable def MX7_countRead_35 (h : Hp) (v0 : Nat) (v1 : Int32) (v2 : Int32) (v3 : Int32) (v4 : Int32) (v5 : Nat) (s0 : Int32) : Option ((Int32 × Int32 × Hp) ⊕ (Int32 × Hp)) :=
  gg (β := ((Int32 × Int32 × Hp) ⊕ (Int32 × Hp))) (kd h v5 = 7) <|
  if (gI h v5 4) ≤ 0 then
    MX7_countRead_50 h v0 v1 v2 v3 v4 v5 s0 (0 : Int32)
  else
    MX7_countRead_50 h v0 v1 v2 v3 v4 v5 s0 (1 : Int32)
set_option maxRecDepth 100000 in
set_option maxHeartbeats 8000000 in
theorem kX7_countRead_35 {d : Nat} {h : Hp} {v0 : Nat} {v1 : Int32} {v2 : Int32} {v3 : Int32} {v4 : Int32} {v5 : Nat} {s0 : Int32} {r : Int32} {h9 : Hp} {x : ((Int32 × Int32 × Hp) ⊕ (Int32 × Hp))} (H : MX7_countRead_35 h v0 v1 v2 v3 v4 v5 s0 = some x) (hb0 : ∀ s : Int32 × Int32 × Hp, x = .inl s → J (d + 2) YX7_countRead 5 [.ref v0, .int v1, .int v2, .int s.1, .int s.2.1, Value.null, Value.null, Value.null] [] s.2.2 (oI r) h9) (hx : ∀ z : (Int32 × Hp), x = .inr (z) → z = (r, h9)) : J (d + 2) YX7_countRead 35 [.ref v0, .int v1, .int v2, .int v3, .int v4, .ref v5, Value.null, Value.null] [.int s0] h (oI r) h9 := by
  unfold MX7_countRead_35 at H
  refine J_istore dX7_countRead_35 (by decide) (ls' := [.ref v0, .int v1, .int v2, .int v3, .int v4, .ref v5, .int s0, Value.null]) rfl ?_
  refine J_aload dX7_countRead_37 rfl ?_
  obtain ⟨g8, H⟩ := gd H
  refine J_getI 7 4 dX7_countRead_39 g8 flX7_381 rfl ?_
  refine J_if_le 49 dX7_countRead_42 rfl (fun q9 => ?_) (fun q9 => ?_)
  · replace H := br1 q9 H
    refine J_iconst (0 : Int32) dX7_countRead_49 kc_0 ?_
    exact J_dr (kX7_countRead_50 H hb0 hx) ⟨rfl, ⟨rfl, ⟨rfl, ⟨rfl, ⟨rfl, ⟨rfl, ⟨rfl, trivial⟩⟩⟩⟩⟩⟩⟩
  · replace H := br0 q9 H
    refine J_iconst (1 : Int32) dX7_countRead_45 kc_1 ?_
    refine J_goto 50 dX7_countRead_46 rfl ?_
    exact J_dr (kX7_countRead_50 H hb0 hx) ⟨rfl, ⟨rfl, ⟨rfl, ⟨rfl, ⟨rfl, ⟨rfl, ⟨rfl, trivial⟩⟩⟩⟩⟩⟩⟩
noncomputable def BX7_countRead_5 (h : Hp) (v0 : Nat) (v1 : Int32) (v2 : Int32) (v3 : Int32) (v4 : Int32) : Option ((Int32 × Int32 × Hp) ⊕ (Int32 × Hp)) :=
  gg (β := ((Int32 × Int32 × Hp) ⊕ (Int32 × Hp))) (kd h v0 = 6) <|
  if (gI h v0 11) ≤ v4 then
    some (.inr ((v3, h)))
  else
    b2 (α := Nat) (β := Hp) (γ := ((Int32 × Int32 × Hp) ⊕ (Int32 × Hp))) (MX7_ownSlug h v0 v4) fun (t5 : Nat) (h4 : Hp) =>
    gg (β := ((Int32 × Int32 × Hp) ⊕ (Int32 × Hp))) (kd h4 t5 = 7) <|
    if (gI h4 t5 13) = 0 then
      MX7_countRead_35 h4 v0 v1 v2 v3 v4 t5 (0 : Int32)
    else
      MX7_countRead_35 h4 v0 v1 v2 v3 v4 t5 (1 : Int32)
set_option maxRecDepth 100000 in
set_option maxHeartbeats 8000000 in
theorem bX7_countRead_5 {d : Nat} {h : Hp} {v0 : Nat} {v1 : Int32} {v2 : Int32} {v3 : Int32} {v4 : Int32} {r : Int32} {h9 : Hp} {x : ((Int32 × Int32 × Hp) ⊕ (Int32 × Hp))} (H : BX7_countRead_5 h v0 v1 v2 v3 v4 = some x) (hb0 : ∀ s : Int32 × Int32 × Hp, x = .inl s → J (d + 2) YX7_countRead 5 [.ref v0, .int v1, .int v2, .int s.1, .int s.2.1, Value.null, Value.null, Value.null] [] s.2.2 (oI r) h9) (hx : ∀ z : (Int32 × Hp), x = .inr (z) → z = (r, h9)) : J (d + 2) YX7_countRead 5 [.ref v0, .int v1, .int v2, .int v3, .int v4, Value.null, Value.null, Value.null] [] h (oI r) h9 := by
  unfold BX7_countRead_5 at H
  refine J_iload dX7_countRead_5 rfl ?_
  refine J_aload_n 0 dX7_countRead_7 rfl rfl ?_
  obtain ⟨g1, H⟩ := gd H
  refine J_getI 6 11 dX7_countRead_8 g1 flX7_60 rfl ?_
  refine J_icmp_ge 86 dX7_countRead_11 rfl (fun q2 => ?_) (fun q2 => ?_)
  · replace H := br1 q2 H
    refine J_iload_n 3 dX7_countRead_86 rfl rfl ?_
    cases H
    cases hx _ rfl
    exact J_iretI dX7_countRead_87 rfl
  · replace H := br0 q2 H
    refine J_aload_n 0 dX7_countRead_14 rfl rfl ?_
    refine J_iload dX7_countRead_15 rfl ?_
    obtain ⟨t5, h4, e3, H⟩ := b2_el H
    refine J_cV (as := [.int v4]) 6 YX7_ownSlug 1 dX7_countRead_17 moX7_ownSlug mvX7_ownSlug mlX7_113 g1 rfl rfl (okX7_ownSlug (d := d) e3) rfl rfl [] rfl rfl (st2 := [.ref t5]) rfl ?_
    refine J_astore dX7_countRead_20 (by decide) (ls' := [.ref v0, .int v1, .int v2, .int v3, .int v4, .ref t5, Value.null, Value.null]) rfl ?_
    refine J_aload dX7_countRead_22 rfl ?_
    obtain ⟨g6, H⟩ := gd H
    refine J_getI 7 13 dX7_countRead_24 g6 flX7_378 rfl ?_
    refine J_if_eq 34 dX7_countRead_27 rfl (fun q7 => ?_) (fun q7 => ?_)
    · replace H := br1 q7 H
      refine J_iconst (0 : Int32) dX7_countRead_34 kc_0 ?_
      exact J_dr (kX7_countRead_35 H hb0 hx) ⟨rfl, ⟨rfl, ⟨rfl, ⟨rfl, ⟨rfl, ⟨rfl, trivial⟩⟩⟩⟩⟩⟩
    · replace H := br0 q7 H
      refine J_iconst (1 : Int32) dX7_countRead_30 kc_1 ?_
      refine J_goto 35 dX7_countRead_31 rfl ?_
      exact J_dr (kX7_countRead_35 H hb0 hx) ⟨rfl, ⟨rfl, ⟨rfl, ⟨rfl, ⟨rfl, ⟨rfl, trivial⟩⟩⟩⟩⟩⟩
noncomputable def MX7_countRead_5 (h : Hp) (v0 : Nat) (v1 : Int32) (v2 : Int32) (v3 : Int32) (v4 : Int32) : Option (Int32 × Hp) := it (fun q : Int32 × Int32 × Hp => BX7_countRead_5 q.2.2 v0 v1 v2 q.1 q.2.1) (v3, v4, h)
set_option maxRecDepth 100000 in
set_option maxHeartbeats 8000000 in
theorem kX7_countRead_5 {d : Nat} {h : Hp} {v0 : Nat} {v1 : Int32} {v2 : Int32} {v3 : Int32} {v4 : Int32} {r : Int32} {h9 : Hp} (H : MX7_countRead_5 h v0 v1 v2 v3 v4 = some (r, h9)) : J (d + 2) YX7_countRead 5 [.ref v0, .int v1, .int v2, .int v3, .int v4, Value.null, Value.null, Value.null] [] h (oI r) h9 := by
  unfold MX7_countRead_5 at H
  refine it_J (G := (fun q : Int32 × Int32 × Hp => J (d + 2) YX7_countRead 5 [.ref v0, .int v1, .int v2, .int q.1, .int q.2.1, Value.null, Value.null, Value.null] [] q.2.2 (oI r) h9)) (Q := (fun y : (Int32 × Hp) => y = (r, h9))) (fun q x Hq hm => ?_) H rfl
  exact bX7_countRead_5 Hq (fun s hs => by subst hs; exact hm) (fun z hz => by subst hz; exact hm)
noncomputable def MX7_countRead (h : Hp) (v0 : Nat) (v1 : Int32) (v2 : Int32) : Option (Int32 × Hp) :=
  MX7_countRead_5 h v0 v1 v2 (0 : Int32) (0 : Int32)
set_option maxRecDepth 100000 in
set_option maxHeartbeats 8000000 in
theorem eX7_countRead {d : Nat} {h : Hp} {v0 : Nat} {v1 : Int32} {v2 : Int32} {r : Int32} {h9 : Hp} (H : MX7_countRead h v0 v1 v2 = some (r, h9)) : J (d + 2) YX7_countRead 0 [.ref v0, .int v1, .int v2, Value.null, Value.null, Value.null, Value.null, Value.null] [] h (oI r) h9 := by
  unfold MX7_countRead at H
  refine J_iconst (0 : Int32) dX7_countRead_0 kc_0 ?_
  refine J_istore_n 3 dX7_countRead_1 rfl (by decide) (ls' := [.ref v0, .int v1, .int v2, .int (0 : Int32), Value.null, Value.null, Value.null, Value.null]) rfl ?_
  refine J_iconst (0 : Int32) dX7_countRead_2 kc_0 ?_
  refine J_istore dX7_countRead_3 (by decide) (ls' := [.ref v0, .int v1, .int v2, .int (0 : Int32), .int (0 : Int32), Value.null, Value.null, Value.null]) rfl ?_
  exact J_dr (kX7_countRead_5 H ) ⟨rfl, ⟨rfl, ⟨rfl, ⟨rfl, ⟨rfl, trivial⟩⟩⟩⟩⟩
theorem okX7_countRead {d : Nat} {h : Hp} {v0 : Nat} {v1 : Int32} {v2 : Int32} {r : Int32} {h9 : Hp} (H : MX7_countRead h v0 v1 v2 = some (r, h9)) : CT (d + 2) YX7_countRead [.ref v0, .int v1, .int v2] h (oI r) h9 := CT_of (by decide +kernel) (Nat.le_of_ble_eq_true rfl) (eX7_countRead H)
noncomputable def MX7_countState_30 (h : Hp) (v0 : Nat) (v1 : Int32) (v3 : Int32) (s0 : Int32) (s1 : Int32) : Option ((Int32 × Int32 × Hp) ⊕ (Int32 × Hp)) :=
  some (.inl ((s0 + s1), (v3 + (1 : Int32)), h))
set_option maxRecDepth 100000 in
set_option maxHeartbeats 8000000 in
theorem kX7_countState_30 {d : Nat} {h : Hp} {v0 : Nat} {v1 : Int32} {v3 : Int32} {s0 : Int32} {s1 : Int32} {r : Int32} {h9 : Hp} {x : ((Int32 × Int32 × Hp) ⊕ (Int32 × Hp))} (H : MX7_countState_30 h v0 v1 v3 s0 s1 = some x) (hb0 : ∀ s : Int32 × Int32 × Hp, x = .inl s → J (d + 2) YX7_countState 4 [.ref v0, .int v1, .int s.1, .int s.2.1] [] s.2.2 (oI r) h9) (hx : ∀ z : (Int32 × Hp), x = .inr (z) → z = (r, h9)) : J (d + 2) YX7_countState 30 [.ref v0, .int v1, Value.null, .int v3] [.int s1, .int s0] h (oI r) h9 := by
  unfold MX7_countState_30 at H
  refine J_iadd dX7_countState_30 ?_
  refine J_istore_n 2 dX7_countState_31 rfl (by decide) (ls' := [.ref v0, .int v1, .int (s0 + s1), .int v3]) rfl ?_
  refine J_iinc (v3 + (1 : Int32)) dX7_countState_32 rfl (congrArg (HAdd.hAdd v3) kc_1) (by decide) (ls' := [.ref v0, .int v1, .int (s0 + s1), .int (v3 + (1 : Int32))]) rfl ?_
  refine J_goto 4 dX7_countState_35 rfl ?_
  cases H
  exact J_dr (hb0 _ rfl) ⟨rfl, ⟨rfl, ⟨rfl, ⟨rfl, trivial⟩⟩⟩⟩
noncomputable def BX7_countState_4 (h : Hp) (v0 : Nat) (v1 : Int32) (v2 : Int32) (v3 : Int32) : Option ((Int32 × Int32 × Hp) ⊕ (Int32 × Hp)) :=
  gg (β := ((Int32 × Int32 × Hp) ⊕ (Int32 × Hp))) (kd h v0 = 6) <|
  if (gI h v0 11) ≤ v3 then
    some (.inr ((v2, h)))
  else
    b2 (α := Nat) (β := Hp) (γ := ((Int32 × Int32 × Hp) ⊕ (Int32 × Hp))) (MX7_ownSlug h v0 v3) fun (t5 : Nat) (h4 : Hp) =>
    gg (β := ((Int32 × Int32 × Hp) ⊕ (Int32 × Hp))) (kd h4 t5 = 7) <|
    if (gI h4 t5 10) = v1 then
      MX7_countState_30 h4 v0 v1 v3 v2 (1 : Int32)
    else
      MX7_countState_30 h4 v0 v1 v3 v2 (0 : Int32)
set_option maxRecDepth 100000 in
set_option maxHeartbeats 8000000 in
theorem bX7_countState_4 {d : Nat} {h : Hp} {v0 : Nat} {v1 : Int32} {v2 : Int32} {v3 : Int32} {r : Int32} {h9 : Hp} {x : ((Int32 × Int32 × Hp) ⊕ (Int32 × Hp))} (H : BX7_countState_4 h v0 v1 v2 v3 = some x) (hb0 : ∀ s : Int32 × Int32 × Hp, x = .inl s → J (d + 2) YX7_countState 4 [.ref v0, .int v1, .int s.1, .int s.2.1] [] s.2.2 (oI r) h9) (hx : ∀ z : (Int32 × Hp), x = .inr (z) → z = (r, h9)) : J (d + 2) YX7_countState 4 [.ref v0, .int v1, .int v2, .int v3] [] h (oI r) h9 := by
  unfold BX7_countState_4 at H
  refine J_iload_n 3 dX7_countState_4 rfl rfl ?_
  refine J_aload_n 0 dX7_countState_5 rfl rfl ?_
  obtain ⟨g1, H⟩ := gd H
  refine J_getI 6 11 dX7_countState_6 g1 flX7_60 rfl ?_
  refine J_icmp_ge 38 dX7_countState_9 rfl (fun q2 => ?_) (fun q2 => ?_)
  · replace H := br1 q2 H
    refine J_iload_n 2 dX7_countState_38 rfl rfl ?_
    cases H
    cases hx _ rfl
    exact J_iretI dX7_countState_39 rfl
  · replace H := br0 q2 H
    refine J_iload_n 2 dX7_countState_12 rfl rfl ?_
    refine J_aload_n 0 dX7_countState_13 rfl rfl ?_
    refine J_iload_n 3 dX7_countState_14 rfl rfl ?_
    obtain ⟨t5, h4, e3, H⟩ := b2_el H
    refine J_cV (as := [.int v3]) 6 YX7_ownSlug 1 dX7_countState_15 moX7_ownSlug mvX7_ownSlug mlX7_113 g1 rfl rfl (okX7_ownSlug (d := d) e3) rfl rfl [.int v2] rfl rfl (st2 := [.ref t5, .int v2]) rfl ?_
    obtain ⟨g6, H⟩ := gd H
    refine J_getI 7 10 dX7_countState_18 g6 flX7_318 rfl ?_
    refine J_iload_n 1 dX7_countState_21 rfl rfl ?_
    refine J_icmp_ne 29 dX7_countState_22 rfl (fun q7 => ?_) (fun q7 => ?_)
    · replace H := br0 q7 H
      refine J_iconst (0 : Int32) dX7_countState_29 kc_0 ?_
      exact J_dr (kX7_countState_30 H hb0 hx) ⟨rfl, ⟨rfl, ⟨rfl, trivial⟩⟩⟩
    · replace H := br1 q7 H
      refine J_iconst (1 : Int32) dX7_countState_25 kc_1 ?_
      refine J_goto 30 dX7_countState_26 rfl ?_
      exact J_dr (kX7_countState_30 H hb0 hx) ⟨rfl, ⟨rfl, ⟨rfl, trivial⟩⟩⟩
noncomputable def MX7_countState_4 (h : Hp) (v0 : Nat) (v1 : Int32) (v2 : Int32) (v3 : Int32) : Option (Int32 × Hp) := it (fun q : Int32 × Int32 × Hp => BX7_countState_4 q.2.2 v0 v1 q.1 q.2.1) (v2, v3, h)
set_option maxRecDepth 100000 in
set_option maxHeartbeats 8000000 in
theorem kX7_countState_4 {d : Nat} {h : Hp} {v0 : Nat} {v1 : Int32} {v2 : Int32} {v3 : Int32} {r : Int32} {h9 : Hp} (H : MX7_countState_4 h v0 v1 v2 v3 = some (r, h9)) : J (d + 2) YX7_countState 4 [.ref v0, .int v1, .int v2, .int v3] [] h (oI r) h9 := by
  unfold MX7_countState_4 at H
  refine it_J (G := (fun q : Int32 × Int32 × Hp => J (d + 2) YX7_countState 4 [.ref v0, .int v1, .int q.1, .int q.2.1] [] q.2.2 (oI r) h9)) (Q := (fun y : (Int32 × Hp) => y = (r, h9))) (fun q x Hq hm => ?_) H rfl
  exact bX7_countState_4 Hq (fun s hs => by subst hs; exact hm) (fun z hz => by subst hz; exact hm)
noncomputable def MX7_countState (h : Hp) (v0 : Nat) (v1 : Int32) : Option (Int32 × Hp) :=
  MX7_countState_4 h v0 v1 (0 : Int32) (0 : Int32)
set_option maxRecDepth 100000 in
set_option maxHeartbeats 8000000 in
theorem eX7_countState {d : Nat} {h : Hp} {v0 : Nat} {v1 : Int32} {r : Int32} {h9 : Hp} (H : MX7_countState h v0 v1 = some (r, h9)) : J (d + 2) YX7_countState 0 [.ref v0, .int v1, Value.null, Value.null] [] h (oI r) h9 := by
  unfold MX7_countState at H
  refine J_iconst (0 : Int32) dX7_countState_0 kc_0 ?_
  refine J_istore_n 2 dX7_countState_1 rfl (by decide) (ls' := [.ref v0, .int v1, .int (0 : Int32), Value.null]) rfl ?_
  refine J_iconst (0 : Int32) dX7_countState_2 kc_0 ?_
  refine J_istore_n 3 dX7_countState_3 rfl (by decide) (ls' := [.ref v0, .int v1, .int (0 : Int32), .int (0 : Int32)]) rfl ?_
  exact J_dr (kX7_countState_4 H ) ⟨rfl, ⟨rfl, ⟨rfl, ⟨rfl, trivial⟩⟩⟩⟩
theorem okX7_countState {d : Nat} {h : Hp} {v0 : Nat} {v1 : Int32} {r : Int32} {h9 : Hp} (H : MX7_countState h v0 v1 = some (r, h9)) : CT (d + 2) YX7_countState [.ref v0, .int v1] h (oI r) h9 := CT_of (by decide +kernel) (Nat.le_of_ble_eq_true rfl) (eX7_countState H)
noncomputable def MX7_rulesNow (h : Hp) (v0 : Nat) : Option (Int32 × Hp) :=
  gg (β := (Int32 × Hp)) (kd h v0 = 6) <|
  b2 (α := Nat) (β := Hp) (γ := (Int32 × Hp)) (MX7_styleAt h v0 (gI h v0 0)) fun (t4 : Nat) (h3 : Hp) =>
  gg (β := (Int32 × Hp)) (kd h3 t4 = 8) <|
  some ((gI h3 t4 1), h3)
set_option maxRecDepth 100000 in
set_option maxHeartbeats 8000000 in
theorem eX7_rulesNow {d : Nat} {h : Hp} {v0 : Nat} {r : Int32} {h9 : Hp} (H : MX7_rulesNow h v0 = some (r, h9)) : J (d + 3) YX7_rulesNow 0 [.ref v0] [] h (oI r) h9 := by
  unfold MX7_rulesNow at H
  refine J_aload_n 0 dX7_rulesNow_0 rfl rfl ?_
  refine J_aload_n 0 dX7_rulesNow_1 rfl rfl ?_
  obtain ⟨g1, H⟩ := gd H
  refine J_getI 6 0 dX7_rulesNow_2 g1 flX7_9 rfl ?_
  obtain ⟨t4, h3, e2, H⟩ := b2_el H
  refine J_cV (as := [.int (gI h v0 0)]) 6 YX7_styleAt 1 dX7_rulesNow_5 moX7_styleAt mvX7_styleAt mlX7_145 g1 rfl rfl (okX7_styleAt (d := d) e2) rfl rfl [] rfl rfl (st2 := [.ref t4]) rfl ?_
  obtain ⟨g5, H⟩ := gd H
  refine J_getI 8 1 dX7_rulesNow_8 g5 flX7_148 rfl ?_
  cases H
  exact J_iretI dX7_rulesNow_11 rfl
theorem okX7_rulesNow {d : Nat} {h : Hp} {v0 : Nat} {r : Int32} {h9 : Hp} (H : MX7_rulesNow h v0 = some (r, h9)) : CT (d + 3) YX7_rulesNow [.ref v0] h (oI r) h9 := CT_of (by decide +kernel) (Nat.le_of_ble_eq_true rfl) (eX7_rulesNow H)
noncomputable def MX11_count (h : Hp) (v0 : Nat) (v1 : Int32) : Option (Int32 × Hp) :=
  if v1 = (0 : Int32) then
    gg (β := (Int32 × Hp)) (kd h v0 = 10) <|
    gg (β := (Int32 × Hp)) (kd h (gP h v0 5) = 6) <|
    some ((gI h (gP h v0 5) 0), h)
  else
  if v1 = (1 : Int32) then
    gg (β := (Int32 × Hp)) (kd h v0 = 10) <|
    gg (β := (Int32 × Hp)) (kd h (gP h v0 5) = 6) <|
    some ((gI h (gP h v0 5) 7), h)
  else
  if v1 = (2 : Int32) then
    gg (β := (Int32 × Hp)) (kd h v0 = 10) <|
    gg (β := (Int32 × Hp)) (kd h (gP h v0 5) = 6) <|
    b2 (α := Int32) (β := Hp) (γ := (Int32 × Hp)) (MX7_rulesNow h (gP h v0 5)) fun (t9 : Int32) (h8 : Hp) =>
    some (t9, h8)
  else
  if v1 = (3 : Int32) then
    gg (β := (Int32 × Hp)) (kd h v0 = 10) <|
    gg (β := (Int32 × Hp)) (kd h (gP h v0 5) = 6) <|
    some ((gI h (gP h v0 5) 9), h)
  else
  if v1 = (4 : Int32) then
    gg (β := (Int32 × Hp)) (kd h v0 = 10) <|
    gg (β := (Int32 × Hp)) (kd h (gP h v0 5) = 6) <|
    some ((gI h (gP h v0 5) 11), h)
  else
  if v1 = (5 : Int32) then
    gg (β := (Int32 × Hp)) (kd h v0 = 10) <|
    gg (β := (Int32 × Hp)) (kd h (gP h v0 5) = 6) <|
    b2 (α := Int32) (β := Hp) (γ := (Int32 × Hp)) (MX7_countState h (gP h v0 5) (0 : Int32)) fun (t18 : Int32) (h17 : Hp) =>
    some (t18, h17)
  else
  if v1 = (6 : Int32) then
    gg (β := (Int32 × Hp)) (kd h v0 = 10) <|
    gg (β := (Int32 × Hp)) (kd h (gP h v0 5) = 6) <|
    b2 (α := Int32) (β := Hp) (γ := (Int32 × Hp)) (MX7_countState h (gP h v0 5) (1 : Int32)) fun (t23 : Int32) (h22 : Hp) =>
    some (t23, h22)
  else
  if v1 = (7 : Int32) then
    gg (β := (Int32 × Hp)) (kd h v0 = 10) <|
    gg (β := (Int32 × Hp)) (kd h (gP h v0 5) = 6) <|
    b2 (α := Int32) (β := Hp) (γ := (Int32 × Hp)) (MX7_countState h (gP h v0 5) (2 : Int32)) fun (t28 : Int32) (h27 : Hp) =>
    some (t28, h27)
  else
  if v1 = (8 : Int32) then
    gg (β := (Int32 × Hp)) (kd h v0 = 10) <|
    gg (β := (Int32 × Hp)) (kd h (gP h v0 5) = 6) <|
    b2 (α := Int32) (β := Hp) (γ := (Int32 × Hp)) (MX7_countCorrected h (gP h v0 5)) fun (t33 : Int32) (h32 : Hp) =>
    some (t33, h32)
  else
  if v1 = (9 : Int32) then
    gg (β := (Int32 × Hp)) (kd h v0 = 10) <|
    gg (β := (Int32 × Hp)) (kd h (gP h v0 5) = 6) <|
    b2 (α := Int32) (β := Hp) (γ := (Int32 × Hp)) (MX7_countRead h (gP h v0 5) (1 : Int32) (1 : Int32)) fun (t38 : Int32) (h37 : Hp) =>
    gg (β := (Int32 × Hp)) (kd h37 v0 = 10) <|
    gg (β := (Int32 × Hp)) (kd h37 (gP h37 v0 5) = 6) <|
    b2 (α := Int32) (β := Hp) (γ := (Int32 × Hp)) (MX7_countRead h37 (gP h37 v0 5) (0 : Int32) (1 : Int32)) fun (t43 : Int32) (h42 : Hp) =>
    some ((t38 + t43), h42)
  else
  if v1 = (10 : Int32) then
    gg (β := (Int32 × Hp)) (kd h v0 = 10) <|
    gg (β := (Int32 × Hp)) (kd h (gP h v0 6) = 1) <|
    some ((gI h (gP h v0 6) 11), h)
  else
  if v1 = (11 : Int32) then
    gg (β := (Int32 × Hp)) (kd h v0 = 10) <|
    gg (β := (Int32 × Hp)) (kd h (gP h v0 6) = 1) <|
    some ((gI h (gP h v0 6) 6), h)
  else
  if v1 = (12 : Int32) then
    gg (β := (Int32 × Hp)) (kd h v0 = 10) <|
    gg (β := (Int32 × Hp)) (kd h (gP h v0 5) = 6) <|
    b2 (α := Int32) (β := Hp) (γ := (Int32 × Hp)) (MX7_countJobs h (gP h v0 5)) fun (t52 : Int32) (h51 : Hp) =>
    some (t52, h51)
  else
  if v1 = (13 : Int32) then
    gg (β := (Int32 × Hp)) (kd h v0 = 10) <|
    gg (β := (Int32 × Hp)) (kd h (gP h v0 5) = 6) <|
    some ((gI h (gP h v0 5) 3), h)
  else
  if v1 = (14 : Int32) then
    gg (β := (Int32 × Hp)) (kd h v0 = 10) <|
    gg (β := (Int32 × Hp)) (kd h (gP h v0 5) = 6) <|
    Option.bind (α := Int32) (β := (Int32 × Hp)) (MX7_rowCount h (gP h v0 5)) fun (t58 : Int32) =>
    some (t58, h)
  else
    some ((-1 : Int32), h)
set_option maxRecDepth 100000 in
set_option maxHeartbeats 8000000 in
theorem eX11_count {d : Nat} {h : Hp} {v0 : Nat} {v1 : Int32} {r : Int32} {h9 : Hp} (H : MX11_count h v0 v1 = some (r, h9)) : J (d + 4) YX11_count 0 [.ref v0, .int v1] [] h (oI r) h9 := by
  unfold MX11_count at H
  refine J_iload_n 1 dX11_count_0 rfl rfl ?_
  by_cases q1000 : v1 = (0 : Int32)
  · replace H := br1 q1000 H
    refine J_tab 76 dX11_count_1 q1000 (by decide) rfl rfl ?_
    refine J_aload_n 0 dX11_count_76 rfl rfl ?_
    obtain ⟨g1, H⟩ := gd H
    refine J_gP 10 5 dX11_count_77 g1 flX11_39 rfl rfl ?_
    obtain ⟨g2, H⟩ := gd H
    refine J_getI 6 0 dX11_count_80 g2 flX11_117 rfl ?_
    cases H
    exact J_iretI dX11_count_83 rfl
  replace H := br0 q1000 H
  by_cases q1001 : v1 = (1 : Int32)
  · replace H := br1 q1001 H
    refine J_tab 84 dX11_count_1 q1001 (by decide) rfl rfl ?_
    refine J_aload_n 0 dX11_count_84 rfl rfl ?_
    obtain ⟨g3, H⟩ := gd H
    refine J_gP 10 5 dX11_count_85 g3 flX11_39 rfl rfl ?_
    obtain ⟨g4, H⟩ := gd H
    refine J_getI 6 7 dX11_count_88 g4 flX11_107 rfl ?_
    cases H
    exact J_iretI dX11_count_91 rfl
  replace H := br0 q1001 H
  by_cases q1002 : v1 = (2 : Int32)
  · replace H := br1 q1002 H
    refine J_tab 92 dX11_count_1 q1002 (by decide) rfl rfl ?_
    refine J_aload_n 0 dX11_count_92 rfl rfl ?_
    obtain ⟨g5, H⟩ := gd H
    refine J_gP 10 5 dX11_count_93 g5 flX11_39 rfl rfl ?_
    obtain ⟨g7, H⟩ := gd H
    obtain ⟨t9, h8, e6, H⟩ := b2_el H
    refine J_cV (as := []) 6 YX7_rulesNow 0 dX11_count_96 moX7_rulesNow mvX7_rulesNow mlX11_498 g7 rfl rfl (okX7_rulesNow (d := d) e6) rfl rfl [] rfl rfl (st2 := [.int t9]) rfl ?_
    cases H
    exact J_iretI dX11_count_99 rfl
  replace H := br0 q1002 H
  by_cases q1003 : v1 = (3 : Int32)
  · replace H := br1 q1003 H
    refine J_tab 100 dX11_count_1 q1003 (by decide) rfl rfl ?_
    refine J_aload_n 0 dX11_count_100 rfl rfl ?_
    obtain ⟨g10, H⟩ := gd H
    refine J_gP 10 5 dX11_count_101 g10 flX11_39 rfl rfl ?_
    obtain ⟨g11, H⟩ := gd H
    refine J_getI 6 9 dX11_count_104 g11 flX11_224 rfl ?_
    cases H
    exact J_iretI dX11_count_107 rfl
  replace H := br0 q1003 H
  by_cases q1004 : v1 = (4 : Int32)
  · replace H := br1 q1004 H
    refine J_tab 108 dX11_count_1 q1004 (by decide) rfl rfl ?_
    refine J_aload_n 0 dX11_count_108 rfl rfl ?_
    obtain ⟨g12, H⟩ := gd H
    refine J_gP 10 5 dX11_count_109 g12 flX11_39 rfl rfl ?_
    obtain ⟨g13, H⟩ := gd H
    refine J_getI 6 11 dX11_count_112 g13 flX11_501 rfl ?_
    cases H
    exact J_iretI dX11_count_115 rfl
  replace H := br0 q1004 H
  by_cases q1005 : v1 = (5 : Int32)
  · replace H := br1 q1005 H
    refine J_tab 116 dX11_count_1 q1005 (by decide) rfl rfl ?_
    refine J_aload_n 0 dX11_count_116 rfl rfl ?_
    obtain ⟨g14, H⟩ := gd H
    refine J_gP 10 5 dX11_count_117 g14 flX11_39 rfl rfl ?_
    refine J_iconst (0 : Int32) dX11_count_120 kc_0 ?_
    obtain ⟨g16, H⟩ := gd H
    obtain ⟨t18, h17, e15, H⟩ := b2_el H
    refine J_cV (as := [.int (0 : Int32)]) 6 YX7_countState 1 dX11_count_121 moX7_countState mvX7_countState mlX11_504 g16 rfl rfl (okX7_countState (d := d + 1) e15) rfl rfl [] rfl rfl (st2 := [.int t18]) rfl ?_
    cases H
    exact J_iretI dX11_count_124 rfl
  replace H := br0 q1005 H
  by_cases q1006 : v1 = (6 : Int32)
  · replace H := br1 q1006 H
    refine J_tab 125 dX11_count_1 q1006 (by decide) rfl rfl ?_
    refine J_aload_n 0 dX11_count_125 rfl rfl ?_
    obtain ⟨g19, H⟩ := gd H
    refine J_gP 10 5 dX11_count_126 g19 flX11_39 rfl rfl ?_
    refine J_iconst (1 : Int32) dX11_count_129 kc_1 ?_
    obtain ⟨g21, H⟩ := gd H
    obtain ⟨t23, h22, e20, H⟩ := b2_el H
    refine J_cV (as := [.int (1 : Int32)]) 6 YX7_countState 1 dX11_count_130 moX7_countState mvX7_countState mlX11_504 g21 rfl rfl (okX7_countState (d := d + 1) e20) rfl rfl [] rfl rfl (st2 := [.int t23]) rfl ?_
    cases H
    exact J_iretI dX11_count_133 rfl
  replace H := br0 q1006 H
  by_cases q1007 : v1 = (7 : Int32)
  · replace H := br1 q1007 H
    refine J_tab 134 dX11_count_1 q1007 (by decide) rfl rfl ?_
    refine J_aload_n 0 dX11_count_134 rfl rfl ?_
    obtain ⟨g24, H⟩ := gd H
    refine J_gP 10 5 dX11_count_135 g24 flX11_39 rfl rfl ?_
    refine J_iconst (2 : Int32) dX11_count_138 kc_2 ?_
    obtain ⟨g26, H⟩ := gd H
    obtain ⟨t28, h27, e25, H⟩ := b2_el H
    refine J_cV (as := [.int (2 : Int32)]) 6 YX7_countState 1 dX11_count_139 moX7_countState mvX7_countState mlX11_504 g26 rfl rfl (okX7_countState (d := d + 1) e25) rfl rfl [] rfl rfl (st2 := [.int t28]) rfl ?_
    cases H
    exact J_iretI dX11_count_142 rfl
  replace H := br0 q1007 H
  by_cases q1008 : v1 = (8 : Int32)
  · replace H := br1 q1008 H
    refine J_tab 143 dX11_count_1 q1008 (by decide) rfl rfl ?_
    refine J_aload_n 0 dX11_count_143 rfl rfl ?_
    obtain ⟨g29, H⟩ := gd H
    refine J_gP 10 5 dX11_count_144 g29 flX11_39 rfl rfl ?_
    obtain ⟨g31, H⟩ := gd H
    obtain ⟨t33, h32, e30, H⟩ := b2_el H
    refine J_cV (as := []) 6 YX7_countCorrected 0 dX11_count_147 moX7_countCorrected mvX7_countCorrected mlX11_507 g31 rfl rfl (okX7_countCorrected (d := d + 1) e30) rfl rfl [] rfl rfl (st2 := [.int t33]) rfl ?_
    cases H
    exact J_iretI dX11_count_150 rfl
  replace H := br0 q1008 H
  by_cases q1009 : v1 = (9 : Int32)
  · replace H := br1 q1009 H
    refine J_tab 151 dX11_count_1 q1009 (by decide) rfl rfl ?_
    refine J_aload_n 0 dX11_count_151 rfl rfl ?_
    obtain ⟨g34, H⟩ := gd H
    refine J_gP 10 5 dX11_count_152 g34 flX11_39 rfl rfl ?_
    refine J_iconst (1 : Int32) dX11_count_155 kc_1 ?_
    refine J_iconst (1 : Int32) dX11_count_156 kc_1 ?_
    obtain ⟨g36, H⟩ := gd H
    obtain ⟨t38, h37, e35, H⟩ := b2_el H
    refine J_cV (as := [.int (1 : Int32), .int (1 : Int32)]) 6 YX7_countRead 2 dX11_count_157 moX7_countRead mvX7_countRead mlX11_367 g36 rfl rfl (okX7_countRead (d := d + 1) e35) rfl rfl [] rfl rfl (st2 := [.int t38]) rfl ?_
    refine J_aload_n 0 dX11_count_160 rfl rfl ?_
    obtain ⟨g39, H⟩ := gd H
    refine J_gP 10 5 dX11_count_161 g39 flX11_39 rfl rfl ?_
    refine J_iconst (0 : Int32) dX11_count_164 kc_0 ?_
    refine J_iconst (1 : Int32) dX11_count_165 kc_1 ?_
    obtain ⟨g41, H⟩ := gd H
    obtain ⟨t43, h42, e40, H⟩ := b2_el H
    refine J_cV (as := [.int (0 : Int32), .int (1 : Int32)]) 6 YX7_countRead 2 dX11_count_166 moX7_countRead mvX7_countRead mlX11_367 g41 rfl rfl (okX7_countRead (d := d + 1) e40) rfl rfl [.int t38] rfl rfl (st2 := [.int t43, .int t38]) rfl ?_
    refine J_iadd dX11_count_169 ?_
    cases H
    exact J_iretI dX11_count_170 rfl
  replace H := br0 q1009 H
  by_cases q1010 : v1 = (10 : Int32)
  · replace H := br1 q1010 H
    refine J_tab 171 dX11_count_1 q1010 (by decide) rfl rfl ?_
    refine J_aload_n 0 dX11_count_171 rfl rfl ?_
    obtain ⟨g44, H⟩ := gd H
    refine J_gP 10 6 dX11_count_172 g44 flX11_46 rfl rfl ?_
    obtain ⟨g45, H⟩ := gd H
    refine J_getI 1 11 dX11_count_175 g45 flX11_371 rfl ?_
    cases H
    exact J_iretI dX11_count_178 rfl
  replace H := br0 q1010 H
  by_cases q1011 : v1 = (11 : Int32)
  · replace H := br1 q1011 H
    refine J_tab 179 dX11_count_1 q1011 (by decide) rfl rfl ?_
    refine J_aload_n 0 dX11_count_179 rfl rfl ?_
    obtain ⟨g46, H⟩ := gd H
    refine J_gP 10 6 dX11_count_180 g46 flX11_46 rfl rfl ?_
    obtain ⟨g47, H⟩ := gd H
    refine J_getI 1 6 dX11_count_183 g47 flX11_456 rfl ?_
    cases H
    exact J_iretI dX11_count_186 rfl
  replace H := br0 q1011 H
  by_cases q1012 : v1 = (12 : Int32)
  · replace H := br1 q1012 H
    refine J_tab 187 dX11_count_1 q1012 (by decide) rfl rfl ?_
    refine J_aload_n 0 dX11_count_187 rfl rfl ?_
    obtain ⟨g48, H⟩ := gd H
    refine J_gP 10 5 dX11_count_188 g48 flX11_39 rfl rfl ?_
    obtain ⟨g50, H⟩ := gd H
    obtain ⟨t52, h51, e49, H⟩ := b2_el H
    refine J_cV (as := []) 6 YX7_countJobs 0 dX11_count_191 moX7_countJobs mvX7_countJobs mlX11_477 g50 rfl rfl (okX7_countJobs (d := d + 1) e49) rfl rfl [] rfl rfl (st2 := [.int t52]) rfl ?_
    cases H
    exact J_iretI dX11_count_194 rfl
  replace H := br0 q1012 H
  by_cases q1013 : v1 = (13 : Int32)
  · replace H := br1 q1013 H
    refine J_tab 195 dX11_count_1 q1013 (by decide) rfl rfl ?_
    refine J_aload_n 0 dX11_count_195 rfl rfl ?_
    obtain ⟨g53, H⟩ := gd H
    refine J_gP 10 5 dX11_count_196 g53 flX11_39 rfl rfl ?_
    obtain ⟨g54, H⟩ := gd H
    refine J_getI 6 3 dX11_count_199 g54 flX11_123 rfl ?_
    cases H
    exact J_iretI dX11_count_202 rfl
  replace H := br0 q1013 H
  by_cases q1014 : v1 = (14 : Int32)
  · replace H := br1 q1014 H
    refine J_tab 203 dX11_count_1 q1014 (by decide) rfl rfl ?_
    refine J_aload_n 0 dX11_count_203 rfl rfl ?_
    obtain ⟨g55, H⟩ := gd H
    refine J_gP 10 5 dX11_count_204 g55 flX11_39 rfl rfl ?_
    obtain ⟨g57, H⟩ := gd H
    obtain ⟨t58, e56, H⟩ := bd H
    refine J_cV (as := []) 6 YX7_rowCount 0 dX11_count_207 moX7_rowCount mvX7_rowCount mlX11_489 g57 rfl rfl (okX7_rowCount (d := d + 3) e56) rfl rfl [] rfl rfl (st2 := [.int t58]) rfl ?_
    cases H
    exact J_iretI dX11_count_210 rfl
  replace H := br0 q1014 H
  refine J_tab0 15 211 dX11_count_1 rfl (fun k hk => ?_) rfl rfl ?_
  · match k, hk with
    | 0, _ => exact q1000
    | 1, _ => exact q1001
    | 2, _ => exact q1002
    | 3, _ => exact q1003
    | 4, _ => exact q1004
    | 5, _ => exact q1005
    | 6, _ => exact q1006
    | 7, _ => exact q1007
    | 8, _ => exact q1008
    | 9, _ => exact q1009
    | 10, _ => exact q1010
    | 11, _ => exact q1011
    | 12, _ => exact q1012
    | 13, _ => exact q1013
    | 14, _ => exact q1014
    | k + 15, hk => exact absurd hk (by omega)
  · refine J_iconst (-1 : Int32) dX11_count_211 kc_m1 ?_
    cases H
    exact J_iretI dX11_count_212 rfl
theorem okX11_count {d : Nat} {h : Hp} {v0 : Nat} {v1 : Int32} {r : Int32} {h9 : Hp} (H : MX11_count h v0 v1 = some (r, h9)) : CT (d + 4) YX11_count [.ref v0, .int v1] h (oI r) h9 := CT_of (by decide +kernel) (Nat.le_of_ble_eq_true rfl) (eX11_count H)
noncomputable def MX2_addEdition_49 (h : Hp) (v0 : Nat) : Option (Int32 × Hp) :=
  gg (β := (Int32 × Hp)) (kd h v0 = 1) <|
  some (((gI h v0 6) - (1 : Int32)), h)
set_option maxRecDepth 100000 in
set_option maxHeartbeats 8000000 in
theorem kX2_addEdition_49 {d : Nat} {h : Hp} {v0 : Nat} {r : Int32} {h9 : Hp} (H : MX2_addEdition_49 h v0 = some (r, h9)) : J (d + 2) YX2_addEdition 49 [.ref v0, Value.null] [] h (oI r) h9 := by
  unfold MX2_addEdition_49 at H
  refine J_aload_n 0 dX2_addEdition_49 rfl rfl ?_
  obtain ⟨g8, H⟩ := gd H
  refine J_getI 1 6 dX2_addEdition_50 g8 flX2_32 rfl ?_
  refine J_iconst (1 : Int32) dX2_addEdition_53 kc_1 ?_
  refine J_isub dX2_addEdition_54 ?_
  cases H
  exact J_iretI dX2_addEdition_55 rfl
noncomputable def BX2_addEdition_12 (h : Hp) (v0 : Nat) (v1 : Int32) : Option ((Int32 × Hp) ⊕ (Int32 × Hp)) :=
  if (6 : Int32) ≤ v1 then
    up1 (MX2_addEdition_49 h v0)
  else
    gg (β := ((Int32 × Hp) ⊕ (Int32 × Hp))) (kd h v0 = 1) <|
    gg (β := ((Int32 × Hp) ⊕ (Int32 × Hp))) (kd h (gP h v0 4) = 24) <|
    gg (β := ((Int32 × Hp) ⊕ (Int32 × Hp))) (inB v1 (ln h (gP h v0 4)) = true) <|
    gg (β := ((Int32 × Hp) ⊕ (Int32 × Hp))) (kd h (gP h v0 5) = 20) <|
    gg (β := ((Int32 × Hp) ⊕ (Int32 × Hp))) (inB v1 (ln h (gP h v0 5)) = true) <|
    Option.bind (α := Hp) (β := ((Int32 × Hp) ⊕ (Int32 × Hp))) (MX2_takeRow h v0 (((6 : Int32) * (gI h v0 6)) + v1) (gP h (gP h v0 4) v1.toNatClampNeg) (gI h (gP h v0 5) v1.toNatClampNeg)) fun (h15 : Hp) =>
    some (.inl ((v1 + (1 : Int32)), h15))
set_option maxRecDepth 100000 in
set_option maxHeartbeats 8000000 in
theorem bX2_addEdition_12 {d : Nat} {h : Hp} {v0 : Nat} {v1 : Int32} {r : Int32} {h9 : Hp} {x : ((Int32 × Hp) ⊕ (Int32 × Hp))} (H : BX2_addEdition_12 h v0 v1 = some x) (hb0 : ∀ s : Int32 × Hp, x = .inl s → J (d + 2) YX2_addEdition 12 [.ref v0, .int s.1] [] s.2 (oI r) h9) (hx : ∀ z : (Int32 × Hp), x = .inr (z) → z = (r, h9)) : J (d + 2) YX2_addEdition 12 [.ref v0, .int v1] [] h (oI r) h9 := by
  unfold BX2_addEdition_12 at H
  refine J_iload_n 1 dX2_addEdition_12 rfl rfl ?_
  refine J_bipush (6 : Int32) dX2_addEdition_13 kb_6 ?_
  refine J_icmp_ge 49 dX2_addEdition_15 rfl (fun q7 => ?_) (fun q7 => ?_)
  · replace H := br1 q7 H
    obtain ⟨y0, H90, rfl⟩ := up1_el H
    replace H := H90
    obtain rfl := hx _ rfl
    exact J_dr (kX2_addEdition_49 H ) ⟨rfl, trivial⟩
  · replace H := br0 q7 H
    refine J_aload_n 0 dX2_addEdition_18 rfl rfl ?_
    refine J_bipush (6 : Int32) dX2_addEdition_19 kb_6 ?_
    refine J_aload_n 0 dX2_addEdition_21 rfl rfl ?_
    obtain ⟨g9, H⟩ := gd H
    refine J_getI 1 6 dX2_addEdition_22 g9 flX2_32 rfl ?_
    refine J_imul dX2_addEdition_25 ?_
    refine J_iload_n 1 dX2_addEdition_26 rfl rfl ?_
    refine J_iadd dX2_addEdition_27 ?_
    refine J_aload_n 0 dX2_addEdition_28 rfl rfl ?_
    refine J_gP 1 4 dX2_addEdition_29 g9 flX2_25 rfl rfl ?_
    refine J_iload_n 1 dX2_addEdition_32 rfl rfl ?_
    obtain ⟨g10, H⟩ := gd H
    obtain ⟨g11, H⟩ := gd H
    refine J_lP 24 dX2_addEdition_33 g10 rfl (inB_ok g11) rfl ?_
    refine J_aload_n 0 dX2_addEdition_34 rfl rfl ?_
    refine J_gP 1 5 dX2_addEdition_35 g9 flX2_29 rfl rfl ?_
    refine J_iload_n 1 dX2_addEdition_38 rfl rfl ?_
    obtain ⟨g12, H⟩ := gd H
    obtain ⟨g13, H⟩ := gd H
    refine J_iald dX2_addEdition_39 g12 (inB_ok g13) ?_
    obtain ⟨h15, e14, H⟩ := bd H
    refine J_cV (as := [.int (((6 : Int32) * (gI h v0 6)) + v1), .ref (gP h (gP h v0 4) v1.toNatClampNeg), .int (gI h (gP h v0 5) v1.toNatClampNeg)]) 1 YX2_takeRow 3 dX2_addEdition_40 moX2_takeRow mvX2_takeRow mlX2_57 g9 rfl rfl (okX2_takeRow (d := d) e14) rfl rfl [] rfl rfl (st2 := []) rfl ?_
    refine J_iinc (v1 + (1 : Int32)) dX2_addEdition_43 rfl (congrArg (HAdd.hAdd v1) kc_1) (by decide) (ls' := [.ref v0, .int (v1 + (1 : Int32))]) rfl ?_
    refine J_goto 12 dX2_addEdition_46 rfl ?_
    cases H
    exact J_dr (hb0 _ rfl) ⟨rfl, ⟨rfl, trivial⟩⟩
noncomputable def MX2_addEdition_12 (h : Hp) (v0 : Nat) (v1 : Int32) : Option (Int32 × Hp) := it (fun q : Int32 × Hp => BX2_addEdition_12 q.2 v0 q.1) (v1, h)
set_option maxRecDepth 100000 in
set_option maxHeartbeats 8000000 in
theorem kX2_addEdition_12 {d : Nat} {h : Hp} {v0 : Nat} {v1 : Int32} {r : Int32} {h9 : Hp} (H : MX2_addEdition_12 h v0 v1 = some (r, h9)) : J (d + 2) YX2_addEdition 12 [.ref v0, .int v1] [] h (oI r) h9 := by
  unfold MX2_addEdition_12 at H
  refine it_J (G := (fun q : Int32 × Hp => J (d + 2) YX2_addEdition 12 [.ref v0, .int q.1] [] q.2 (oI r) h9)) (Q := (fun y : (Int32 × Hp) => y = (r, h9))) (fun q x Hq hm => ?_) H rfl
  exact bX2_addEdition_12 Hq (fun s hs => by subst hs; exact hm) (fun z hz => by subst hz; exact hm)
noncomputable def MX2_addEdition (h : Hp) (v0 : Nat) : Option (Int32 × Hp) :=
  gg (β := (Int32 × Hp)) (kd h v0 = 1) <|
  lt (α := Hp) (β := Option (Int32 × Hp)) (sI h v0 6 ((gI h v0 6) + (1 : Int32))) fun (h2 : Hp) =>
  MX2_addEdition_12 h2 v0 (0 : Int32)
set_option maxRecDepth 100000 in
set_option maxHeartbeats 8000000 in
theorem eX2_addEdition {d : Nat} {h : Hp} {v0 : Nat} {r : Int32} {h9 : Hp} (H : MX2_addEdition h v0 = some (r, h9)) : J (d + 2) YX2_addEdition 0 [.ref v0, Value.null] [] h (oI r) h9 := by
  unfold MX2_addEdition at H
  refine J_aload_n 0 dX2_addEdition_0 rfl rfl ?_
  refine J_dup dX2_addEdition_1 rfl ?_
  obtain ⟨g1, H⟩ := gd H
  refine J_getI 1 6 dX2_addEdition_2 g1 flX2_32 rfl ?_
  refine J_iconst (1 : Int32) dX2_addEdition_5 kc_1 ?_
  refine J_iadd dX2_addEdition_6 ?_
  obtain ⟨h2, e3, H⟩ := lt_el H
  refine J_pI 1 6 dX2_addEdition_7 g1 flX2_32 rfl rfl e3 ?_
  have c4 := ekI e3
  have c5 := elI e3
  have c6 := epI e3
  refine J_iconst (0 : Int32) dX2_addEdition_10 kc_0 ?_
  refine J_istore_n 1 dX2_addEdition_11 rfl (by decide) (ls' := [.ref v0, .int (0 : Int32)]) rfl ?_
  exact J_dr (kX2_addEdition_12 H ) ⟨rfl, ⟨rfl, trivial⟩⟩
theorem okX2_addEdition {d : Nat} {h : Hp} {v0 : Nat} {r : Int32} {h9 : Hp} (H : MX2_addEdition h v0 = some (r, h9)) : CT (d + 2) YX2_addEdition [.ref v0] h (oI r) h9 := CT_of (by decide +kernel) (Nat.le_of_ble_eq_true rfl) (eX2_addEdition H)
noncomputable def MX11_edition (h : Hp) (v0 : Nat) : Option ((Int32 ⊕ Nat) × Hp) :=
  gg (β := ((Int32 ⊕ Nat) × Hp)) (kd h v0 = 10) <|
  gg (β := ((Int32 ⊕ Nat) × Hp)) (kd h (gP h v0 6) = 1) <|
  if (gI h (gP h v0 6) 6) < (8 : Int32) then
    b2 (α := Int32) (β := Hp) (γ := ((Int32 ⊕ Nat) × Hp)) (MX2_addEdition h (gP h v0 6)) fun (t6 : Int32) (h5 : Hp) =>
    some (.inl t6, h5)
  else
    some (.inr 3, bmp h 1 6)
set_option maxRecDepth 100000 in
set_option maxHeartbeats 8000000 in
theorem eX11_edition {d : Nat} {h : Hp} {v0 : Nat} {r : Int32 ⊕ Nat} {h9 : Hp} (H : MX11_edition h v0 = some (r, h9)) : J (d + 3) YX11_edition 0 [.ref v0] [] h (oT r) h9 := by
  unfold MX11_edition at H
  refine J_aload_n 0 dX11_edition_0 rfl rfl ?_
  obtain ⟨g1, H⟩ := gd H
  refine J_gP 10 6 dX11_edition_1 g1 flX11_46 rfl rfl ?_
  obtain ⟨g2, H⟩ := gd H
  refine J_getI 1 6 dX11_edition_4 g2 flX11_456 rfl ?_
  refine J_bipush (8 : Int32) dX11_edition_7 kb_8 ?_
  refine J_icmp_lt 20 dX11_edition_9 rfl (fun q3 => ?_) (fun q3 => ?_)
  · replace H := br1 q3 H
    refine J_aload_n 0 dX11_edition_20 rfl rfl ?_
    refine J_gP 10 6 dX11_edition_21 g1 flX11_46 rfl rfl ?_
    obtain ⟨t6, h5, e4, H⟩ := b2_el H
    refine J_cV (as := []) 1 YX2_addEdition 0 dX11_edition_24 moX2_addEdition mvX2_addEdition mlX11_459 g2 rfl rfl (okX2_addEdition (d := d) e4) rfl rfl [] rfl rfl (st2 := [.int t6]) rfl ?_
    cases H
    exact J_iretI dX11_edition_27 rfl
  · replace H := br0 q3 H
    cases H
    exact J_throw 3 ["java/lang/RuntimeException", "java/lang/Exception"] dX11_edition_12 dX11_edition_15 dX11_edition_16 dX11_edition_19 th_112 clX11_110 (Nat.le_of_ble_eq_true rfl)
theorem okX11_edition {d : Nat} {h : Hp} {v0 : Nat} {r : Int32 ⊕ Nat} {h9 : Hp} (H : MX11_edition h v0 = some (r, h9)) : CT (d + 3) YX11_edition [.ref v0] h (oT r) h9 := CT_of (by decide +kernel) (Nat.le_of_ble_eq_true rfl) (eX11_edition H)
noncomputable def MX11_end (h : Hp) (v0 : Nat) (v1 : Int32) : Option (Int32 × Hp) :=
  if v1 < 0 then
    some ((0 : Int32), h)
  else
    gg (β := (Int32 × Hp)) (kd h v0 = 10) <|
    if v1 ≤ (gI h v0 1) then
      lt (α := Hp) (β := Option (Int32 × Hp)) (sI h v0 1 v1) fun (h4 : Hp) =>
      some ((1 : Int32), h4)
    else
      some ((0 : Int32), h)
set_option maxRecDepth 100000 in
set_option maxHeartbeats 8000000 in
theorem eX11_end {d : Nat} {h : Hp} {v0 : Nat} {v1 : Int32} {r : Int32} {h9 : Hp} (H : MX11_end h v0 v1 = some (r, h9)) : J (d) YX11_end 0 [.ref v0, .int v1] [] h (oI r) h9 := by
  unfold MX11_end at H
  refine J_iload_n 1 dX11_end_0 rfl rfl ?_
  refine J_if_lt 12 dX11_end_1 rfl (fun q1 => ?_) (fun q1 => ?_)
  · replace H := br1 q1 H
    refine J_iconst (0 : Int32) dX11_end_12 kc_0 ?_
    cases H
    exact J_rZ dX11_end_13 rfl rfl
  · replace H := br0 q1 H
    refine J_iload_n 1 dX11_end_4 rfl rfl ?_
    refine J_aload_n 0 dX11_end_5 rfl rfl ?_
    obtain ⟨g2, H⟩ := gd H
    refine J_getI 10 1 dX11_end_6 g2 flX11_13 rfl ?_
    refine J_icmp_le 14 dX11_end_9 rfl (fun q3 => ?_) (fun q3 => ?_)
    · replace H := br1 q3 H
      refine J_aload_n 0 dX11_end_14 rfl rfl ?_
      refine J_iload_n 1 dX11_end_15 rfl rfl ?_
      obtain ⟨h4, e5, H⟩ := lt_el H
      refine J_pI 10 1 dX11_end_16 g2 flX11_13 rfl rfl e5 ?_
      have c6 := ekI e5
      have c7 := elI e5
      have c8 := epI e5
      refine J_iconst (1 : Int32) dX11_end_19 kc_1 ?_
      cases H
      exact J_rZ dX11_end_20 rfl rfl
    · replace H := br0 q3 H
      refine J_iconst (0 : Int32) dX11_end_12 kc_0 ?_
      cases H
      exact J_rZ dX11_end_13 rfl rfl
theorem okX11_end {d : Nat} {h : Hp} {v0 : Nat} {v1 : Int32} {r : Int32} {h9 : Hp} (H : MX11_end h v0 v1 = some (r, h9)) : CT (d) YX11_end [.ref v0, .int v1] h (oI r) h9 := CT_of (by decide +kernel) (Nat.le_of_ble_eq_true rfl) (eX11_end H)
noncomputable def MX0_endOfLine_19 (h : Hp) (v0 : Nat) (v2 : Int32) : Option Int32 :=
  gg (β := Int32) (kd h v0 = 0) <|
  gg (β := Int32) (kd h (gP h v0 12) = 20) <|
  gg (β := Int32) (inB v2 (ln h (gP h v0 12)) = true) <|
  some (gI h (gP h v0 12) v2.toNatClampNeg)
set_option maxRecDepth 100000 in
set_option maxHeartbeats 8000000 in
theorem kX0_endOfLine_19 {d : Nat} {h : Hp} {v0 : Nat} {v2 : Int32} {r : Int32} (H : MX0_endOfLine_19 h v0 v2 = some r) : J (d) YX0_endOfLine 19 [.ref v0, Value.null, .int v2, Value.null] [] h (oI r) h := by
  unfold MX0_endOfLine_19 at H
  refine J_aload_n 0 dX0_endOfLine_19 rfl rfl ?_
  obtain ⟨g8, H⟩ := gd H
  refine J_gP 0 12 dX0_endOfLine_20 g8 flX0_49 rfl rfl ?_
  refine J_iload_n 2 dX0_endOfLine_23 rfl rfl ?_
  obtain ⟨g9, H⟩ := gd H
  obtain ⟨g10, H⟩ := gd H
  refine J_iald dX0_endOfLine_24 g9 (inB_ok g10) ?_
  cases H
  exact J_iretI dX0_endOfLine_25 rfl
noncomputable def BX0_endOfLine_4 (h : Hp) (v0 : Nat) (v1 : Int32) (v2 : Int32) (v3 : Int32) : Option ((Int32 × Int32) ⊕ Int32) :=
  gg (β := ((Int32 × Int32) ⊕ Int32)) (kd h v0 = 0) <|
  gg (β := ((Int32 × Int32) ⊕ Int32)) (kd h (gP h v0 11) = 20) <|
  gg (β := ((Int32 × Int32) ⊕ Int32)) (inB (0 : Int32) (ln h (gP h v0 11)) = true) <|
  if (gI h (gP h v0 11) (0 : Int32).toNatClampNeg) ≤ v3 then
    some (.inr ((-1 : Int32)))
  else
    if v3 = v1 then
      up1 (MX0_endOfLine_19 h v0 v2)
    else
      gg (β := ((Int32 × Int32) ⊕ Int32)) (kd h (gP h v0 12) = 20) <|
      gg (β := ((Int32 × Int32) ⊕ Int32)) (inB v2 (ln h (gP h v0 12)) = true) <|
      some (.inl (((gI h (gP h v0 12) v2.toNatClampNeg) + (1 : Int32)), (v3 + (1 : Int32))))
set_option maxRecDepth 100000 in
set_option maxHeartbeats 8000000 in
theorem bX0_endOfLine_4 {d : Nat} {h : Hp} {v0 : Nat} {v1 : Int32} {v2 : Int32} {v3 : Int32} {r : Int32} {x : ((Int32 × Int32) ⊕ Int32)} (H : BX0_endOfLine_4 h v0 v1 v2 v3 = some x) (hb0 : ∀ s : Int32 × Int32, x = .inl s → J (d) YX0_endOfLine 4 [.ref v0, .int v1, .int s.1, .int s.2] [] h (oI r) h) (hx : ∀ z : Int32, x = .inr (z) → z = r) : J (d) YX0_endOfLine 4 [.ref v0, .int v1, .int v2, .int v3] [] h (oI r) h := by
  unfold BX0_endOfLine_4 at H
  refine J_iload_n 3 dX0_endOfLine_4 rfl rfl ?_
  refine J_aload_n 0 dX0_endOfLine_5 rfl rfl ?_
  obtain ⟨g1, H⟩ := gd H
  refine J_gP 0 11 dX0_endOfLine_6 g1 flX0_46 rfl rfl ?_
  refine J_iconst (0 : Int32) dX0_endOfLine_9 kc_0 ?_
  obtain ⟨g2, H⟩ := gd H
  obtain ⟨g3, H⟩ := gd H
  refine J_iald dX0_endOfLine_10 g2 (inB_ok g3) ?_
  refine J_icmp_ge 41 dX0_endOfLine_11 rfl (fun q4 => ?_) (fun q4 => ?_)
  · replace H := br1 q4 H
    refine J_iconst (-1 : Int32) dX0_endOfLine_41 kc_m1 ?_
    cases H
    cases hx _ rfl
    exact J_iretI dX0_endOfLine_42 rfl
  · replace H := br0 q4 H
    refine J_iload_n 3 dX0_endOfLine_14 rfl rfl ?_
    refine J_iload_n 1 dX0_endOfLine_15 rfl rfl ?_
    refine J_icmp_ne 26 dX0_endOfLine_16 rfl (fun q5 => ?_) (fun q5 => ?_)
    · replace H := br0 q5 H
      refine J_aload_n 0 dX0_endOfLine_26 rfl rfl ?_
      refine J_gP 0 12 dX0_endOfLine_27 g1 flX0_49 rfl rfl ?_
      refine J_iload_n 2 dX0_endOfLine_30 rfl rfl ?_
      obtain ⟨g6, H⟩ := gd H
      obtain ⟨g7, H⟩ := gd H
      refine J_iald dX0_endOfLine_31 g6 (inB_ok g7) ?_
      refine J_iconst (1 : Int32) dX0_endOfLine_32 kc_1 ?_
      refine J_iadd dX0_endOfLine_33 ?_
      refine J_istore_n 2 dX0_endOfLine_34 rfl (by decide) (ls' := [.ref v0, .int v1, .int ((gI h (gP h v0 12) v2.toNatClampNeg) + (1 : Int32)), .int v3]) rfl ?_
      refine J_iinc (v3 + (1 : Int32)) dX0_endOfLine_35 rfl (congrArg (HAdd.hAdd v3) kc_1) (by decide) (ls' := [.ref v0, .int v1, .int ((gI h (gP h v0 12) v2.toNatClampNeg) + (1 : Int32)), .int (v3 + (1 : Int32))]) rfl ?_
      refine J_goto 4 dX0_endOfLine_38 rfl ?_
      cases H
      exact J_dr (hb0 _ rfl) ⟨rfl, ⟨rfl, ⟨rfl, ⟨rfl, trivial⟩⟩⟩⟩
    · replace H := br1 q5 H
      obtain ⟨y0, H90, rfl⟩ := up1_el H
      replace H := H90
      obtain rfl := hx _ rfl
      exact J_dr (kX0_endOfLine_19 H ) ⟨rfl, ⟨rfl, trivial⟩⟩
noncomputable def MX0_endOfLine_4 (h : Hp) (v0 : Nat) (v1 : Int32) (v2 : Int32) (v3 : Int32) : Option Int32 := it (fun q : Int32 × Int32 => BX0_endOfLine_4 h v0 v1 q.1 q.2) (v2, v3)
set_option maxRecDepth 100000 in
set_option maxHeartbeats 8000000 in
theorem kX0_endOfLine_4 {d : Nat} {h : Hp} {v0 : Nat} {v1 : Int32} {v2 : Int32} {v3 : Int32} {r : Int32} (H : MX0_endOfLine_4 h v0 v1 v2 v3 = some r) : J (d) YX0_endOfLine 4 [.ref v0, .int v1, .int v2, .int v3] [] h (oI r) h := by
  unfold MX0_endOfLine_4 at H
  refine it_J (G := (fun q : Int32 × Int32 => J (d) YX0_endOfLine 4 [.ref v0, .int v1, .int q.1, .int q.2] [] h (oI r) h)) (Q := (fun y : Int32 => y = r)) (fun q x Hq hm => ?_) H rfl
  exact bX0_endOfLine_4 Hq (fun s hs => by subst hs; exact hm) (fun z hz => by subst hz; exact hm)
noncomputable def MX0_endOfLine (h : Hp) (v0 : Nat) (v1 : Int32) : Option Int32 :=
  MX0_endOfLine_4 h v0 v1 (0 : Int32) (0 : Int32)
set_option maxRecDepth 100000 in
set_option maxHeartbeats 8000000 in
theorem eX0_endOfLine {d : Nat} {h : Hp} {v0 : Nat} {v1 : Int32} {r : Int32} (H : MX0_endOfLine h v0 v1 = some r) : J (d) YX0_endOfLine 0 [.ref v0, .int v1, Value.null, Value.null] [] h (oI r) h := by
  unfold MX0_endOfLine at H
  refine J_iconst (0 : Int32) dX0_endOfLine_0 kc_0 ?_
  refine J_istore_n 2 dX0_endOfLine_1 rfl (by decide) (ls' := [.ref v0, .int v1, .int (0 : Int32), Value.null]) rfl ?_
  refine J_iconst (0 : Int32) dX0_endOfLine_2 kc_0 ?_
  refine J_istore_n 3 dX0_endOfLine_3 rfl (by decide) (ls' := [.ref v0, .int v1, .int (0 : Int32), .int (0 : Int32)]) rfl ?_
  exact J_dr (kX0_endOfLine_4 H ) ⟨rfl, ⟨rfl, ⟨rfl, ⟨rfl, trivial⟩⟩⟩⟩
theorem okX0_endOfLine {d : Nat} {h : Hp} {v0 : Nat} {v1 : Int32} {r : Int32} (H : MX0_endOfLine h v0 v1 = some r) : CT (d) YX0_endOfLine [.ref v0, .int v1] h (oI r) h := CT_of (by decide +kernel) (Nat.le_of_ble_eq_true rfl) (eX0_endOfLine H)
noncomputable def MX11_ends (h : Hp) (v0 : Nat) (v1 : Int32) (v2 : Int32) : Option ((Int32 ⊕ Nat) × Hp) :=
  gg (β := ((Int32 ⊕ Nat) × Hp)) (kd h v0 = 10) <|
  gg (β := ((Int32 ⊕ Nat) × Hp)) (kd h (gP h v0 5) = 6) <|
  Option.bind (α := Nat) (β := ((Int32 ⊕ Nat) × Hp)) (MX7_findPart h (gP h v0 5) v1) fun (t4 : Nat) =>
  if t4 = 0 then
    some (.inr 1, bmp h 1 6)
  else
    gg (β := ((Int32 ⊕ Nat) × Hp)) (kd h t4 = 4) <|
    if (gI h t4 11) = 0 then
      b2 (α := Nat) (β := Hp) (γ := ((Int32 ⊕ Nat) × Hp)) (MX7_breakerFor h (gP h v0 5) t4 (gI h (gP h v0 5) 0)) fun (t10 : Nat) (h9 : Hp) =>
      gg (β := ((Int32 ⊕ Nat) × Hp)) (kd h9 t10 = 0) <|
      b2 (α := Int32) (β := Hp) (γ := ((Int32 ⊕ Nat) × Hp)) (MX0_solve h9 t10 (0 : Int32)) fun (t14 : Int32) (h13 : Hp) =>
      if t14 = (-1 : Int32) then
        some (.inl (-1 : Int32), h13)
      else
        gg (β := ((Int32 ⊕ Nat) × Hp)) (kd h13 t10 = 0) <|
        Option.bind (α := Int32) (β := ((Int32 ⊕ Nat) × Hp)) (MX0_endOfLine h13 t10 v2) fun (t18 : Int32) =>
        some (.inl t18, h13)
    else
      Option.bind (α := Int32) (β := ((Int32 ⊕ Nat) × Hp)) (MX5_hasLine h t4 v2) fun (t20 : Int32) =>
      if t20 = 0 then
        some (.inl (-1 : Int32), h)
      else
        gg (β := ((Int32 ⊕ Nat) × Hp)) (kd h (gP h t4 3) = 20) <|
        gg (β := ((Int32 ⊕ Nat) × Hp)) (inB v2 (ln h (gP h t4 3)) = true) <|
        some (.inl (gI h (gP h t4 3) v2.toNatClampNeg), h)
set_option maxRecDepth 100000 in
set_option maxHeartbeats 8000000 in
theorem eX11_ends {d : Nat} {h : Hp} {v0 : Nat} {v1 : Int32} {v2 : Int32} {r : Int32 ⊕ Nat} {h9 : Hp} (H : MX11_ends h v0 v1 v2 = some (r, h9)) : J (d + 4) YX11_ends 0 [.ref v0, .int v1, .int v2, Value.null, Value.null] [] h (oT r) h9 := by
  unfold MX11_ends at H
  refine J_aload_n 0 dX11_ends_0 rfl rfl ?_
  obtain ⟨g1, H⟩ := gd H
  refine J_gP 10 5 dX11_ends_1 g1 flX11_39 rfl rfl ?_
  refine J_iload_n 1 dX11_ends_4 rfl rfl ?_
  obtain ⟨g3, H⟩ := gd H
  obtain ⟨t4, e2, H⟩ := bd H
  refine J_cV (as := [.int v1]) 6 YX7_findPart 1 dX11_ends_5 moX7_findPart mvX7_findPart mlX11_139 g3 rfl rfl (okX7_findPart (d := d + 3) e2) rfl rfl [] rfl rfl (st2 := [.ref t4]) rfl ?_
  refine J_astore_n 3 dX11_ends_8 rfl (by decide) (ls' := [.ref v0, .int v1, .int v2, .ref t4, Value.null]) rfl ?_
  refine J_aload_n 3 dX11_ends_9 rfl rfl ?_
  refine J_ifnonnull 21 dX11_ends_10 rfl (fun q5 => ?_) (fun q5 => ?_)
  · replace H := br0 q5 H
    refine J_aload_n 3 dX11_ends_21 rfl rfl ?_
    obtain ⟨g6, H⟩ := gd H
    refine J_getI 4 11 dX11_ends_22 g6 flX11_159 rfl ?_
    refine J_if_eq 47 dX11_ends_25 rfl (fun q7 => ?_) (fun q7 => ?_)
    · replace H := br1 q7 H
      refine J_aload_n 0 dX11_ends_47 rfl rfl ?_
      refine J_gP 10 5 dX11_ends_48 g1 flX11_39 rfl rfl ?_
      refine J_aload_n 3 dX11_ends_51 rfl rfl ?_
      refine J_aload_n 0 dX11_ends_52 rfl rfl ?_
      refine J_gP 10 5 dX11_ends_53 g1 flX11_39 rfl rfl ?_
      refine J_getI 6 0 dX11_ends_56 g3 flX11_117 rfl ?_
      obtain ⟨t10, h9, e8, H⟩ := b2_el H
      refine J_cV (as := [.ref t4, .int (gI h (gP h v0 5) 0)]) 6 YX7_breakerFor 2 dX11_ends_59 moX7_breakerFor mvX7_breakerFor mlX11_175 g3 rfl rfl (okX7_breakerFor (d := d) e8) rfl rfl [] rfl rfl (st2 := [.ref t10]) rfl ?_
      refine J_astore dX11_ends_62 (by decide) (ls' := [.ref v0, .int v1, .int v2, .ref t4, .ref t10]) rfl ?_
      refine J_aload dX11_ends_64 rfl ?_
      refine J_iconst (0 : Int32) dX11_ends_66 kc_0 ?_
      obtain ⟨g12, H⟩ := gd H
      obtain ⟨t14, h13, e11, H⟩ := b2_el H
      refine J_cV (as := [.int (0 : Int32)]) 0 YX0_solve 1 dX11_ends_67 moX0_solve mvX0_solve mlX11_199 g12 rfl rfl (okX0_solve (d := d) e11) rfl rfl [] rfl rfl (st2 := [.int t14]) rfl ?_
      refine J_iconst (-1 : Int32) dX11_ends_70 kc_m1 ?_
      refine J_icmp_ne 78 dX11_ends_71 rfl (fun q15 => ?_) (fun q15 => ?_)
      · replace H := br0 q15 H
        refine J_aload dX11_ends_78 rfl ?_
        refine J_iload_n 2 dX11_ends_80 rfl rfl ?_
        obtain ⟨g17, H⟩ := gd H
        obtain ⟨t18, e16, H⟩ := bd H
        refine J_cV (as := [.int v2]) 0 YX0_endOfLine 1 dX11_ends_81 moX0_endOfLine mvX0_endOfLine mlX11_214 g17 rfl rfl (okX0_endOfLine (d := d + 3) e16) rfl rfl [] rfl rfl (st2 := [.int t18]) rfl ?_
        cases H
        exact J_iretI dX11_ends_84 rfl
      · replace H := br1 q15 H
        refine J_iconst (-1 : Int32) dX11_ends_74 kc_m1 ?_
        refine J_goto 84 dX11_ends_75 rfl ?_
        cases H
        exact J_iretI dX11_ends_84 rfl
    · replace H := br0 q7 H
      refine J_aload_n 3 dX11_ends_28 rfl rfl ?_
      refine J_iload_n 2 dX11_ends_29 rfl rfl ?_
      obtain ⟨t20, e19, H⟩ := bd H
      refine J_cV (as := [.int v2]) 4 YX5_hasLine 1 dX11_ends_30 moX5_hasLine mvX5_hasLine mlX11_208 g6 rfl rfl (okX5_hasLine (d := d + 3) e19) rfl rfl [] rfl rfl (st2 := [.int t20]) rfl ?_
      refine J_if_eq 45 dX11_ends_33 rfl (fun q21 => ?_) (fun q21 => ?_)
      · replace H := br1 q21 H
        refine J_iconst (-1 : Int32) dX11_ends_45 kc_m1 ?_
        cases H
        exact J_iretI dX11_ends_46 rfl
      · replace H := br0 q21 H
        refine J_aload_n 3 dX11_ends_36 rfl rfl ?_
        refine J_gP 4 3 dX11_ends_37 g6 flX11_211 rfl rfl ?_
        refine J_iload_n 2 dX11_ends_40 rfl rfl ?_
        obtain ⟨g22, H⟩ := gd H
        obtain ⟨g23, H⟩ := gd H
        refine J_iald dX11_ends_41 g22 (inB_ok g23) ?_
        refine J_goto 46 dX11_ends_42 rfl ?_
        cases H
        exact J_iretI dX11_ends_46 rfl
  · replace H := br1 q5 H
    cases H
    exact J_throw 1 ["java/lang/RuntimeException", "java/lang/Exception"] dX11_ends_13 dX11_ends_16 dX11_ends_17 dX11_ends_20 th_86 clX11_84 (Nat.le_of_ble_eq_true rfl)
theorem okX11_ends {d : Nat} {h : Hp} {v0 : Nat} {v1 : Int32} {v2 : Int32} {r : Int32 ⊕ Nat} {h9 : Hp} (H : MX11_ends h v0 v1 v2 = some (r, h9)) : CT (d + 4) YX11_ends [.ref v0, .int v1, .int v2] h (oT r) h9 := CT_of (by decide +kernel) (Nat.le_of_ble_eq_true rfl) (eX11_ends H)
noncomputable def MX11_fault (h : Hp) (v0 : Nat) : Option Int32 :=
  gg (β := Int32) (kd h v0 = 10) <|
  some (gI h v0 2)
set_option maxRecDepth 100000 in
set_option maxHeartbeats 8000000 in
theorem eX11_fault {d : Nat} {h : Hp} {v0 : Nat} {r : Int32} (H : MX11_fault h v0 = some r) : J (d) YX11_fault 0 [.ref v0] [] h (oI r) h := by
  unfold MX11_fault at H
  refine J_aload_n 0 dX11_fault_0 rfl rfl ?_
  obtain ⟨g1, H⟩ := gd H
  refine J_getI 10 2 dX11_fault_1 g1 flX11_17 rfl ?_
  cases H
  exact J_iretI dX11_fault_4 rfl
theorem okX11_fault {d : Nat} {h : Hp} {v0 : Nat} {r : Int32} (H : MX11_fault h v0 = some r) : CT (d) YX11_fault [.ref v0] h (oI r) h := CT_of (by decide +kernel) (Nat.le_of_ble_eq_true rfl) (eX11_fault H)
noncomputable def BX11_feedNumber_3 (h : Hp) (v0 : Nat) (v1 : Int32) (v2 : Int32) : Option ((Int32 × Hp) ⊕ Hp) :=
  if v2 < 0 then
    some (.inr (h))
  else
    gg (β := ((Int32 × Hp) ⊕ Hp)) (kd h v0 = 10) <|
    if (400 : Int32) ≤ (gI h v0 1) then
      some (.inr (h))
    else
      gg (β := ((Int32 × Hp) ⊕ Hp)) (kd h (gP h v0 0) = 21) <|
      gg (β := ((Int32 × Hp) ⊕ Hp)) (inB (gI h v0 1) (ln h (gP h v0 0)) = true) <|
      lt (α := Hp) (β := Option ((Int32 × Hp) ⊕ Hp)) (sI h (gP h v0 0) (gI h v0 1).toNatClampNeg (vp_nar .byte ((v1 >>> (v2 &&& 31)).toInt8.toInt32))) fun (h6 : Hp) =>
      lt (α := Hp) (β := Option ((Int32 × Hp) ⊕ Hp)) (sI h6 v0 1 ((gI h6 v0 1) + (1 : Int32))) fun (h11 : Hp) =>
      some (.inl ((v2 + (-8 : Int32)), h11))
set_option maxRecDepth 100000 in
set_option maxHeartbeats 8000000 in
theorem bX11_feedNumber_3 {d : Nat} {h : Hp} {v0 : Nat} {v1 : Int32} {v2 : Int32} {h9 : Hp} {x : ((Int32 × Hp) ⊕ Hp)} (H : BX11_feedNumber_3 h v0 v1 v2 = some x) (hb0 : ∀ s : Int32 × Hp, x = .inl s → J (d) YX11_feedNumber 3 [.ref v0, .int v1, .int s.1] [] s.2 oV h9) (hx : ∀ z : Hp, x = .inr (z) → z = h9) : J (d) YX11_feedNumber 3 [.ref v0, .int v1, .int v2] [] h oV h9 := by
  unfold BX11_feedNumber_3 at H
  refine J_iload_n 2 dX11_feedNumber_3 rfl rfl ?_
  refine J_if_lt 46 dX11_feedNumber_4 rfl (fun q1 => ?_) (fun q1 => ?_)
  · replace H := br1 q1 H
    cases H
    cases hx _ rfl
    exact J_ret dX11_feedNumber_46 rfl
  · replace H := br0 q1 H
    refine J_aload_n 0 dX11_feedNumber_7 rfl rfl ?_
    obtain ⟨g2, H⟩ := gd H
    refine J_getI 10 1 dX11_feedNumber_8 g2 flX11_13 rfl ?_
    refine J_sipush (400 : Int32) dX11_feedNumber_11 ks_400 ?_
    refine J_icmp_ge 46 dX11_feedNumber_14 rfl (fun q3 => ?_) (fun q3 => ?_)
    · replace H := br1 q3 H
      cases H
      cases hx _ rfl
      exact J_ret dX11_feedNumber_46 rfl
    · replace H := br0 q3 H
      refine J_aload_n 0 dX11_feedNumber_17 rfl rfl ?_
      refine J_gP 10 0 dX11_feedNumber_18 g2 flX11_9 rfl rfl ?_
      refine J_aload_n 0 dX11_feedNumber_21 rfl rfl ?_
      refine J_getI 10 1 dX11_feedNumber_22 g2 flX11_13 rfl ?_
      refine J_iload_n 1 dX11_feedNumber_25 rfl rfl ?_
      refine J_iload_n 2 dX11_feedNumber_26 rfl rfl ?_
      refine J_ishr dX11_feedNumber_27 ?_
      refine J_i2b dX11_feedNumber_28 ?_
      obtain ⟨g4, H⟩ := gd H
      obtain ⟨g5, H⟩ := gd H
      obtain ⟨h6, e7, H⟩ := lt_el H
      refine J_sB dX11_feedNumber_29 g4 (inB_ok g5) e7 ?_
      have c8 := ekI e7
      have c9 := elI e7
      have c10 := epI e7
      refine J_aload_n 0 dX11_feedNumber_30 rfl rfl ?_
      refine J_dup dX11_feedNumber_31 rfl ?_
      refine J_getI 10 1 dX11_feedNumber_32 (kq c8 g2) flX11_13 rfl ?_
      refine J_iconst (1 : Int32) dX11_feedNumber_35 kc_1 ?_
      refine J_iadd dX11_feedNumber_36 ?_
      obtain ⟨h11, e12, H⟩ := lt_el H
      refine J_pI 10 1 dX11_feedNumber_37 (kq c8 g2) flX11_13 rfl rfl e12 ?_
      have c13 := (ekI e12).trans c8
      have c14 := (elI e12).trans c9
      have c15 := (epI e12).trans c10
      refine J_iinc (v2 + (-8 : Int32)) dX11_feedNumber_40 rfl (congrArg (HAdd.hAdd v2) kc_m8) (by decide) (ls' := [.ref v0, .int v1, .int (v2 + (-8 : Int32))]) rfl ?_
      refine J_goto 3 dX11_feedNumber_43 rfl ?_
      cases H
      exact J_dr (hb0 _ rfl) ⟨rfl, ⟨rfl, ⟨rfl, trivial⟩⟩⟩
noncomputable def MX11_feedNumber_3 (h : Hp) (v0 : Nat) (v1 : Int32) (v2 : Int32) : Option Hp := it (fun q : Int32 × Hp => BX11_feedNumber_3 q.2 v0 v1 q.1) (v2, h)
set_option maxRecDepth 100000 in
set_option maxHeartbeats 8000000 in
theorem kX11_feedNumber_3 {d : Nat} {h : Hp} {v0 : Nat} {v1 : Int32} {v2 : Int32} {h9 : Hp} (H : MX11_feedNumber_3 h v0 v1 v2 = some h9) : J (d) YX11_feedNumber 3 [.ref v0, .int v1, .int v2] [] h oV h9 := by
  unfold MX11_feedNumber_3 at H
  refine it_J (G := (fun q : Int32 × Hp => J (d) YX11_feedNumber 3 [.ref v0, .int v1, .int q.1] [] q.2 oV h9)) (Q := (fun y : Hp => y = h9)) (fun q x Hq hm => ?_) H rfl
  exact bX11_feedNumber_3 Hq (fun s hs => by subst hs; exact hm) (fun z hz => by subst hz; exact hm)
noncomputable def MX11_feedNumber (h : Hp) (v0 : Nat) (v1 : Int32) : Option Hp :=
  MX11_feedNumber_3 h v0 v1 (24 : Int32)
set_option maxRecDepth 100000 in
set_option maxHeartbeats 8000000 in
theorem eX11_feedNumber {d : Nat} {h : Hp} {v0 : Nat} {v1 : Int32} {h9 : Hp} (H : MX11_feedNumber h v0 v1 = some h9) : J (d) YX11_feedNumber 0 [.ref v0, .int v1, Value.null] [] h oV h9 := by
  unfold MX11_feedNumber at H
  refine J_bipush (24 : Int32) dX11_feedNumber_0 kb_24 ?_
  refine J_istore_n 2 dX11_feedNumber_2 rfl (by decide) (ls' := [.ref v0, .int v1, .int (24 : Int32)]) rfl ?_
  exact J_dr (kX11_feedNumber_3 H ) ⟨rfl, ⟨rfl, ⟨rfl, trivial⟩⟩⟩
theorem okX11_feedNumber {d : Nat} {h : Hp} {v0 : Nat} {v1 : Int32} {h9 : Hp} (H : MX11_feedNumber h v0 v1 = some h9) : CT (d) YX11_feedNumber [.ref v0, .int v1] h oV h9 := CT_of (by decide +kernel) (Nat.le_of_ble_eq_true rfl) (eX11_feedNumber H)
noncomputable def MX11_feed (h : Hp) (v0 : Nat) (v1 : Int32) (v2 : Int32) (v3 : Int32) (v4 : Int32) (v5 : Int32) : Option (Int32 × Hp) :=
  gg (β := (Int32 × Hp)) (kd h v0 = 10) <|
  if ((gI h v0 1) + (20 : Int32)) ≤ (400 : Int32) then
    Option.bind (α := Hp) (β := (Int32 × Hp)) (MX11_feedNumber h v0 v1) fun (h4 : Hp) =>
    gg (β := (Int32 × Hp)) (kd h4 v0 = 10) <|
    Option.bind (α := Hp) (β := (Int32 × Hp)) (MX11_feedNumber h4 v0 v2) fun (h7 : Hp) =>
    gg (β := (Int32 × Hp)) (kd h7 v0 = 10) <|
    Option.bind (α := Hp) (β := (Int32 × Hp)) (MX11_feedNumber h7 v0 v3) fun (h10 : Hp) =>
    gg (β := (Int32 × Hp)) (kd h10 v0 = 10) <|
    Option.bind (α := Hp) (β := (Int32 × Hp)) (MX11_feedNumber h10 v0 v4) fun (h13 : Hp) =>
    gg (β := (Int32 × Hp)) (kd h13 v0 = 10) <|
    Option.bind (α := Hp) (β := (Int32 × Hp)) (MX11_feedNumber h13 v0 v5) fun (h16 : Hp) =>
    gg (β := (Int32 × Hp)) (kd h16 v0 = 10) <|
    some ((gI h16 v0 1), h16)
  else
    some ((-1 : Int32), h)
set_option maxRecDepth 100000 in
set_option maxHeartbeats 8000000 in
theorem eX11_feed {d : Nat} {h : Hp} {v0 : Nat} {v1 : Int32} {v2 : Int32} {v3 : Int32} {v4 : Int32} {v5 : Int32} {r : Int32} {h9 : Hp} (H : MX11_feed h v0 v1 v2 v3 v4 v5 = some (r, h9)) : J (d + 1) YX11_feed 0 [.ref v0, .int v1, .int v2, .int v3, .int v4, .int v5] [] h (oI r) h9 := by
  unfold MX11_feed at H
  refine J_aload_n 0 dX11_feed_0 rfl rfl ?_
  obtain ⟨g1, H⟩ := gd H
  refine J_getI 10 1 dX11_feed_1 g1 flX11_13 rfl ?_
  refine J_bipush (20 : Int32) dX11_feed_4 kb_20 ?_
  refine J_iadd dX11_feed_6 ?_
  refine J_sipush (400 : Int32) dX11_feed_7 ks_400 ?_
  refine J_icmp_le 15 dX11_feed_10 rfl (fun q2 => ?_) (fun q2 => ?_)
  · replace H := br1 q2 H
    refine J_aload_n 0 dX11_feed_15 rfl rfl ?_
    refine J_iload_n 1 dX11_feed_16 rfl rfl ?_
    obtain ⟨h4, e3, H⟩ := bd H
    refine J_cV (as := [.int v1]) 10 YX11_feedNumber 1 dX11_feed_17 moX11_feedNumber mvX11_feedNumber mlX11_73 g1 rfl rfl (okX11_feedNumber (d := d) e3) rfl rfl [] rfl rfl (st2 := []) rfl ?_
    refine J_aload_n 0 dX11_feed_20 rfl rfl ?_
    refine J_iload_n 2 dX11_feed_21 rfl rfl ?_
    obtain ⟨g6, H⟩ := gd H
    obtain ⟨h7, e5, H⟩ := bd H
    refine J_cV (as := [.int v2]) 10 YX11_feedNumber 1 dX11_feed_22 moX11_feedNumber mvX11_feedNumber mlX11_73 g6 rfl rfl (okX11_feedNumber (d := d) e5) rfl rfl [] rfl rfl (st2 := []) rfl ?_
    refine J_aload_n 0 dX11_feed_25 rfl rfl ?_
    refine J_iload_n 3 dX11_feed_26 rfl rfl ?_
    obtain ⟨g9, H⟩ := gd H
    obtain ⟨h10, e8, H⟩ := bd H
    refine J_cV (as := [.int v3]) 10 YX11_feedNumber 1 dX11_feed_27 moX11_feedNumber mvX11_feedNumber mlX11_73 g9 rfl rfl (okX11_feedNumber (d := d) e8) rfl rfl [] rfl rfl (st2 := []) rfl ?_
    refine J_aload_n 0 dX11_feed_30 rfl rfl ?_
    refine J_iload dX11_feed_31 rfl ?_
    obtain ⟨g12, H⟩ := gd H
    obtain ⟨h13, e11, H⟩ := bd H
    refine J_cV (as := [.int v4]) 10 YX11_feedNumber 1 dX11_feed_33 moX11_feedNumber mvX11_feedNumber mlX11_73 g12 rfl rfl (okX11_feedNumber (d := d) e11) rfl rfl [] rfl rfl (st2 := []) rfl ?_
    refine J_aload_n 0 dX11_feed_36 rfl rfl ?_
    refine J_iload dX11_feed_37 rfl ?_
    obtain ⟨g15, H⟩ := gd H
    obtain ⟨h16, e14, H⟩ := bd H
    refine J_cV (as := [.int v5]) 10 YX11_feedNumber 1 dX11_feed_39 moX11_feedNumber mvX11_feedNumber mlX11_73 g15 rfl rfl (okX11_feedNumber (d := d) e14) rfl rfl [] rfl rfl (st2 := []) rfl ?_
    refine J_aload_n 0 dX11_feed_42 rfl rfl ?_
    obtain ⟨g17, H⟩ := gd H
    refine J_getI 10 1 dX11_feed_43 g17 flX11_13 rfl ?_
    cases H
    exact J_iretI dX11_feed_46 rfl
  · replace H := br0 q2 H
    refine J_iconst (-1 : Int32) dX11_feed_13 kc_m1 ?_
    cases H
    exact J_iretI dX11_feed_14 rfl
theorem okX11_feed {d : Nat} {h : Hp} {v0 : Nat} {v1 : Int32} {v2 : Int32} {v3 : Int32} {v4 : Int32} {v5 : Int32} {r : Int32} {h9 : Hp} (H : MX11_feed h v0 v1 v2 v3 v4 v5 = some (r, h9)) : CT (d + 1) YX11_feed [.ref v0, .int v1, .int v2, .int v3, .int v4, .int v5] h (oI r) h9 := CT_of (by decide +kernel) (Nat.le_of_ble_eq_true rfl) (eX11_feed H)
noncomputable def MX3_addStory_124 (h : Hp) (v0 : Nat) : Option Hp :=
  gg (β := Hp) (kd h v0 = 2) <|
  lt (α := Hp) (β := Option Hp) (sI h v0 0 ((gI h v0 0) + (1 : Int32))) fun (h28 : Hp) =>
  some h28
set_option maxRecDepth 100000 in
set_option maxHeartbeats 8000000 in
theorem kX3_addStory_124 {d : Nat} {h : Hp} {v0 : Nat} {h9 : Hp} (H : MX3_addStory_124 h v0 = some h9) : J (d + 1) YX3_addStory 124 [.ref v0, Value.null, Value.null, Value.null, Value.null, Value.null] [] h oV h9 := by
  unfold MX3_addStory_124 at H
  refine J_aload_n 0 dX3_addStory_124 rfl rfl ?_
  refine J_dup dX3_addStory_125 rfl ?_
  obtain ⟨g27, H⟩ := gd H
  refine J_getI 2 0 dX3_addStory_126 g27 flX3_9 rfl ?_
  refine J_iconst (1 : Int32) dX3_addStory_129 kc_1 ?_
  refine J_iadd dX3_addStory_130 ?_
  obtain ⟨h28, e29, H⟩ := lt_el H
  refine J_pI 2 0 dX3_addStory_131 g27 flX3_9 rfl rfl e29 ?_
  have c30 := ekI e29
  have c31 := elI e29
  have c32 := epI e29
  cases H
  exact J_ret dX3_addStory_134 rfl
noncomputable def MX3_addStory_70 (h : Hp) (v0 : Nat) (v1 : Nat) (v2 : Int32) (v3 : Int32) (s0 : Int32) : Option ((Int32 × Hp) ⊕ Hp) :=
  gg (β := ((Int32 × Hp) ⊕ Hp)) (kd h v0 = 2) <|
  gg (β := ((Int32 × Hp) ⊕ Hp)) (kd h (gP h v0 8) = 20) <|
  gg (β := ((Int32 × Hp) ⊕ Hp)) (inB (((gI h v0 0) * (6 : Int32)) + v3) (ln h (gP h v0 8)) = true) <|
  gg (β := ((Int32 × Hp) ⊕ Hp)) (inB ((((gI h v0 0) * (6 : Int32)) + v3) + (1 : Int32)) (ln h (gP h v0 8)) = true) <|
  lt (α := Hp) (β := Option ((Int32 × Hp) ⊕ Hp)) (sI h (gP h v0 8) ((((gI h v0 0) * (6 : Int32)) + v3) + (1 : Int32)).toNatClampNeg ((gI h (gP h v0 8) (((gI h v0 0) * (6 : Int32)) + v3).toNatClampNeg) + s0)) fun (h41 : Hp) =>
  gg (β := ((Int32 × Hp) ⊕ Hp)) (kd h (gP h v0 7) = 20) <|
  gg (β := ((Int32 × Hp) ⊕ Hp)) (inB (gI h41 v0 0) (ln h (gP h v0 7)) = true) <|
  lt (α := Hp) (β := Option ((Int32 × Hp) ⊕ Hp)) (sI h41 (gP h v0 7) (gI h41 v0 0).toNatClampNeg ((gI h41 (gP h v0 7) (gI h41 v0 0).toNatClampNeg) + (1 : Int32))) fun (h48 : Hp) =>
  some (.inl ((v3 + (1 : Int32)), h48))
set_option maxRecDepth 100000 in
set_option maxHeartbeats 8000000 in
theorem kX3_addStory_70 {d : Nat} {h : Hp} {v0 : Nat} {v1 : Nat} {v2 : Int32} {v3 : Int32} {s0 : Int32} {h9 : Hp} {x : ((Int32 × Hp) ⊕ Hp)} (H : MX3_addStory_70 h v0 v1 v2 v3 s0 = some x) (hb0 : ∀ s : Int32 × Hp, x = .inl s → J (d + 1) YX3_addStory 35 [.ref v0, .ref v1, .int v2, .int s.1, Value.null, Value.null] [] s.2 oV h9) (hx : ∀ z : Hp, x = .inr (z) → z = h9) : J (d + 1) YX3_addStory 70 [.ref v0, .ref v1, .int v2, .int v3, Value.null, Value.null] [.int s0] h oV h9 := by
  unfold MX3_addStory_70 at H
  refine J_istore dX3_addStory_70 (by decide) (ls' := [.ref v0, .ref v1, .int v2, .int v3, Value.null, .int s0]) rfl ?_
  refine J_aload_n 0 dX3_addStory_72 rfl rfl ?_
  obtain ⟨g37, H⟩ := gd H
  refine J_gP 2 8 dX3_addStory_73 g37 flX3_37 rfl rfl ?_
  refine J_aload_n 0 dX3_addStory_76 rfl rfl ?_
  refine J_getI 2 0 dX3_addStory_77 g37 flX3_9 rfl ?_
  refine J_bipush (6 : Int32) dX3_addStory_80 kb_6 ?_
  refine J_imul dX3_addStory_82 ?_
  refine J_iload_n 3 dX3_addStory_83 rfl rfl ?_
  refine J_iadd dX3_addStory_84 ?_
  refine J_iconst (1 : Int32) dX3_addStory_85 kc_1 ?_
  refine J_iadd dX3_addStory_86 ?_
  refine J_aload_n 0 dX3_addStory_87 rfl rfl ?_
  refine J_gP 2 8 dX3_addStory_88 g37 flX3_37 rfl rfl ?_
  refine J_aload_n 0 dX3_addStory_91 rfl rfl ?_
  refine J_getI 2 0 dX3_addStory_92 g37 flX3_9 rfl ?_
  refine J_bipush (6 : Int32) dX3_addStory_95 kb_6 ?_
  refine J_imul dX3_addStory_97 ?_
  refine J_iload_n 3 dX3_addStory_98 rfl rfl ?_
  refine J_iadd dX3_addStory_99 ?_
  obtain ⟨g38, H⟩ := gd H
  obtain ⟨g39, H⟩ := gd H
  refine J_iald dX3_addStory_100 g38 (inB_ok g39) ?_
  refine J_iload dX3_addStory_101 rfl ?_
  refine J_iadd dX3_addStory_103 ?_
  obtain ⟨g40, H⟩ := gd H
  obtain ⟨h41, e42, H⟩ := lt_el H
  refine J_sI dX3_addStory_104 g38 (inB_ok g40) e42 ?_
  have c43 := ekI e42
  have c44 := elI e42
  have c45 := epI e42
  refine J_aload_n 0 dX3_addStory_105 rfl rfl ?_
  refine J_gP 2 7 dX3_addStory_106 (kq c43 g37) flX3_34 rfl (congrFun (congrFun c45 v0) 7) ?_
  refine J_aload_n 0 dX3_addStory_109 rfl rfl ?_
  refine J_getI 2 0 dX3_addStory_110 (kq c43 g37) flX3_9 rfl ?_
  refine J_dup2 dX3_addStory_113 rfl rfl ?_
  obtain ⟨g46, H⟩ := gd H
  obtain ⟨g47, H⟩ := gd H
  refine J_iald dX3_addStory_114 (kq c43 g46) (lq c44 g47) ?_
  refine J_iconst (1 : Int32) dX3_addStory_115 kc_1 ?_
  refine J_iadd dX3_addStory_116 ?_
  obtain ⟨h48, e49, H⟩ := lt_el H
  refine J_sI dX3_addStory_117 (kq c43 g46) (lq c44 g47) e49 ?_
  have c50 := (ekI e49).trans c43
  have c51 := (elI e49).trans c44
  have c52 := (epI e49).trans c45
  refine J_iinc (v3 + (1 : Int32)) dX3_addStory_118 rfl (congrArg (HAdd.hAdd v3) kc_1) (by decide) (ls' := [.ref v0, .ref v1, .int v2, .int (v3 + (1 : Int32)), Value.null, .int s0]) rfl ?_
  refine J_goto 35 dX3_addStory_121 rfl ?_
  cases H
  exact J_dr (hb0 _ rfl) ⟨rfl, ⟨rfl, ⟨rfl, ⟨rfl, trivial⟩⟩⟩⟩
noncomputable def BX3_addStory_35 (h : Hp) (v0 : Nat) (v1 : Nat) (v2 : Int32) (v3 : Int32) : Option ((Int32 × Hp) ⊕ Hp) :=
  gg (β := ((Int32 × Hp) ⊕ Hp)) (kd h v1 = 6) <|
  gg (β := ((Int32 × Hp) ⊕ Hp)) (kd h (gP h v1 6) = 20) <|
  gg (β := ((Int32 × Hp) ⊕ Hp)) (inB v2 (ln h (gP h v1 6)) = true) <|
  if (gI h (gP h v1 6) v2.toNatClampNeg) ≤ v3 then
    up1 (MX3_addStory_124 h v0)
  else
    Option.bind (α := Nat) (β := ((Int32 × Hp) ⊕ Hp)) (MX7_findPart h v1 (((5 : Int32) * v2) + v3)) fun (t34 : Nat) =>
    if t34 = 0 then
      MX3_addStory_70 h v0 v1 v2 v3 (0 : Int32)
    else
      gg (β := ((Int32 × Hp) ⊕ Hp)) (kd h t34 = 4) <|
      MX3_addStory_70 h v0 v1 v2 v3 (gI h t34 9)
set_option maxRecDepth 100000 in
set_option maxHeartbeats 8000000 in
theorem bX3_addStory_35 {d : Nat} {h : Hp} {v0 : Nat} {v1 : Nat} {v2 : Int32} {v3 : Int32} {h9 : Hp} {x : ((Int32 × Hp) ⊕ Hp)} (H : BX3_addStory_35 h v0 v1 v2 v3 = some x) (hb0 : ∀ s : Int32 × Hp, x = .inl s → J (d + 1) YX3_addStory 35 [.ref v0, .ref v1, .int v2, .int s.1, Value.null, Value.null] [] s.2 oV h9) (hx : ∀ z : Hp, x = .inr (z) → z = h9) : J (d + 1) YX3_addStory 35 [.ref v0, .ref v1, .int v2, .int v3, Value.null, Value.null] [] h oV h9 := by
  unfold BX3_addStory_35 at H
  refine J_iload_n 3 dX3_addStory_35 rfl rfl ?_
  refine J_aload_n 1 dX3_addStory_36 rfl rfl ?_
  obtain ⟨g23, H⟩ := gd H
  refine J_gP 6 6 dX3_addStory_37 g23 flX3_64 rfl rfl ?_
  refine J_iload_n 2 dX3_addStory_40 rfl rfl ?_
  obtain ⟨g24, H⟩ := gd H
  obtain ⟨g25, H⟩ := gd H
  refine J_iald dX3_addStory_41 g24 (inB_ok g25) ?_
  refine J_icmp_ge 124 dX3_addStory_42 rfl (fun q26 => ?_) (fun q26 => ?_)
  · replace H := br1 q26 H
    obtain ⟨y0, H90, rfl⟩ := up1_el H
    replace H := H90
    obtain rfl := hx _ rfl
    exact J_dr (kX3_addStory_124 H ) ⟨rfl, trivial⟩
  · replace H := br0 q26 H
    refine J_aload_n 1 dX3_addStory_45 rfl rfl ?_
    refine J_iconst (5 : Int32) dX3_addStory_46 kc_5 ?_
    refine J_iload_n 2 dX3_addStory_47 rfl rfl ?_
    refine J_imul dX3_addStory_48 ?_
    refine J_iload_n 3 dX3_addStory_49 rfl rfl ?_
    refine J_iadd dX3_addStory_50 ?_
    obtain ⟨t34, e33, H⟩ := bd H
    refine J_cV (as := [.int (((5 : Int32) * v2) + v3)]) 6 YX7_findPart 1 dX3_addStory_51 moX7_findPart mvX7_findPart mlX3_67 g23 rfl rfl (okX7_findPart (d := d) e33) rfl rfl [] rfl rfl (st2 := [.ref t34]) rfl ?_
    refine J_astore dX3_addStory_54 (by decide) (ls' := [.ref v0, .ref v1, .int v2, .int v3, .ref t34, Value.null]) rfl ?_
    refine J_aload dX3_addStory_56 rfl ?_
    refine J_ifnonnull 65 dX3_addStory_58 rfl (fun q35 => ?_) (fun q35 => ?_)
    · replace H := br0 q35 H
      refine J_aload dX3_addStory_65 rfl ?_
      obtain ⟨g36, H⟩ := gd H
      refine J_getI 4 9 dX3_addStory_67 g36 flX3_71 rfl ?_
      exact J_dr (kX3_addStory_70 H hb0 hx) ⟨rfl, ⟨rfl, ⟨rfl, ⟨rfl, trivial⟩⟩⟩⟩
    · replace H := br1 q35 H
      refine J_iconst (0 : Int32) dX3_addStory_61 kc_0 ?_
      refine J_goto 70 dX3_addStory_62 rfl ?_
      exact J_dr (kX3_addStory_70 H hb0 hx) ⟨rfl, ⟨rfl, ⟨rfl, ⟨rfl, trivial⟩⟩⟩⟩
noncomputable def MX3_addStory_35 (h : Hp) (v0 : Nat) (v1 : Nat) (v2 : Int32) (v3 : Int32) : Option Hp := it (fun q : Int32 × Hp => BX3_addStory_35 q.2 v0 v1 v2 q.1) (v3, h)
set_option maxRecDepth 100000 in
set_option maxHeartbeats 8000000 in
theorem kX3_addStory_35 {d : Nat} {h : Hp} {v0 : Nat} {v1 : Nat} {v2 : Int32} {v3 : Int32} {h9 : Hp} (H : MX3_addStory_35 h v0 v1 v2 v3 = some h9) : J (d + 1) YX3_addStory 35 [.ref v0, .ref v1, .int v2, .int v3, Value.null, Value.null] [] h oV h9 := by
  unfold MX3_addStory_35 at H
  refine it_J (G := (fun q : Int32 × Hp => J (d + 1) YX3_addStory 35 [.ref v0, .ref v1, .int v2, .int q.1, Value.null, Value.null] [] q.2 oV h9)) (Q := (fun y : Hp => y = h9)) (fun q x Hq hm => ?_) H rfl
  exact bX3_addStory_35 Hq (fun s hs => by subst hs; exact hm) (fun z hz => by subst hz; exact hm)
noncomputable def MX3_addStory (h : Hp) (v0 : Nat) (v1 : Nat) (v2 : Int32) : Option Hp :=
  gg (β := Hp) (kd h v0 = 2) <|
  gg (β := Hp) (kd h (gP h v0 2) = 20) <|
  gg (β := Hp) (inB (gI h v0 0) (ln h (gP h v0 2)) = true) <|
  lt (α := Hp) (β := Option Hp) (sI h (gP h v0 2) (gI h v0 0).toNatClampNeg v2) fun (h4 : Hp) =>
  gg (β := Hp) (kd h (gP h v0 7) = 20) <|
  gg (β := Hp) (inB (gI h4 v0 0) (ln h (gP h v0 7)) = true) <|
  lt (α := Hp) (β := Option Hp) (sI h4 (gP h v0 7) (gI h4 v0 0).toNatClampNeg (0 : Int32)) fun (h11 : Hp) =>
  gg (β := Hp) (kd h (gP h v0 8) = 20) <|
  gg (β := Hp) (inB ((gI h11 v0 0) * (6 : Int32)) (ln h (gP h v0 8)) = true) <|
  lt (α := Hp) (β := Option Hp) (sI h11 (gP h v0 8) ((gI h11 v0 0) * (6 : Int32)).toNatClampNeg (0 : Int32)) fun (h18 : Hp) =>
  MX3_addStory_35 h18 v0 v1 v2 (0 : Int32)
set_option maxRecDepth 100000 in
set_option maxHeartbeats 8000000 in
theorem eX3_addStory {d : Nat} {h : Hp} {v0 : Nat} {v1 : Nat} {v2 : Int32} {h9 : Hp} (H : MX3_addStory h v0 v1 v2 = some h9) : J (d + 1) YX3_addStory 0 [.ref v0, .ref v1, .int v2, Value.null, Value.null, Value.null] [] h oV h9 := by
  unfold MX3_addStory at H
  refine J_aload_n 0 dX3_addStory_0 rfl rfl ?_
  obtain ⟨g1, H⟩ := gd H
  refine J_gP 2 2 dX3_addStory_1 g1 flX3_18 rfl rfl ?_
  refine J_aload_n 0 dX3_addStory_4 rfl rfl ?_
  refine J_getI 2 0 dX3_addStory_5 g1 flX3_9 rfl ?_
  refine J_iload_n 2 dX3_addStory_8 rfl rfl ?_
  obtain ⟨g2, H⟩ := gd H
  obtain ⟨g3, H⟩ := gd H
  obtain ⟨h4, e5, H⟩ := lt_el H
  refine J_sI dX3_addStory_9 g2 (inB_ok g3) e5 ?_
  have c6 := ekI e5
  have c7 := elI e5
  have c8 := epI e5
  refine J_aload_n 0 dX3_addStory_10 rfl rfl ?_
  refine J_gP 2 7 dX3_addStory_11 (kq c6 g1) flX3_34 rfl (congrFun (congrFun c8 v0) 7) ?_
  refine J_aload_n 0 dX3_addStory_14 rfl rfl ?_
  refine J_getI 2 0 dX3_addStory_15 (kq c6 g1) flX3_9 rfl ?_
  refine J_iconst (0 : Int32) dX3_addStory_18 kc_0 ?_
  obtain ⟨g9, H⟩ := gd H
  obtain ⟨g10, H⟩ := gd H
  obtain ⟨h11, e12, H⟩ := lt_el H
  refine J_sI dX3_addStory_19 (kq c6 g9) (lq c7 g10) e12 ?_
  have c13 := (ekI e12).trans c6
  have c14 := (elI e12).trans c7
  have c15 := (epI e12).trans c8
  refine J_aload_n 0 dX3_addStory_20 rfl rfl ?_
  refine J_gP 2 8 dX3_addStory_21 (kq c13 g1) flX3_37 rfl (congrFun (congrFun c15 v0) 8) ?_
  refine J_aload_n 0 dX3_addStory_24 rfl rfl ?_
  refine J_getI 2 0 dX3_addStory_25 (kq c13 g1) flX3_9 rfl ?_
  refine J_bipush (6 : Int32) dX3_addStory_28 kb_6 ?_
  refine J_imul dX3_addStory_30 ?_
  refine J_iconst (0 : Int32) dX3_addStory_31 kc_0 ?_
  obtain ⟨g16, H⟩ := gd H
  obtain ⟨g17, H⟩ := gd H
  obtain ⟨h18, e19, H⟩ := lt_el H
  refine J_sI dX3_addStory_32 (kq c13 g16) (lq c14 g17) e19 ?_
  have c20 := (ekI e19).trans c13
  have c21 := (elI e19).trans c14
  have c22 := (epI e19).trans c15
  refine J_iconst (0 : Int32) dX3_addStory_33 kc_0 ?_
  refine J_istore_n 3 dX3_addStory_34 rfl (by decide) (ls' := [.ref v0, .ref v1, .int v2, .int (0 : Int32), Value.null, Value.null]) rfl ?_
  exact J_dr (kX3_addStory_35 H ) ⟨rfl, ⟨rfl, ⟨rfl, ⟨rfl, trivial⟩⟩⟩⟩
theorem okX3_addStory {d : Nat} {h : Hp} {v0 : Nat} {v1 : Nat} {v2 : Int32} {h9 : Hp} (H : MX3_addStory h v0 v1 v2 = some h9) : CT (d + 1) YX3_addStory [.ref v0, .ref v1, .int v2] h oV h9 := CT_of (by decide +kernel) (Nat.le_of_ble_eq_true rfl) (eX3_addStory H)
