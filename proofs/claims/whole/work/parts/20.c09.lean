noncomputable def BX2_rackOf_9 (h : Hp) (v0 : Nat) (v1 : Int32) (v2 : Int32) (v3 : Int32) (v4 : Int32) (v5 : Int32) (v6 : Int32) : Option ((Int32 × Int32 × Int32) ⊕ Int32) :=
  gg (kd h v0 = 1) <|
  if (gI h v0 11) ≤ v6 then
    some (.inr (v4))
  else
    gg (kd h (gP h v0 7) = 20) <|
    gg (inB v6 (ln h (gP h v0 7)) = true) <|
    if (gI h (gP h v0 7) v6.toNatClampNeg) = v1 then
      gg (kd h (gP h v0 10) = 20) <|
      gg (inB v6 (ln h (gP h v0 10)) = true) <|
      if v3 < (gI h (gP h v0 10) v6.toNatClampNeg) then
        some (.inl (v4, v5, (v6 + (1 : Int32))))
      else
        gg (kd h (gP h v0 9) = 20) <|
        gg (inB v6 (ln h (gP h v0 9)) = true) <|
        if (gI h (gP h v0 9) v6.toNatClampNeg) ≤ v2 then
          if (gI h (gP h v0 9) v6.toNatClampNeg) ≤ v5 then
            if (gI h (gP h v0 9) v6.toNatClampNeg) = v5 then
              gg (kd h (gP h v0 8) = 20) <|
              gg (inB v6 (ln h (gP h v0 8)) = true) <|
              if (gI h (gP h v0 8) v6.toNatClampNeg) = v4 then
                some (.inl (v4, v5, (v6 + (1 : Int32))))
              else
                some (.inl ((-1 : Int32), v5, (v6 + (1 : Int32))))
            else
              some (.inl (v4, v5, (v6 + (1 : Int32))))
          else
            gg (kd h (gP h v0 8) = 20) <|
            gg (inB v6 (ln h (gP h v0 8)) = true) <|
            some (.inl ((gI h (gP h v0 8) v6.toNatClampNeg), (gI h (gP h v0 9) v6.toNatClampNeg), (v6 + (1 : Int32))))
        else
          some (.inl (v4, v5, (v6 + (1 : Int32))))
    else
      some (.inl (v4, v5, (v6 + (1 : Int32))))
set_option maxRecDepth 100000 in
set_option maxHeartbeats 8000000 in
theorem bX2_rackOf_9 {d : Nat} {h : Hp} {v0 : Nat} {v1 : Int32} {v2 : Int32} {v3 : Int32} {v4 : Int32} {v5 : Int32} {v6 : Int32} {r : Int32} {x : ((Int32 × Int32 × Int32) ⊕ Int32)} (H : BX2_rackOf_9 h v0 v1 v2 v3 v4 v5 v6 = some x) (hb0 : ∀ s : Int32 × Int32 × Int32, x = .inl s → J (d) YX2_rackOf 9 [.ref v0, .int v1, .int v2, .int v3, .int s.1, .int s.2.1, .int s.2.2] [] h (oI r) h) (hx : ∀ z : Int32, x = .inr (z) → z = r) : J (d) YX2_rackOf 9 [.ref v0, .int v1, .int v2, .int v3, .int v4, .int v5, .int v6] [] h (oI r) h := by
  unfold BX2_rackOf_9 at H
  refine J_iload dX2_rackOf_9 rfl ?_
  refine J_aload_n 0 dX2_rackOf_11 rfl rfl ?_
  obtain ⟨g1, H⟩ := gd H
  refine J_getI 1 11 dX2_rackOf_12 g1 flX2_48 rfl ?_
  refine J_icmp_ge 120 dX2_rackOf_15 rfl (fun q2 => ?_) (fun q2 => ?_)
  · replace H := br1 q2 H
    refine J_iload dX2_rackOf_120 rfl ?_
    cases H
    cases hx _ rfl
    exact J_iretI dX2_rackOf_122 rfl
  · replace H := br0 q2 H
    refine J_aload_n 0 dX2_rackOf_18 rfl rfl ?_
    refine J_gP 1 7 dX2_rackOf_19 g1 flX2_36 rfl rfl ?_
    refine J_iload dX2_rackOf_22 rfl ?_
    obtain ⟨g3, H⟩ := gd H
    obtain ⟨g4, H⟩ := gd H
    refine J_iald dX2_rackOf_24 g3 (inB_ok g4) ?_
    refine J_iload_n 1 dX2_rackOf_25 rfl rfl ?_
    refine J_icmp_ne 114 dX2_rackOf_26 rfl (fun q5 => ?_) (fun q5 => ?_)
    · replace H := br0 q5 H
      refine J_iinc (v6 + (1 : Int32)) dX2_rackOf_114 rfl (congrArg (HAdd.hAdd v6) kc_1) (by decide) (ls' := [.ref v0, .int v1, .int v2, .int v3, .int v4, .int v5, .int (v6 + (1 : Int32))]) rfl ?_
      refine J_goto 9 dX2_rackOf_117 rfl ?_
      cases H
      exact J_dr (hb0 _ rfl) ⟨rfl, ⟨rfl, ⟨rfl, ⟨rfl, ⟨rfl, ⟨rfl, ⟨rfl, trivial⟩⟩⟩⟩⟩⟩⟩
    · replace H := br1 q5 H
      refine J_aload_n 0 dX2_rackOf_29 rfl rfl ?_
      refine J_gP 1 10 dX2_rackOf_30 g1 flX2_45 rfl rfl ?_
      refine J_iload dX2_rackOf_33 rfl ?_
      obtain ⟨g6, H⟩ := gd H
      obtain ⟨g7, H⟩ := gd H
      refine J_iald dX2_rackOf_35 g6 (inB_ok g7) ?_
      refine J_iload_n 3 dX2_rackOf_36 rfl rfl ?_
      refine J_icmp_gt 114 dX2_rackOf_37 rfl (fun q8 => ?_) (fun q8 => ?_)
      · replace H := br1 q8 H
        refine J_iinc (v6 + (1 : Int32)) dX2_rackOf_114 rfl (congrArg (HAdd.hAdd v6) kc_1) (by decide) (ls' := [.ref v0, .int v1, .int v2, .int v3, .int v4, .int v5, .int (v6 + (1 : Int32))]) rfl ?_
        refine J_goto 9 dX2_rackOf_117 rfl ?_
        cases H
        exact J_dr (hb0 _ rfl) ⟨rfl, ⟨rfl, ⟨rfl, ⟨rfl, ⟨rfl, ⟨rfl, ⟨rfl, trivial⟩⟩⟩⟩⟩⟩⟩
      · replace H := br0 q8 H
        refine J_aload_n 0 dX2_rackOf_40 rfl rfl ?_
        refine J_gP 1 9 dX2_rackOf_41 g1 flX2_42 rfl rfl ?_
        refine J_iload dX2_rackOf_44 rfl ?_
        obtain ⟨g9, H⟩ := gd H
        obtain ⟨g10, H⟩ := gd H
        refine J_iald dX2_rackOf_46 g9 (inB_ok g10) ?_
        refine J_iload_n 2 dX2_rackOf_47 rfl rfl ?_
        refine J_icmp_le 54 dX2_rackOf_48 rfl (fun q11 => ?_) (fun q11 => ?_)
        · replace H := br1 q11 H
          refine J_aload_n 0 dX2_rackOf_54 rfl rfl ?_
          refine J_gP 1 9 dX2_rackOf_55 g1 flX2_42 rfl rfl ?_
          refine J_iload dX2_rackOf_58 rfl ?_
          refine J_iald dX2_rackOf_60 g9 (inB_ok g10) ?_
          refine J_iload dX2_rackOf_61 rfl ?_
          refine J_icmp_le 87 dX2_rackOf_63 rfl (fun q12 => ?_) (fun q12 => ?_)
          · replace H := br1 q12 H
            refine J_aload_n 0 dX2_rackOf_87 rfl rfl ?_
            refine J_gP 1 9 dX2_rackOf_88 g1 flX2_42 rfl rfl ?_
            refine J_iload dX2_rackOf_91 rfl ?_
            refine J_iald dX2_rackOf_93 g9 (inB_ok g10) ?_
            refine J_iload dX2_rackOf_94 rfl ?_
            refine J_icmp_ne 114 dX2_rackOf_96 rfl (fun q13 => ?_) (fun q13 => ?_)
            · replace H := br0 q13 H
              refine J_iinc (v6 + (1 : Int32)) dX2_rackOf_114 rfl (congrArg (HAdd.hAdd v6) kc_1) (by decide) (ls' := [.ref v0, .int v1, .int v2, .int v3, .int v4, .int v5, .int (v6 + (1 : Int32))]) rfl ?_
              refine J_goto 9 dX2_rackOf_117 rfl ?_
              cases H
              exact J_dr (hb0 _ rfl) ⟨rfl, ⟨rfl, ⟨rfl, ⟨rfl, ⟨rfl, ⟨rfl, ⟨rfl, trivial⟩⟩⟩⟩⟩⟩⟩
            · replace H := br1 q13 H
              refine J_aload_n 0 dX2_rackOf_99 rfl rfl ?_
              refine J_gP 1 8 dX2_rackOf_100 g1 flX2_39 rfl rfl ?_
              refine J_iload dX2_rackOf_103 rfl ?_
              obtain ⟨g14, H⟩ := gd H
              obtain ⟨g15, H⟩ := gd H
              refine J_iald dX2_rackOf_105 g14 (inB_ok g15) ?_
              refine J_iload dX2_rackOf_106 rfl ?_
              refine J_icmp_eq 114 dX2_rackOf_108 rfl (fun q16 => ?_) (fun q16 => ?_)
              · replace H := br1 q16 H
                refine J_iinc (v6 + (1 : Int32)) dX2_rackOf_114 rfl (congrArg (HAdd.hAdd v6) kc_1) (by decide) (ls' := [.ref v0, .int v1, .int v2, .int v3, .int v4, .int v5, .int (v6 + (1 : Int32))]) rfl ?_
                refine J_goto 9 dX2_rackOf_117 rfl ?_
                cases H
                exact J_dr (hb0 _ rfl) ⟨rfl, ⟨rfl, ⟨rfl, ⟨rfl, ⟨rfl, ⟨rfl, ⟨rfl, trivial⟩⟩⟩⟩⟩⟩⟩
              · replace H := br0 q16 H
                refine J_iconst (-1 : Int32) dX2_rackOf_111 kc_m1 ?_
                refine J_istore dX2_rackOf_112 (by decide) (ls' := [.ref v0, .int v1, .int v2, .int v3, .int (-1 : Int32), .int v5, .int v6]) rfl ?_
                refine J_iinc (v6 + (1 : Int32)) dX2_rackOf_114 rfl (congrArg (HAdd.hAdd v6) kc_1) (by decide) (ls' := [.ref v0, .int v1, .int v2, .int v3, .int (-1 : Int32), .int v5, .int (v6 + (1 : Int32))]) rfl ?_
                refine J_goto 9 dX2_rackOf_117 rfl ?_
                cases H
                exact J_dr (hb0 _ rfl) ⟨rfl, ⟨rfl, ⟨rfl, ⟨rfl, ⟨rfl, ⟨rfl, ⟨rfl, trivial⟩⟩⟩⟩⟩⟩⟩
          · replace H := br0 q12 H
            refine J_aload_n 0 dX2_rackOf_66 rfl rfl ?_
            refine J_gP 1 9 dX2_rackOf_67 g1 flX2_42 rfl rfl ?_
            refine J_iload dX2_rackOf_70 rfl ?_
            refine J_iald dX2_rackOf_72 g9 (inB_ok g10) ?_
            refine J_istore dX2_rackOf_73 (by decide) (ls' := [.ref v0, .int v1, .int v2, .int v3, .int v4, .int (gI h (gP h v0 9) v6.toNatClampNeg), .int v6]) rfl ?_
            refine J_aload_n 0 dX2_rackOf_75 rfl rfl ?_
            refine J_gP 1 8 dX2_rackOf_76 g1 flX2_39 rfl rfl ?_
            refine J_iload dX2_rackOf_79 rfl ?_
            obtain ⟨g17, H⟩ := gd H
            obtain ⟨g18, H⟩ := gd H
            refine J_iald dX2_rackOf_81 g17 (inB_ok g18) ?_
            refine J_istore dX2_rackOf_82 (by decide) (ls' := [.ref v0, .int v1, .int v2, .int v3, .int (gI h (gP h v0 8) v6.toNatClampNeg), .int (gI h (gP h v0 9) v6.toNatClampNeg), .int v6]) rfl ?_
            refine J_goto 114 dX2_rackOf_84 rfl ?_
            refine J_iinc (v6 + (1 : Int32)) dX2_rackOf_114 rfl (congrArg (HAdd.hAdd v6) kc_1) (by decide) (ls' := [.ref v0, .int v1, .int v2, .int v3, .int (gI h (gP h v0 8) v6.toNatClampNeg), .int (gI h (gP h v0 9) v6.toNatClampNeg), .int (v6 + (1 : Int32))]) rfl ?_
            refine J_goto 9 dX2_rackOf_117 rfl ?_
            cases H
            exact J_dr (hb0 _ rfl) ⟨rfl, ⟨rfl, ⟨rfl, ⟨rfl, ⟨rfl, ⟨rfl, ⟨rfl, trivial⟩⟩⟩⟩⟩⟩⟩
        · replace H := br0 q11 H
          refine J_goto 114 dX2_rackOf_51 rfl ?_
          refine J_iinc (v6 + (1 : Int32)) dX2_rackOf_114 rfl (congrArg (HAdd.hAdd v6) kc_1) (by decide) (ls' := [.ref v0, .int v1, .int v2, .int v3, .int v4, .int v5, .int (v6 + (1 : Int32))]) rfl ?_
          refine J_goto 9 dX2_rackOf_117 rfl ?_
          cases H
          exact J_dr (hb0 _ rfl) ⟨rfl, ⟨rfl, ⟨rfl, ⟨rfl, ⟨rfl, ⟨rfl, ⟨rfl, trivial⟩⟩⟩⟩⟩⟩⟩
noncomputable def MX2_rackOf_9 (h : Hp) (v0 : Nat) (v1 : Int32) (v2 : Int32) (v3 : Int32) (v4 : Int32) (v5 : Int32) (v6 : Int32) : Option Int32 := it (fun q : Int32 × Int32 × Int32 => BX2_rackOf_9 h v0 v1 v2 v3 q.1 q.2.1 q.2.2) (v4, v5, v6)
set_option maxRecDepth 100000 in
set_option maxHeartbeats 8000000 in
theorem kX2_rackOf_9 {d : Nat} {h : Hp} {v0 : Nat} {v1 : Int32} {v2 : Int32} {v3 : Int32} {v4 : Int32} {v5 : Int32} {v6 : Int32} {r : Int32} (H : MX2_rackOf_9 h v0 v1 v2 v3 v4 v5 v6 = some r) : J (d) YX2_rackOf 9 [.ref v0, .int v1, .int v2, .int v3, .int v4, .int v5, .int v6] [] h (oI r) h := by
  unfold MX2_rackOf_9 at H
  refine it_J (G := (fun q : Int32 × Int32 × Int32 => J (d) YX2_rackOf 9 [.ref v0, .int v1, .int v2, .int v3, .int q.1, .int q.2.1, .int q.2.2] [] h (oI r) h)) (Q := (fun y : Int32 => y = r)) (fun q x Hq hm => ?_) H rfl
  exact bX2_rackOf_9 Hq (fun s hs => by subst hs; exact hm) (fun z hz => by subst hz; exact hm)
noncomputable def MX2_rackOf (h : Hp) (v0 : Nat) (v1 : Int32) (v2 : Int32) (v3 : Int32) : Option Int32 :=
  MX2_rackOf_9 h v0 v1 v2 v3 (-1 : Int32) (-1 : Int32) (0 : Int32)
set_option maxRecDepth 100000 in
set_option maxHeartbeats 8000000 in
theorem eX2_rackOf {d : Nat} {h : Hp} {v0 : Nat} {v1 : Int32} {v2 : Int32} {v3 : Int32} {r : Int32} (H : MX2_rackOf h v0 v1 v2 v3 = some r) : J (d) YX2_rackOf 0 [.ref v0, .int v1, .int v2, .int v3, Value.null, Value.null, Value.null] [] h (oI r) h := by
  unfold MX2_rackOf at H
  refine J_iconst (-1 : Int32) dX2_rackOf_0 kc_m1 ?_
  refine J_istore dX2_rackOf_1 (by decide) (ls' := [.ref v0, .int v1, .int v2, .int v3, .int (-1 : Int32), Value.null, Value.null]) rfl ?_
  refine J_iconst (-1 : Int32) dX2_rackOf_3 kc_m1 ?_
  refine J_istore dX2_rackOf_4 (by decide) (ls' := [.ref v0, .int v1, .int v2, .int v3, .int (-1 : Int32), .int (-1 : Int32), Value.null]) rfl ?_
  refine J_iconst (0 : Int32) dX2_rackOf_6 kc_0 ?_
  refine J_istore dX2_rackOf_7 (by decide) (ls' := [.ref v0, .int v1, .int v2, .int v3, .int (-1 : Int32), .int (-1 : Int32), .int (0 : Int32)]) rfl ?_
  exact J_dr (kX2_rackOf_9 H ) ⟨rfl, ⟨rfl, ⟨rfl, ⟨rfl, ⟨rfl, ⟨rfl, ⟨rfl, trivial⟩⟩⟩⟩⟩⟩⟩
theorem okX2_rackOf {d : Nat} {h : Hp} {v0 : Nat} {v1 : Int32} {v2 : Int32} {v3 : Int32} {r : Int32} (H : MX2_rackOf h v0 v1 v2 v3 = some r) : CT (d) YX2_rackOf [.ref v0, .int v1, .int v2, .int v3] h (oI r) h := CT_of (by decide +kernel) (Nat.le_of_ble_eq_true rfl) (eX2_rackOf H)
noncomputable def MX11_where (h : Hp) (v0 : Nat) (v1 : Int32) (v2 : Int32) (v3 : Int32) : Option ((Int32 ⊕ Nat) × Hp) :=
  gg (kd h v0 = 10) <|
  gg (kd h (gP h v0 5) = 6) <|
  Option.bind (MX7_findSlug h (gP h v0 5) v1) fun t4 =>
  if t4 = 0 then
    some (.inr 1, bmp h 1 6)
  else
    gg (kd h (gP h v0 6) = 1) <|
    Option.bind (MX2_rackOf h (gP h v0 6) v1 v2 v3) fun t8 =>
    some (.inl t8, h)
set_option maxRecDepth 100000 in
set_option maxHeartbeats 8000000 in
theorem eX11_where {d : Nat} {h : Hp} {v0 : Nat} {v1 : Int32} {v2 : Int32} {v3 : Int32} {r : Int32 ⊕ Nat} {h9 : Hp} (H : MX11_where h v0 v1 v2 v3 = some (r, h9)) : J (d + 1) YX11_where 0 [.ref v0, .int v1, .int v2, .int v3] [] h (oT r) h9 := by
  unfold MX11_where at H
  refine J_aload_n 0 dX11_where_0 rfl rfl ?_
  obtain ⟨g1, H⟩ := gd H
  refine J_gP 10 5 dX11_where_1 g1 flX11_39 rfl rfl ?_
  refine J_iload_n 1 dX11_where_4 rfl rfl ?_
  obtain ⟨g3, H⟩ := gd H
  obtain ⟨t4, e2, H⟩ := bd H
  refine J_cV (as := [.int v1]) 6 YX7_findSlug 1 dX11_where_5 moX7_findSlug mvX7_findSlug mlX11_280 g3 rfl (okX7_findSlug (d := d) e2) rfl rfl [] rfl rfl (st2 := [.ref t4]) rfl ?_
  refine J_ifnonnull 19 dX11_where_8 rfl (fun q5 => ?_) (fun q5 => ?_)
  · replace H := br0 q5 H
    refine J_aload_n 0 dX11_where_19 rfl rfl ?_
    refine J_gP 10 6 dX11_where_20 g1 flX11_46 rfl rfl ?_
    refine J_iload_n 1 dX11_where_23 rfl rfl ?_
    refine J_iload_n 2 dX11_where_24 rfl rfl ?_
    refine J_iload_n 3 dX11_where_25 rfl rfl ?_
    obtain ⟨g7, H⟩ := gd H
    obtain ⟨t8, e6, H⟩ := bd H
    refine J_cV (as := [.int v1, .int v2, .int v3]) 1 YX2_rackOf 3 dX11_where_26 moX2_rackOf mvX2_rackOf mlX11_378 g7 rfl (okX2_rackOf (d := d) e6) rfl rfl [] rfl rfl (st2 := [.int t8]) rfl ?_
    cases H
    exact J_iretI dX11_where_29 rfl
  · replace H := br1 q5 H
    cases H
    exact J_throw 1 ["java/lang/RuntimeException", "java/lang/Exception"] dX11_where_11 dX11_where_14 dX11_where_15 dX11_where_18 th_86 clX11_84 (Nat.le_of_ble_eq_true rfl)
theorem okX11_where {d : Nat} {h : Hp} {v0 : Nat} {v1 : Int32} {v2 : Int32} {v3 : Int32} {r : Int32 ⊕ Nat} {h9 : Hp} (H : MX11_where h v0 v1 v2 v3 = some (r, h9)) : CT (d + 1) YX11_where [.ref v0, .int v1, .int v2, .int v3] h (oT r) h9 := CT_of (by decide +kernel) (Nat.le_of_ble_eq_true rfl) (eX11_where H)
noncomputable def MX11_width (h : Hp) (v0 : Nat) (v1 : Int32) (v2 : Int32) (v3 : Int32) : Option ((Unit ⊕ Nat) × Hp) :=
  Option.bind (MX11_isFace h v1) fun t2 =>
  if t2 = 0 then
    some (.inr 1, bmp h 1 6)
  else
    Option.bind (MX11_isSign h v2) fun t5 =>
    if t5 = 0 then
      some (.inr 1, bmp h 1 6)
    else
      if v3 < (1 : Int32) then
        some (.inr 2, bmp h 1 6)
      else
        if v3 ≤ (20 : Int32) then
          gg (kd h v0 = 10) <|
          gg (kd h (gP h v0 5) = 6) <|
          gg (kd h (gP h (gP h v0 5) 1) = 20) <|
          gg (inB ((v1 * (27 : Int32)) + v2) (ln h (gP h (gP h v0 5) 1)) = true) <|
          lt (sI h (gP h (gP h v0 5) 1) ((v1 * (27 : Int32)) + v2).toNatClampNeg v3) fun h13 =>
          some (.inl (), h13)
        else
          some (.inr 2, bmp h 1 6)
set_option maxRecDepth 100000 in
set_option maxHeartbeats 8000000 in
theorem eX11_width {d : Nat} {h : Hp} {v0 : Nat} {v1 : Int32} {v2 : Int32} {v3 : Int32} {r : Unit ⊕ Nat} {h9 : Hp} (H : MX11_width h v0 v1 v2 v3 = some (r, h9)) : J (d + 1) YX11_width 0 [.ref v0, .int v1, .int v2, .int v3] [] h (oU r) h9 := by
  unfold MX11_width at H
  refine J_iload_n 1 dX11_width_0 rfl rfl ?_
  obtain ⟨t2, e1, H⟩ := bd H
  refine J_cS (as := [.int v1]) YX11_isFace 1 dX11_width_1 moX11_isFace msX11_isFace mlX11_77 (okX11_isFace (d := d) e1) rfl rfl [] rfl rfl (st2 := [.int t2]) rfl ?_
  refine J_if_eq 14 dX11_width_4 rfl (fun q3 => ?_) (fun q3 => ?_)
  · replace H := br1 q3 H
    cases H
    exact J_throw 1 ["java/lang/RuntimeException", "java/lang/Exception"] dX11_width_14 dX11_width_17 dX11_width_18 dX11_width_21 th_86 clX11_84 (Nat.le_of_ble_eq_true rfl)
  · replace H := br0 q3 H
    refine J_iload_n 2 dX11_width_7 rfl rfl ?_
    obtain ⟨t5, e4, H⟩ := bd H
    refine J_cS (as := [.int v2]) YX11_isSign 1 dX11_width_8 moX11_isSign msX11_isSign mlX11_81 (okX11_isSign (d := d) e4) rfl rfl [] rfl rfl (st2 := [.int t5]) rfl ?_
    refine J_if_ne 22 dX11_width_11 rfl (fun q6 => ?_) (fun q6 => ?_)
    · replace H := br0 q6 H
      refine J_iload_n 3 dX11_width_22 rfl rfl ?_
      refine J_iconst (1 : Int32) dX11_width_23 kc_1 ?_
      refine J_icmp_lt 33 dX11_width_24 rfl (fun q7 => ?_) (fun q7 => ?_)
      · replace H := br1 q7 H
        cases H
        exact J_throw 2 ["java/lang/RuntimeException", "java/lang/Exception"] dX11_width_33 dX11_width_36 dX11_width_37 dX11_width_40 th_89 clX11_87 (Nat.le_of_ble_eq_true rfl)
      · replace H := br0 q7 H
        refine J_iload_n 3 dX11_width_27 rfl rfl ?_
        refine J_bipush (20 : Int32) dX11_width_28 kb_20 ?_
        refine J_icmp_le 41 dX11_width_30 rfl (fun q8 => ?_) (fun q8 => ?_)
        · replace H := br1 q8 H
          refine J_aload_n 0 dX11_width_41 rfl rfl ?_
          obtain ⟨g9, H⟩ := gd H
          refine J_gP 10 5 dX11_width_42 g9 flX11_39 rfl rfl ?_
          obtain ⟨g10, H⟩ := gd H
          refine J_gP 6 1 dX11_width_45 g10 flX11_90 rfl rfl ?_
          refine J_iload_n 1 dX11_width_48 rfl rfl ?_
          refine J_bipush (27 : Int32) dX11_width_49 kb_27 ?_
          refine J_imul dX11_width_51 ?_
          refine J_iload_n 2 dX11_width_52 rfl rfl ?_
          refine J_iadd dX11_width_53 ?_
          refine J_iload_n 3 dX11_width_54 rfl rfl ?_
          obtain ⟨g11, H⟩ := gd H
          obtain ⟨g12, H⟩ := gd H
          obtain ⟨h13, e14, H⟩ := lt_el H
          refine J_sI dX11_width_55 g11 (inB_ok g12) e14 ?_
          have c15 := ekI e14
          have c16 := elI e14
          have c17 := epI e14
          cases H
          exact J_ret dX11_width_56 rfl
        · replace H := br0 q8 H
          cases H
          exact J_throw 2 ["java/lang/RuntimeException", "java/lang/Exception"] dX11_width_33 dX11_width_36 dX11_width_37 dX11_width_40 th_89 clX11_87 (Nat.le_of_ble_eq_true rfl)
    · replace H := br1 q6 H
      cases H
      exact J_throw 1 ["java/lang/RuntimeException", "java/lang/Exception"] dX11_width_14 dX11_width_17 dX11_width_18 dX11_width_21 th_86 clX11_84 (Nat.le_of_ble_eq_true rfl)
theorem okX11_width {d : Nat} {h : Hp} {v0 : Nat} {v1 : Int32} {v2 : Int32} {v3 : Int32} {r : Unit ⊕ Nat} {h9 : Hp} (H : MX11_width h v0 v1 v2 v3 = some (r, h9)) : CT (d + 1) YX11_width [.ref v0, .int v1, .int v2, .int v3] h (oU r) h9 := CT_of (by decide +kernel) (Nat.le_of_ble_eq_true rfl) (eX11_width H)
