noncomputable def MX7_addStory_84 (h : Hp) (v0 : Nat) (v5 : Int32) : Option (Int32 × Hp) :=
  gg (kd h v0 = 6) <|
  gg (kd h (gP h v0 6) = 20) <|
  gg (inB (gI h v0 7) (ln h (gP h v0 6)) = true) <|
  lt (sI h (gP h v0 6) (gI h v0 7).toNatClampNeg v5) fun h5 =>
  lt (sI h5 v0 7 ((gI h5 v0 7) + (1 : Int32))) fun h10 =>
  some (((gI h10 v0 7) - (1 : Int32)), h10)
set_option maxRecDepth 100000 in
set_option maxHeartbeats 8000000 in
theorem kX7_addStory_84 {d : Nat} {h : Hp} {v0 : Nat} {v5 : Int32} {r : Int32} {h9 : Hp} (H : MX7_addStory_84 h v0 v5 = some (r, h9)) : J (d + 2) YX7_addStory 84 [.ref v0, Value.null, Value.null, Value.null, Value.null, .int v5, Value.null, Value.null, Value.null] [] h (oI r) h9 := by
  unfold MX7_addStory_84 at H
  refine J_aload_n 0 dX7_addStory_84 rfl rfl ?_
  obtain ⟨g2, H⟩ := gd H
  refine J_gP 6 6 dX7_addStory_85 g2 flX7_39 rfl rfl ?_
  refine J_aload_n 0 dX7_addStory_88 rfl rfl ?_
  refine J_getI 6 7 dX7_addStory_89 g2 flX7_42 rfl ?_
  refine J_iload dX7_addStory_92 rfl ?_
  obtain ⟨g3, H⟩ := gd H
  obtain ⟨g4, H⟩ := gd H
  obtain ⟨h5, e6, H⟩ := lt_el H
  refine J_sI dX7_addStory_94 g3 (inB_ok g4) e6 ?_
  have c7 := ekI e6
  have c8 := elI e6
  have c9 := epI e6
  refine J_aload_n 0 dX7_addStory_95 rfl rfl ?_
  refine J_dup dX7_addStory_96 rfl ?_
  refine J_getI 6 7 dX7_addStory_97 (kq c7 g2) flX7_42 rfl ?_
  refine J_iconst (1 : Int32) dX7_addStory_100 kc_1 ?_
  refine J_iadd dX7_addStory_101 ?_
  obtain ⟨h10, e11, H⟩ := lt_el H
  refine J_pI 6 7 dX7_addStory_102 (kq c7 g2) flX7_42 rfl rfl e11 ?_
  have c12 := (ekI e11).trans c7
  have c13 := (elI e11).trans c8
  have c14 := (epI e11).trans c9
  refine J_aload_n 0 dX7_addStory_105 rfl rfl ?_
  refine J_getI 6 7 dX7_addStory_106 (kq c12 g2) flX7_42 rfl ?_
  refine J_iconst (1 : Int32) dX7_addStory_109 kc_1 ?_
  refine J_isub dX7_addStory_110 ?_
  cases H
  exact J_iretI dX7_addStory_111 rfl
noncomputable def MX7_addStory_36 (h : Hp) (v0 : Nat) (v1 : Nat) (v2 : Int32) (v3 : Int32) (v4 : Int32) (v5 : Int32) (v6 : Int32) (v7 : Int32) : Option ((Int32 × Int32 × Int32 × Hp) ⊕ (Int32 × Hp)) :=
  gg (kd h v0 = 6) <|
  b2 (MX7_ownPart h v0 (((5 : Int32) * (gI h v0 7)) + v5)) fun t20 h19 =>
  gg (kd h19 t20 = 4) <|
  Option.bind (MX5_empty h19 t20 v3 v4) fun h23 =>
  gg (kd h23 t20 = 4) <|
  Option.bind (MX5_addText h23 t20 v1 v6 v7) fun h26 =>
  some (.inl ((v5 + (1 : Int32)), (v7 + (1 : Int32)), (v7 + (1 : Int32)), h26))
set_option maxRecDepth 100000 in
set_option maxHeartbeats 8000000 in
theorem kX7_addStory_36 {d : Nat} {h : Hp} {v0 : Nat} {v1 : Nat} {v2 : Int32} {v3 : Int32} {v4 : Int32} {v5 : Int32} {v6 : Int32} {v7 : Int32} {r : Int32} {h9 : Hp} {x : ((Int32 × Int32 × Int32 × Hp) ⊕ (Int32 × Hp))} (H : MX7_addStory_36 h v0 v1 v2 v3 v4 v5 v6 v7 = some x) (hb0 : ∀ s : Int32 × Int32 × Int32 × Hp, x = .inl s → J (d + 2) YX7_addStory 9 [.ref v0, .ref v1, .int v2, .int v3, .int v4, .int s.1, .int s.2.1, .int s.2.2.1, Value.null] [] s.2.2.2 (oI r) h9) (hx : ∀ z : (Int32 × Hp), x = .inr (z) → z = (r, h9)) : J (d + 2) YX7_addStory 36 [.ref v0, .ref v1, .int v2, .int v3, .int v4, .int v5, .int v6, .int v7, Value.null] [] h (oI r) h9 := by
  unfold MX7_addStory_36 at H
  refine J_aload_n 0 dX7_addStory_36 rfl rfl ?_
  refine J_iconst (5 : Int32) dX7_addStory_37 kc_5 ?_
  refine J_aload_n 0 dX7_addStory_38 rfl rfl ?_
  obtain ⟨g17, H⟩ := gd H
  refine J_getI 6 7 dX7_addStory_39 g17 flX7_42 rfl ?_
  refine J_imul dX7_addStory_42 ?_
  refine J_iload dX7_addStory_43 rfl ?_
  refine J_iadd dX7_addStory_45 ?_
  obtain ⟨t20, h19, e18, H⟩ := b2_el H
  refine J_cV (as := [.int (((5 : Int32) * (gI h v0 7)) + v5)]) 6 YX7_ownPart 1 dX7_addStory_46 moX7_ownPart mvX7_ownPart mlX7_124 g17 rfl (okX7_ownPart (d := d) e18) rfl rfl [] rfl rfl (st2 := [.ref t20]) rfl ?_
  refine J_astore dX7_addStory_49 (by decide) (ls' := [.ref v0, .ref v1, .int v2, .int v3, .int v4, .int v5, .int v6, .int v7, .ref t20]) rfl ?_
  refine J_aload dX7_addStory_51 rfl ?_
  refine J_iload_n 3 dX7_addStory_53 rfl rfl ?_
  refine J_iload dX7_addStory_54 rfl ?_
  obtain ⟨g22, H⟩ := gd H
  obtain ⟨h23, e21, H⟩ := bd H
  refine J_cV (as := [.int v3, .int v4]) 4 YX5_empty 2 dX7_addStory_56 moX5_empty mvX5_empty mlX7_133 g22 rfl (okX5_empty (d := d + 1) e21) rfl rfl [] rfl rfl (st2 := []) rfl ?_
  refine J_aload dX7_addStory_59 rfl ?_
  refine J_aload_n 1 dX7_addStory_61 rfl rfl ?_
  refine J_iload dX7_addStory_62 rfl ?_
  refine J_iload dX7_addStory_64 rfl ?_
  obtain ⟨g25, H⟩ := gd H
  obtain ⟨h26, e24, H⟩ := bd H
  refine J_cV (as := [.ref v1, .int v6, .int v7]) 4 YX5_addText 3 dX7_addStory_66 moX5_addText mvX5_addText mlX7_137 g25 rfl (okX5_addText (d := d) e24) rfl rfl [] rfl rfl (st2 := []) rfl ?_
  refine J_iload dX7_addStory_69 rfl ?_
  refine J_iconst (1 : Int32) dX7_addStory_71 kc_1 ?_
  refine J_iadd dX7_addStory_72 ?_
  refine J_istore dX7_addStory_73 (by decide) (ls' := [.ref v0, .ref v1, .int v2, .int v3, .int v4, .int v5, .int (v7 + (1 : Int32)), .int v7, .ref t20]) rfl ?_
  refine J_iinc (v5 + (1 : Int32)) dX7_addStory_75 rfl (congrArg (HAdd.hAdd v5) kc_1) (by decide) (ls' := [.ref v0, .ref v1, .int v2, .int v3, .int v4, .int (v5 + (1 : Int32)), .int (v7 + (1 : Int32)), .int v7, .ref t20]) rfl ?_
  refine J_iinc (v7 + (1 : Int32)) dX7_addStory_78 rfl (congrArg (HAdd.hAdd v7) kc_1) (by decide) (ls' := [.ref v0, .ref v1, .int v2, .int v3, .int v4, .int (v5 + (1 : Int32)), .int (v7 + (1 : Int32)), .int (v7 + (1 : Int32)), .ref t20]) rfl ?_
  refine J_goto 9 dX7_addStory_81 rfl ?_
  cases H
  exact J_dr (hb0 _ rfl) ⟨rfl, ⟨rfl, ⟨rfl, ⟨rfl, ⟨rfl, ⟨rfl, ⟨rfl, ⟨rfl, trivial⟩⟩⟩⟩⟩⟩⟩⟩
noncomputable def BX7_addStory_9 (h : Hp) (v0 : Nat) (v1 : Nat) (v2 : Int32) (v3 : Int32) (v4 : Int32) (v5 : Int32) (v6 : Int32) (v7 : Int32) : Option ((Int32 × Int32 × Int32 × Hp) ⊕ (Int32 × Hp)) :=
  if v2 < v7 then
    up1 (MX7_addStory_84 h v0 v5)
  else
    if (5 : Int32) ≤ v5 then
      up1 (MX7_addStory_84 h v0 v5)
    else
      if v7 = v2 then
        MX7_addStory_36 h v0 v1 v2 v3 v4 v5 v6 v7
      else
        gg (kd h v1 = 21) <|
        gg (inB v7 (ln h v1) = true) <|
        if (gI h v1 v7.toNatClampNeg) = (47 : Int32) then
          MX7_addStory_36 h v0 v1 v2 v3 v4 v5 v6 v7
        else
          some (.inl (v5, v6, (v7 + (1 : Int32)), h))
set_option maxRecDepth 100000 in
set_option maxHeartbeats 8000000 in
theorem bX7_addStory_9 {d : Nat} {h : Hp} {v0 : Nat} {v1 : Nat} {v2 : Int32} {v3 : Int32} {v4 : Int32} {v5 : Int32} {v6 : Int32} {v7 : Int32} {r : Int32} {h9 : Hp} {x : ((Int32 × Int32 × Int32 × Hp) ⊕ (Int32 × Hp))} (H : BX7_addStory_9 h v0 v1 v2 v3 v4 v5 v6 v7 = some x) (hb0 : ∀ s : Int32 × Int32 × Int32 × Hp, x = .inl s → J (d + 2) YX7_addStory 9 [.ref v0, .ref v1, .int v2, .int v3, .int v4, .int s.1, .int s.2.1, .int s.2.2.1, Value.null] [] s.2.2.2 (oI r) h9) (hx : ∀ z : (Int32 × Hp), x = .inr (z) → z = (r, h9)) : J (d + 2) YX7_addStory 9 [.ref v0, .ref v1, .int v2, .int v3, .int v4, .int v5, .int v6, .int v7, Value.null] [] h (oI r) h9 := by
  unfold BX7_addStory_9 at H
  refine J_iload dX7_addStory_9 rfl ?_
  refine J_iload_n 2 dX7_addStory_11 rfl rfl ?_
  refine J_icmp_gt 84 dX7_addStory_12 rfl (fun q1 => ?_) (fun q1 => ?_)
  · replace H := br1 q1 H
    obtain ⟨y, H9, rfl⟩ := up1_el H
    replace H := H9
    obtain rfl := hx _ rfl
    exact J_dr (kX7_addStory_84 H ) ⟨rfl, ⟨rfl, trivial⟩⟩
  · replace H := br0 q1 H
    refine J_iload dX7_addStory_15 rfl ?_
    refine J_iconst (5 : Int32) dX7_addStory_17 kc_5 ?_
    refine J_icmp_ge 84 dX7_addStory_18 rfl (fun q15 => ?_) (fun q15 => ?_)
    · replace H := br1 q15 H
      obtain ⟨y, H9, rfl⟩ := up1_el H
      replace H := H9
      obtain rfl := hx _ rfl
      exact J_dr (kX7_addStory_84 H ) ⟨rfl, ⟨rfl, trivial⟩⟩
    · replace H := br0 q15 H
      refine J_iload dX7_addStory_21 rfl ?_
      refine J_iload_n 2 dX7_addStory_23 rfl rfl ?_
      refine J_icmp_eq 36 dX7_addStory_24 rfl (fun q16 => ?_) (fun q16 => ?_)
      · replace H := br1 q16 H
        exact J_dr (kX7_addStory_36 H hb0 hx) ⟨rfl, ⟨rfl, ⟨rfl, ⟨rfl, ⟨rfl, ⟨rfl, ⟨rfl, ⟨rfl, trivial⟩⟩⟩⟩⟩⟩⟩⟩
      · replace H := br0 q16 H
        refine J_aload_n 1 dX7_addStory_27 rfl rfl ?_
        refine J_iload dX7_addStory_28 rfl ?_
        obtain ⟨g27, H⟩ := gd H
        obtain ⟨g28, H⟩ := gd H
        refine J_bald dX7_addStory_30 g27 (inB_ok g28) ?_
        refine J_bipush (47 : Int32) dX7_addStory_31 kb_47 ?_
        refine J_icmp_ne 78 dX7_addStory_33 rfl (fun q29 => ?_) (fun q29 => ?_)
        · replace H := br0 q29 H
          refine J_iinc (v7 + (1 : Int32)) dX7_addStory_78 rfl (congrArg (HAdd.hAdd v7) kc_1) (by decide) (ls' := [.ref v0, .ref v1, .int v2, .int v3, .int v4, .int v5, .int v6, .int (v7 + (1 : Int32)), Value.null]) rfl ?_
          refine J_goto 9 dX7_addStory_81 rfl ?_
          cases H
          exact J_dr (hb0 _ rfl) ⟨rfl, ⟨rfl, ⟨rfl, ⟨rfl, ⟨rfl, ⟨rfl, ⟨rfl, ⟨rfl, trivial⟩⟩⟩⟩⟩⟩⟩⟩
        · replace H := br1 q29 H
          exact J_dr (kX7_addStory_36 H hb0 hx) ⟨rfl, ⟨rfl, ⟨rfl, ⟨rfl, ⟨rfl, ⟨rfl, ⟨rfl, ⟨rfl, trivial⟩⟩⟩⟩⟩⟩⟩⟩
noncomputable def MX7_addStory_9 (h : Hp) (v0 : Nat) (v1 : Nat) (v2 : Int32) (v3 : Int32) (v4 : Int32) (v5 : Int32) (v6 : Int32) (v7 : Int32) : Option (Int32 × Hp) := it (fun q : Int32 × Int32 × Int32 × Hp => BX7_addStory_9 q.2.2.2 v0 v1 v2 v3 v4 q.1 q.2.1 q.2.2.1) (v5, v6, v7, h)
set_option maxRecDepth 100000 in
set_option maxHeartbeats 8000000 in
theorem kX7_addStory_9 {d : Nat} {h : Hp} {v0 : Nat} {v1 : Nat} {v2 : Int32} {v3 : Int32} {v4 : Int32} {v5 : Int32} {v6 : Int32} {v7 : Int32} {r : Int32} {h9 : Hp} (H : MX7_addStory_9 h v0 v1 v2 v3 v4 v5 v6 v7 = some (r, h9)) : J (d + 2) YX7_addStory 9 [.ref v0, .ref v1, .int v2, .int v3, .int v4, .int v5, .int v6, .int v7, Value.null] [] h (oI r) h9 := by
  unfold MX7_addStory_9 at H
  refine it_J (G := (fun q : Int32 × Int32 × Int32 × Hp => J (d + 2) YX7_addStory 9 [.ref v0, .ref v1, .int v2, .int v3, .int v4, .int q.1, .int q.2.1, .int q.2.2.1, Value.null] [] q.2.2.2 (oI r) h9)) (Q := (fun y : (Int32 × Hp) => y = (r, h9))) (fun q x Hq hm => ?_) H rfl
  exact bX7_addStory_9 Hq (fun s hs => by subst hs; exact hm) (fun z hz => by subst hz; exact hm)
noncomputable def MX7_addStory (h : Hp) (v0 : Nat) (v1 : Nat) (v2 : Int32) (v3 : Int32) (v4 : Int32) : Option (Int32 × Hp) :=
  MX7_addStory_9 h v0 v1 v2 v3 v4 (0 : Int32) (0 : Int32) (0 : Int32)
set_option maxRecDepth 100000 in
set_option maxHeartbeats 8000000 in
theorem eX7_addStory {d : Nat} {h : Hp} {v0 : Nat} {v1 : Nat} {v2 : Int32} {v3 : Int32} {v4 : Int32} {r : Int32} {h9 : Hp} (H : MX7_addStory h v0 v1 v2 v3 v4 = some (r, h9)) : J (d + 2) YX7_addStory 0 [.ref v0, .ref v1, .int v2, .int v3, .int v4, Value.null, Value.null, Value.null, Value.null] [] h (oI r) h9 := by
  unfold MX7_addStory at H
  refine J_iconst (0 : Int32) dX7_addStory_0 kc_0 ?_
  refine J_istore dX7_addStory_1 (by decide) (ls' := [.ref v0, .ref v1, .int v2, .int v3, .int v4, .int (0 : Int32), Value.null, Value.null, Value.null]) rfl ?_
  refine J_iconst (0 : Int32) dX7_addStory_3 kc_0 ?_
  refine J_istore dX7_addStory_4 (by decide) (ls' := [.ref v0, .ref v1, .int v2, .int v3, .int v4, .int (0 : Int32), .int (0 : Int32), Value.null, Value.null]) rfl ?_
  refine J_iconst (0 : Int32) dX7_addStory_6 kc_0 ?_
  refine J_istore dX7_addStory_7 (by decide) (ls' := [.ref v0, .ref v1, .int v2, .int v3, .int v4, .int (0 : Int32), .int (0 : Int32), .int (0 : Int32), Value.null]) rfl ?_
  exact J_dr (kX7_addStory_9 H ) ⟨rfl, ⟨rfl, ⟨rfl, ⟨rfl, ⟨rfl, ⟨rfl, ⟨rfl, ⟨rfl, trivial⟩⟩⟩⟩⟩⟩⟩⟩
theorem okX7_addStory {d : Nat} {h : Hp} {v0 : Nat} {v1 : Nat} {v2 : Int32} {v3 : Int32} {v4 : Int32} {r : Int32} {h9 : Hp} (H : MX7_addStory h v0 v1 v2 v3 v4 = some (r, h9)) : CT (d + 2) YX7_addStory [.ref v0, .ref v1, .int v2, .int v3, .int v4] h (oI r) h9 := CT_of (by decide +kernel) (Nat.le_of_ble_eq_true rfl) (eX7_addStory H)
noncomputable def MX11_story (h : Hp) (v0 : Nat) (v1 : Int32) (v2 : Int32) : Option ((Int32 ⊕ Nat) × Hp) :=
  gg (kd h v0 = 10) <|
  b2 (MX11_useTape h v0) fun t4 h3 =>
  Option.bind (MX11_isFace h3 v1) fun t6 =>
  if t6 = 0 then
    some (.inr 1, bmp h3 1 6)
  else
    Option.bind (MX11_isMinute h3 v2) fun t9 =>
    if t9 = 0 then
      some (.inr 2, bmp h3 1 6)
    else
      gg (kd h3 v0 = 10) <|
      Option.bind (MX1_firstWrong h3 (gP h3 v0 0) t4 (5 : Int32) (24 : Int32) (0 : Int32)) fun t13 =>
      lt (sI h3 v0 2 t13) fun h14 =>
      if (gI h14 v0 2) = (-1 : Int32) then
        gg (kd h3 (gP h3 v0 5) = 6) <|
        if (gI h14 (gP h3 v0 5) 7) < (20 : Int32) then
          b2 (MX7_addStory h14 (gP h3 v0 5) (gP h3 v0 0) t4 v1 v2) fun t24 h23 =>
          some (.inl t24, h23)
        else
          some (.inr 3, bmp h14 1 6)
      else
        some (.inr 2, bmp h14 1 6)
set_option maxRecDepth 100000 in
set_option maxHeartbeats 8000000 in
theorem eX11_story {d : Nat} {h : Hp} {v0 : Nat} {v1 : Int32} {v2 : Int32} {r : Int32 ⊕ Nat} {h9 : Hp} (H : MX11_story h v0 v1 v2 = some (r, h9)) : J (d + 3) YX11_story 0 [.ref v0, .int v1, .int v2, Value.null] [] h (oT r) h9 := by
  unfold MX11_story at H
  refine J_aload_n 0 dX11_story_0 rfl rfl ?_
  obtain ⟨g2, H⟩ := gd H
  obtain ⟨t4, h3, e1, H⟩ := b2_el H
  refine J_cV (as := []) 10 YX11_useTape 0 dX11_story_1 moX11_useTape mvX11_useTape mlX11_94 g2 rfl (okX11_useTape (d := d + 2) e1) rfl rfl [] rfl rfl (st2 := [.int t4]) rfl ?_
  refine J_istore_n 3 dX11_story_4 rfl (by decide) (ls' := [.ref v0, .int v1, .int v2, .int t4]) rfl ?_
  refine J_iload_n 1 dX11_story_5 rfl rfl ?_
  obtain ⟨t6, e5, H⟩ := bd H
  refine J_cS (as := [.int v1]) YX11_isFace 1 dX11_story_6 moX11_isFace msX11_isFace mlX11_77 (okX11_isFace (d := d + 2) e5) rfl rfl [] rfl rfl (st2 := [.int t6]) rfl ?_
  refine J_if_ne 20 dX11_story_9 rfl (fun q7 => ?_) (fun q7 => ?_)
  · replace H := br0 q7 H
    refine J_iload_n 2 dX11_story_20 rfl rfl ?_
    obtain ⟨t9, e8, H⟩ := bd H
    refine J_cS (as := [.int v2]) YX11_isMinute 1 dX11_story_21 moX11_isMinute msX11_isMinute mlX11_98 (okX11_isMinute (d := d + 2) e8) rfl rfl [] rfl rfl (st2 := [.int t9]) rfl ?_
    refine J_if_ne 35 dX11_story_24 rfl (fun q10 => ?_) (fun q10 => ?_)
    · replace H := br0 q10 H
      refine J_aload_n 0 dX11_story_35 rfl rfl ?_
      refine J_aload_n 0 dX11_story_36 rfl rfl ?_
      obtain ⟨g11, H⟩ := gd H
      refine J_gP 10 0 dX11_story_37 g11 flX11_9 rfl rfl ?_
      refine J_iload_n 3 dX11_story_40 rfl rfl ?_
      refine J_iconst (5 : Int32) dX11_story_41 kc_5 ?_
      refine J_bipush (24 : Int32) dX11_story_42 kb_24 ?_
      refine J_iconst (0 : Int32) dX11_story_44 kc_0 ?_
      obtain ⟨t13, e12, H⟩ := bd H
      refine J_cS (as := [.ref (gP h3 v0 0), .int t4, .int (5 : Int32), .int (24 : Int32), .int (0 : Int32)]) YX1_firstWrong 5 dX11_story_45 moX1_firstWrong msX1_firstWrong mlX11_101 (okX1_firstWrong (d := d + 1) e12) rfl rfl [.ref v0] rfl rfl (st2 := [.int t13, .ref v0]) rfl ?_
      obtain ⟨h14, e15, H⟩ := lt_el H
      refine J_pI 10 2 dX11_story_48 g11 flX11_17 rfl rfl e15 ?_
      have c16 := ekI e15
      have c17 := elI e15
      have c18 := epI e15
      refine J_aload_n 0 dX11_story_51 rfl rfl ?_
      refine J_getI 10 2 dX11_story_52 (kq c16 g11) flX11_17 rfl ?_
      refine J_iconst (-1 : Int32) dX11_story_55 kc_m1 ?_
      refine J_icmp_eq 67 dX11_story_56 rfl (fun q19 => ?_) (fun q19 => ?_)
      · replace H := br1 q19 H
        refine J_aload_n 0 dX11_story_67 rfl rfl ?_
        refine J_gP 10 5 dX11_story_68 (kq c16 g11) flX11_39 rfl (congrFun (congrFun c18 v0) 5) ?_
        obtain ⟨g20, H⟩ := gd H
        refine J_getI 6 7 dX11_story_71 (kq c16 g20) flX11_107 rfl ?_
        refine J_bipush (20 : Int32) dX11_story_74 kb_20 ?_
        refine J_icmp_lt 87 dX11_story_76 rfl (fun q21 => ?_) (fun q21 => ?_)
        · replace H := br1 q21 H
          refine J_aload_n 0 dX11_story_87 rfl rfl ?_
          refine J_gP 10 5 dX11_story_88 (kq c16 g11) flX11_39 rfl (congrFun (congrFun c18 v0) 5) ?_
          refine J_aload_n 0 dX11_story_91 rfl rfl ?_
          refine J_gP 10 0 dX11_story_92 (kq c16 g11) flX11_9 rfl (congrFun (congrFun c18 v0) 0) ?_
          refine J_iload_n 3 dX11_story_95 rfl rfl ?_
          refine J_iload_n 1 dX11_story_96 rfl rfl ?_
          refine J_iload_n 2 dX11_story_97 rfl rfl ?_
          obtain ⟨t24, h23, e22, H⟩ := b2_el H
          refine J_cV (as := [.ref (gP h3 v0 0), .int t4, .int v1, .int v2]) 6 YX7_addStory 4 dX11_story_98 moX7_addStory mvX7_addStory mlX11_113 (kq c16 g20) rfl (okX7_addStory (d := d) e22) rfl rfl [] rfl rfl (st2 := [.int t24]) rfl ?_
          cases H
          exact J_iretI dX11_story_101 rfl
        · replace H := br0 q21 H
          cases H
          exact J_throw 3 ["java/lang/RuntimeException", "java/lang/Exception"] dX11_story_79 dX11_story_82 dX11_story_83 dX11_story_86 th_112 clX11_110 (Nat.le_of_ble_eq_true rfl)
      · replace H := br0 q19 H
        cases H
        exact J_throw 2 ["java/lang/RuntimeException", "java/lang/Exception"] dX11_story_59 dX11_story_62 dX11_story_63 dX11_story_66 th_89 clX11_87 (Nat.le_of_ble_eq_true rfl)
    · replace H := br1 q10 H
      cases H
      exact J_throw 2 ["java/lang/RuntimeException", "java/lang/Exception"] dX11_story_27 dX11_story_30 dX11_story_31 dX11_story_34 th_89 clX11_87 (Nat.le_of_ble_eq_true rfl)
  · replace H := br1 q7 H
    cases H
    exact J_throw 1 ["java/lang/RuntimeException", "java/lang/Exception"] dX11_story_12 dX11_story_15 dX11_story_16 dX11_story_19 th_86 clX11_84 (Nat.le_of_ble_eq_true rfl)
theorem okX11_story {d : Nat} {h : Hp} {v0 : Nat} {v1 : Int32} {v2 : Int32} {r : Int32 ⊕ Nat} {h9 : Hp} (H : MX11_story h v0 v1 v2 = some (r, h9)) : CT (d + 3) YX11_story [.ref v0, .int v1, .int v2] h (oT r) h9 := CT_of (by decide +kernel) (Nat.le_of_ble_eq_true rfl) (eX11_story H)
noncomputable def MX7_addStyle (h : Hp) (v0 : Nat) (v1 : Nat) (v2 : Int32) : Option Hp :=
  gg (kd h v0 = 6) <|
  b2 (MX7_ownStyle h v0 (gI h v0 3)) fun t4 h3 =>
  gg (kd h3 t4 = 8) <|
  Option.bind (MX9_takeAll h3 t4 v1) fun h7 =>
  gg (kd h7 t4 = 8) <|
  lt (sI h7 t4 0 v2) fun h9 =>
  gg (kd h7 v0 = 6) <|
  lt (sI h9 v0 3 ((gI h9 v0 3) + (1 : Int32))) fun h15 =>
  some h15
set_option maxRecDepth 100000 in
set_option maxHeartbeats 8000000 in
theorem eX7_addStyle {d : Nat} {h : Hp} {v0 : Nat} {v1 : Nat} {v2 : Int32} {h9 : Hp} (H : MX7_addStyle h v0 v1 v2 = some h9) : J (d + 2) YX7_addStyle 0 [.ref v0, .ref v1, .int v2, Value.null] [] h oV h9 := by
  unfold MX7_addStyle at H
  refine J_aload_n 0 dX7_addStyle_0 rfl rfl ?_
  refine J_aload_n 0 dX7_addStyle_1 rfl rfl ?_
  obtain ⟨g1, H⟩ := gd H
  refine J_getI 6 3 dX7_addStyle_2 g1 flX7_25 rfl ?_
  obtain ⟨t4, h3, e2, H⟩ := b2_el H
  refine J_cV (as := [.int (gI h v0 3)]) 6 YX7_ownStyle 1 dX7_addStyle_5 moX7_ownStyle mvX7_ownStyle mlX7_98 g1 rfl (okX7_ownStyle (d := d) e2) rfl rfl [] rfl rfl (st2 := [.ref t4]) rfl ?_
  refine J_astore_n 3 dX7_addStyle_8 rfl (by decide) (ls' := [.ref v0, .ref v1, .int v2, .ref t4]) rfl ?_
  refine J_aload_n 3 dX7_addStyle_9 rfl rfl ?_
  refine J_aload_n 1 dX7_addStyle_10 rfl rfl ?_
  obtain ⟨g6, H⟩ := gd H
  obtain ⟨h7, e5, H⟩ := bd H
  refine J_cV (as := [.ref v1]) 8 YX9_takeAll 1 dX7_addStyle_11 moX9_takeAll mvX9_takeAll mlX7_102 g6 rfl (okX9_takeAll (d := d + 1) e5) rfl rfl [] rfl rfl (st2 := []) rfl ?_
  refine J_aload_n 3 dX7_addStyle_14 rfl rfl ?_
  refine J_iload_n 2 dX7_addStyle_15 rfl rfl ?_
  obtain ⟨g8, H⟩ := gd H
  obtain ⟨h9, e10, H⟩ := lt_el H
  refine J_pI 8 0 dX7_addStyle_16 g8 flX7_141 rfl rfl e10 ?_
  have c11 := ekI e10
  have c12 := elI e10
  have c13 := epI e10
  refine J_aload_n 0 dX7_addStyle_19 rfl rfl ?_
  refine J_dup dX7_addStyle_20 rfl ?_
  obtain ⟨g14, H⟩ := gd H
  refine J_getI 6 3 dX7_addStyle_21 (kq c11 g14) flX7_25 rfl ?_
  refine J_iconst (1 : Int32) dX7_addStyle_24 kc_1 ?_
  refine J_iadd dX7_addStyle_25 ?_
  obtain ⟨h15, e16, H⟩ := lt_el H
  refine J_pI 6 3 dX7_addStyle_26 (kq c11 g14) flX7_25 rfl rfl e16 ?_
  have c17 := (ekI e16).trans c11
  have c18 := (elI e16).trans c12
  have c19 := (epI e16).trans c13
  cases H
  exact J_ret dX7_addStyle_29 rfl
theorem okX7_addStyle {d : Nat} {h : Hp} {v0 : Nat} {v1 : Nat} {v2 : Int32} {h9 : Hp} (H : MX7_addStyle h v0 v1 v2 = some h9) : CT (d + 2) YX7_addStyle [.ref v0, .ref v1, .int v2] h oV h9 := CT_of (by decide +kernel) (Nat.le_of_ble_eq_true rfl) (eX7_addStyle H)
noncomputable def MX10_failHere (h : Hp) (v0 : Nat) : Option (Int32 × Hp) :=
  gg (kd h v0 = 9) <|
  if (gI h v0 3) = (-1 : Int32) then
    gg (kd h (gP h v0 4) = 20) <|
    gg (inB (gI h v0 2) (ln h (gP h v0 4)) = true) <|
    lt (sI h v0 3 (gI h (gP h v0 4) (gI h v0 2).toNatClampNeg)) fun h5 =>
    some ((0 : Int32), h5)
  else
    some ((0 : Int32), h)
set_option maxRecDepth 100000 in
set_option maxHeartbeats 8000000 in
theorem eX10_failHere {d : Nat} {h : Hp} {v0 : Nat} {r : Int32} {h9 : Hp} (H : MX10_failHere h v0 = some (r, h9)) : J (d) YX10_failHere 0 [.ref v0] [] h (oI r) h9 := by
  unfold MX10_failHere at H
  refine J_aload_n 0 dX10_failHere_0 rfl rfl ?_
  obtain ⟨g1, H⟩ := gd H
  refine J_getI 9 3 dX10_failHere_1 g1 flX10_18 rfl ?_
  refine J_iconst (-1 : Int32) dX10_failHere_4 kc_m1 ?_
  refine J_icmp_ne 21 dX10_failHere_5 rfl (fun q2 => ?_) (fun q2 => ?_)
  · replace H := br0 q2 H
    refine J_iconst (0 : Int32) dX10_failHere_21 kc_0 ?_
    cases H
    exact J_rZ dX10_failHere_22 rfl rfl
  · replace H := br1 q2 H
    refine J_aload_n 0 dX10_failHere_8 rfl rfl ?_
    refine J_aload_n 0 dX10_failHere_9 rfl rfl ?_
    refine J_gP 9 4 dX10_failHere_10 g1 flX10_21 rfl rfl ?_
    refine J_aload_n 0 dX10_failHere_13 rfl rfl ?_
    refine J_getI 9 2 dX10_failHere_14 g1 flX10_15 rfl ?_
    obtain ⟨g3, H⟩ := gd H
    obtain ⟨g4, H⟩ := gd H
    refine J_iald dX10_failHere_17 g3 (inB_ok g4) ?_
    obtain ⟨h5, e6, H⟩ := lt_el H
    refine J_pI 9 3 dX10_failHere_18 g1 flX10_18 rfl rfl e6 ?_
    have c7 := ekI e6
    have c8 := elI e6
    have c9 := epI e6
    refine J_iconst (0 : Int32) dX10_failHere_21 kc_0 ?_
    cases H
    exact J_rZ dX10_failHere_22 rfl rfl
theorem okX10_failHere {d : Nat} {h : Hp} {v0 : Nat} {r : Int32} {h9 : Hp} (H : MX10_failHere h v0 = some (r, h9)) : CT (d) YX10_failHere [.ref v0] h (oI r) h9 := CT_of (by decide +kernel) (Nat.le_of_ble_eq_true rfl) (eX10_failHere H)
noncomputable def MX10_takeSign (h : Hp) (v0 : Nat) (v1 : Int32) : Option (Int32 × Hp) :=
  gg (kd h v0 = 9) <|
  gg (kd h (gP h v0 4) = 20) <|
  gg (inB (gI h v0 2) (ln h (gP h v0 4)) = true) <|
  lt (sI h v0 2 (gI h (gP h v0 4) (gI h v0 2).toNatClampNeg)) fun h4 =>
  if (gI h4 v0 1) ≤ (gI h4 v0 2) then
    some ((0 : Int32), h4)
  else
    gg (kd h (gP h v0 0) = 21) <|
    gg (inB (gI h4 v0 2) (ln h (gP h v0 0)) = true) <|
    if (gI h4 (gP h v0 0) (gI h4 v0 2).toNatClampNeg) = v1 then
      lt (sI h4 v0 2 ((gI h4 v0 2) + (1 : Int32))) fun h13 =>
      some ((1 : Int32), h13)
    else
      some ((0 : Int32), h4)
set_option maxRecDepth 100000 in
set_option maxHeartbeats 8000000 in
theorem eX10_takeSign {d : Nat} {h : Hp} {v0 : Nat} {v1 : Int32} {r : Int32} {h9 : Hp} (H : MX10_takeSign h v0 v1 = some (r, h9)) : J (d) YX10_takeSign 0 [.ref v0, .int v1] [] h (oI r) h9 := by
  unfold MX10_takeSign at H
  refine J_aload_n 0 dX10_takeSign_0 rfl rfl ?_
  refine J_aload_n 0 dX10_takeSign_1 rfl rfl ?_
  obtain ⟨g1, H⟩ := gd H
  refine J_gP 9 4 dX10_takeSign_2 g1 flX10_21 rfl rfl ?_
  refine J_aload_n 0 dX10_takeSign_5 rfl rfl ?_
  refine J_getI 9 2 dX10_takeSign_6 g1 flX10_15 rfl ?_
  obtain ⟨g2, H⟩ := gd H
  obtain ⟨g3, H⟩ := gd H
  refine J_iald dX10_takeSign_9 g2 (inB_ok g3) ?_
  obtain ⟨h4, e5, H⟩ := lt_el H
  refine J_pI 9 2 dX10_takeSign_10 g1 flX10_15 rfl rfl e5 ?_
  have c6 := ekI e5
  have c7 := elI e5
  have c8 := epI e5
  refine J_aload_n 0 dX10_takeSign_13 rfl rfl ?_
  refine J_getI 9 2 dX10_takeSign_14 (kq c6 g1) flX10_15 rfl ?_
  refine J_aload_n 0 dX10_takeSign_17 rfl rfl ?_
  refine J_getI 9 1 dX10_takeSign_18 (kq c6 g1) flX10_9 rfl ?_
  refine J_icmp_ge 37 dX10_takeSign_21 rfl (fun q9 => ?_) (fun q9 => ?_)
  · replace H := br1 q9 H
    refine J_iconst (0 : Int32) dX10_takeSign_37 kc_0 ?_
    cases H
    exact J_rZ dX10_takeSign_38 rfl rfl
  · replace H := br0 q9 H
    refine J_aload_n 0 dX10_takeSign_24 rfl rfl ?_
    refine J_gP 9 0 dX10_takeSign_25 (kq c6 g1) flX10_32 rfl (congrFun (congrFun c8 v0) 0) ?_
    refine J_aload_n 0 dX10_takeSign_28 rfl rfl ?_
    refine J_getI 9 2 dX10_takeSign_29 (kq c6 g1) flX10_15 rfl ?_
    obtain ⟨g10, H⟩ := gd H
    obtain ⟨g11, H⟩ := gd H
    refine J_bald dX10_takeSign_32 (kq c6 g10) (lq c7 g11) ?_
    refine J_iload_n 1 dX10_takeSign_33 rfl rfl ?_
    refine J_icmp_eq 39 dX10_takeSign_34 rfl (fun q12 => ?_) (fun q12 => ?_)
    · replace H := br1 q12 H
      refine J_aload_n 0 dX10_takeSign_39 rfl rfl ?_
      refine J_dup dX10_takeSign_40 rfl ?_
      refine J_getI 9 2 dX10_takeSign_41 (kq c6 g1) flX10_15 rfl ?_
      refine J_iconst (1 : Int32) dX10_takeSign_44 kc_1 ?_
      refine J_iadd dX10_takeSign_45 ?_
      obtain ⟨h13, e14, H⟩ := lt_el H
      refine J_pI 9 2 dX10_takeSign_46 (kq c6 g1) flX10_15 rfl rfl e14 ?_
      have c15 := (ekI e14).trans c6
      have c16 := (elI e14).trans c7
      have c17 := (epI e14).trans c8
      refine J_iconst (1 : Int32) dX10_takeSign_49 kc_1 ?_
      cases H
      exact J_rZ dX10_takeSign_50 rfl rfl
    · replace H := br0 q12 H
      refine J_iconst (0 : Int32) dX10_takeSign_37 kc_0 ?_
      cases H
      exact J_rZ dX10_takeSign_38 rfl rfl
theorem okX10_takeSign {d : Nat} {h : Hp} {v0 : Nat} {v1 : Int32} {r : Int32} {h9 : Hp} (H : MX10_takeSign h v0 v1 = some (r, h9)) : CT (d) YX10_takeSign [.ref v0, .int v1] h (oI r) h9 := CT_of (by decide +kernel) (Nat.le_of_ble_eq_true rfl) (eX10_takeSign H)
noncomputable def MX10_anotherFollows (h : Hp) (v0 : Nat) : Option (Int32 × Hp) :=
  gg (kd h v0 = 9) <|
  gg (kd h (gP h v0 4) = 20) <|
  gg (inB (gI h v0 2) (ln h (gP h v0 4)) = true) <|
  if (gI h (gP h v0 4) (gI h v0 2).toNatClampNeg) < (gI h v0 1) then
    b2 (MX10_takeSign h v0 (59 : Int32)) fun t7 h6 =>
    if t7 = 0 then
      gg (kd h6 v0 = 9) <|
      b2 (MX10_failHere h6 v0) fun t19 h18 =>
      gg (zOk t19 = true) <|
      some (t19, h18)
    else
      gg (kd h6 v0 = 9) <|
      gg (kd h6 (gP h6 v0 5) = 8) <|
      if (gI h6 (gP h6 v0 5) 1) < (12 : Int32) then
        some ((1 : Int32), h6)
      else
        b2 (MX10_failHere h6 v0) fun t14 h13 =>
        if t14 = 0 then
          some ((0 : Int32), h13)
        else
          some ((1 : Int32), h13)
  else
    some ((0 : Int32), h)
set_option maxRecDepth 100000 in
set_option maxHeartbeats 8000000 in
theorem eX10_anotherFollows {d : Nat} {h : Hp} {v0 : Nat} {r : Int32} {h9 : Hp} (H : MX10_anotherFollows h v0 = some (r, h9)) : J (d + 1) YX10_anotherFollows 0 [.ref v0] [] h (oI r) h9 := by
  unfold MX10_anotherFollows at H
  refine J_aload_n 0 dX10_anotherFollows_0 rfl rfl ?_
  obtain ⟨g1, H⟩ := gd H
  refine J_gP 9 4 dX10_anotherFollows_1 g1 flX10_21 rfl rfl ?_
  refine J_aload_n 0 dX10_anotherFollows_4 rfl rfl ?_
  refine J_getI 9 2 dX10_anotherFollows_5 g1 flX10_15 rfl ?_
  obtain ⟨g2, H⟩ := gd H
  obtain ⟨g3, H⟩ := gd H
  refine J_iald dX10_anotherFollows_8 g2 (inB_ok g3) ?_
  refine J_aload_n 0 dX10_anotherFollows_9 rfl rfl ?_
  refine J_getI 9 1 dX10_anotherFollows_10 g1 flX10_9 rfl ?_
  refine J_icmp_lt 18 dX10_anotherFollows_13 rfl (fun q4 => ?_) (fun q4 => ?_)
  · replace H := br1 q4 H
    refine J_aload_n 0 dX10_anotherFollows_18 rfl rfl ?_
    refine J_bipush (59 : Int32) dX10_anotherFollows_19 kb_59 ?_
    obtain ⟨t7, h6, e5, H⟩ := b2_el H
    refine J_cV (as := [.int (59 : Int32)]) 9 YX10_takeSign 1 dX10_anotherFollows_21 moX10_takeSign mvX10_takeSign mlX10_55 g1 rfl (okX10_takeSign (d := d) e5) rfl rfl [] rfl rfl (st2 := [.int t7]) rfl ?_
    refine J_if_ne 32 dX10_anotherFollows_24 rfl (fun q8 => ?_) (fun q8 => ?_)
    · replace H := br0 q8 H
      refine J_aload_n 0 dX10_anotherFollows_32 rfl rfl ?_
      obtain ⟨g9, H⟩ := gd H
      refine J_gP 9 5 dX10_anotherFollows_33 g9 flX10_28 rfl rfl ?_
      obtain ⟨g10, H⟩ := gd H
      refine J_getI 8 1 dX10_anotherFollows_36 g10 flX10_36 rfl ?_
      refine J_bipush (12 : Int32) dX10_anotherFollows_39 kb_12 ?_
      refine J_icmp_lt 51 dX10_anotherFollows_41 rfl (fun q11 => ?_) (fun q11 => ?_)
      · replace H := br1 q11 H
        refine J_iconst (1 : Int32) dX10_anotherFollows_51 kc_1 ?_
        refine J_goto 56 dX10_anotherFollows_52 rfl ?_
        cases H
        exact J_rZ dX10_anotherFollows_56 rfl rfl
      · replace H := br0 q11 H
        refine J_aload_n 0 dX10_anotherFollows_44 rfl rfl ?_
        obtain ⟨t14, h13, e12, H⟩ := b2_el H
        refine J_cV (as := []) 9 YX10_failHere 0 dX10_anotherFollows_45 moX10_failHere mvX10_failHere mlX10_59 g9 rfl (okX10_failHere (d := d) e12) rfl rfl [] rfl rfl (st2 := [.int t14]) rfl ?_
        refine J_if_eq 55 dX10_anotherFollows_48 rfl (fun q15 => ?_) (fun q15 => ?_)
        · replace H := br1 q15 H
          refine J_iconst (0 : Int32) dX10_anotherFollows_55 kc_0 ?_
          cases H
          exact J_rZ dX10_anotherFollows_56 rfl rfl
        · replace H := br0 q15 H
          refine J_iconst (1 : Int32) dX10_anotherFollows_51 kc_1 ?_
          refine J_goto 56 dX10_anotherFollows_52 rfl ?_
          cases H
          exact J_rZ dX10_anotherFollows_56 rfl rfl
    · replace H := br1 q8 H
      refine J_aload_n 0 dX10_anotherFollows_27 rfl rfl ?_
      obtain ⟨g17, H⟩ := gd H
      obtain ⟨t19, h18, e16, H⟩ := b2_el H
      refine J_cV (as := []) 9 YX10_failHere 0 dX10_anotherFollows_28 moX10_failHere mvX10_failHere mlX10_59 g17 rfl (okX10_failHere (d := d) e16) rfl rfl [] rfl rfl (st2 := [.int t19]) rfl ?_
      obtain ⟨g20, H⟩ := gd H
      cases H
      exact J_rZ dX10_anotherFollows_31 rfl g20
  · replace H := br0 q4 H
    refine J_iconst (0 : Int32) dX10_anotherFollows_16 kc_0 ?_
    cases H
    exact J_rZ dX10_anotherFollows_17 rfl rfl
theorem okX10_anotherFollows {d : Nat} {h : Hp} {v0 : Nat} {r : Int32} {h9 : Hp} (H : MX10_anotherFollows h v0 = some (r, h9)) : CT (d + 1) YX10_anotherFollows [.ref v0] h (oI r) h9 := CT_of (by decide +kernel) (Nat.le_of_ble_eq_true rfl) (eX10_anotherFollows H)
noncomputable def MX10_findInk_52 (h : Hp) (v0 : Nat) (v1 : Int32) (s0 : Nat) (s1 : Int32) (s2 : Int32) : Option ((Int32 × Hp) ⊕ Hp) :=
  gg (kd h s0 = 20) <|
  gg (inB s1 (ln h s0) = true) <|
  lt (sI h s0 s1.toNatClampNeg s2) fun h16 =>
  some (.inl ((v1 + (-1 : Int32)), h16))
set_option maxRecDepth 100000 in
set_option maxHeartbeats 8000000 in
theorem kX10_findInk_52 {d : Nat} {h : Hp} {v0 : Nat} {v1 : Int32} {s0 : Nat} {s1 : Int32} {s2 : Int32} {h9 : Hp} {x : ((Int32 × Hp) ⊕ Hp)} (H : MX10_findInk_52 h v0 v1 s0 s1 s2 = some x) (hb0 : ∀ s : Int32 × Hp, x = .inl s → J (d) YX10_findInk 20 [.ref v0, .int s.1] [] s.2 oV h9) (hx : ∀ z : Hp, x = .inr (z) → z = h9) : J (d) YX10_findInk 52 [.ref v0, .int v1] [.int s2, .int s1, .ref s0] h oV h9 := by
  unfold MX10_findInk_52 at H
  obtain ⟨g14, H⟩ := gd H
  obtain ⟨g15, H⟩ := gd H
  obtain ⟨h16, e17, H⟩ := lt_el H
  refine J_sI dX10_findInk_52 g14 (inB_ok g15) e17 ?_
  have c18 := ekI e17
  have c19 := elI e17
  have c20 := epI e17
  refine J_iinc (v1 + (-1 : Int32)) dX10_findInk_53 rfl (congrArg (HAdd.hAdd v1) kc_m1) (by decide) (ls' := [.ref v0, .int (v1 + (-1 : Int32))]) rfl ?_
  refine J_goto 20 dX10_findInk_56 rfl ?_
  cases H
  exact J_dr (hb0 _ rfl) ⟨rfl, ⟨rfl, trivial⟩⟩
noncomputable def BX10_findInk_20 (h : Hp) (v0 : Nat) (v1 : Int32) : Option ((Int32 × Hp) ⊕ Hp) :=
  if v1 < 0 then
    some (.inr (h))
  else
    gg (kd h v0 = 9) <|
    gg (kd h (gP h v0 0) = 21) <|
    gg (inB v1 (ln h (gP h v0 0)) = true) <|
    if (gI h (gP h v0 0) v1.toNatClampNeg) = (32 : Int32) then
      gg (kd h (gP h v0 4) = 20) <|
      gg (inB (v1 + (1 : Int32)) (ln h (gP h v0 4)) = true) <|
      MX10_findInk_52 h v0 v1 (gP h v0 4) v1 (gI h (gP h v0 4) (v1 + (1 : Int32)).toNatClampNeg)
    else
      MX10_findInk_52 h v0 v1 (gP h v0 4) v1 v1
set_option maxRecDepth 100000 in
set_option maxHeartbeats 8000000 in
theorem bX10_findInk_20 {d : Nat} {h : Hp} {v0 : Nat} {v1 : Int32} {h9 : Hp} {x : ((Int32 × Hp) ⊕ Hp)} (H : BX10_findInk_20 h v0 v1 = some x) (hb0 : ∀ s : Int32 × Hp, x = .inl s → J (d) YX10_findInk 20 [.ref v0, .int s.1] [] s.2 oV h9) (hx : ∀ z : Hp, x = .inr (z) → z = h9) : J (d) YX10_findInk 20 [.ref v0, .int v1] [] h oV h9 := by
  unfold BX10_findInk_20 at H
  refine J_iload_n 1 dX10_findInk_20 rfl rfl ?_
  refine J_if_lt 59 dX10_findInk_21 rfl (fun q9 => ?_) (fun q9 => ?_)
  · replace H := br1 q9 H
    cases H
    cases hx _ rfl
    exact J_ret dX10_findInk_59 rfl
  · replace H := br0 q9 H
    refine J_aload_n 0 dX10_findInk_24 rfl rfl ?_
    obtain ⟨g10, H⟩ := gd H
    refine J_gP 9 4 dX10_findInk_25 g10 flX10_21 rfl rfl ?_
    refine J_iload_n 1 dX10_findInk_28 rfl rfl ?_
    refine J_aload_n 0 dX10_findInk_29 rfl rfl ?_
    refine J_gP 9 0 dX10_findInk_30 g10 flX10_32 rfl rfl ?_
    refine J_iload_n 1 dX10_findInk_33 rfl rfl ?_
    obtain ⟨g11, H⟩ := gd H
    obtain ⟨g12, H⟩ := gd H
    refine J_bald dX10_findInk_34 g11 (inB_ok g12) ?_
    refine J_bipush (32 : Int32) dX10_findInk_35 kb_32 ?_
    refine J_icmp_ne 51 dX10_findInk_37 rfl (fun q13 => ?_) (fun q13 => ?_)
    · replace H := br0 q13 H
      refine J_iload_n 1 dX10_findInk_51 rfl rfl ?_
      exact J_dr (kX10_findInk_52 H hb0 hx) ⟨rfl, ⟨rfl, trivial⟩⟩
    · replace H := br1 q13 H
      refine J_aload_n 0 dX10_findInk_40 rfl rfl ?_
      refine J_gP 9 4 dX10_findInk_41 g10 flX10_21 rfl rfl ?_
      refine J_iload_n 1 dX10_findInk_44 rfl rfl ?_
      refine J_iconst (1 : Int32) dX10_findInk_45 kc_1 ?_
      refine J_iadd dX10_findInk_46 ?_
      obtain ⟨g21, H⟩ := gd H
      obtain ⟨g22, H⟩ := gd H
      refine J_iald dX10_findInk_47 g21 (inB_ok g22) ?_
      refine J_goto 52 dX10_findInk_48 rfl ?_
      exact J_dr (kX10_findInk_52 H hb0 hx) ⟨rfl, ⟨rfl, trivial⟩⟩
noncomputable def MX10_findInk_20 (h : Hp) (v0 : Nat) (v1 : Int32) : Option Hp := it (fun q : Int32 × Hp => BX10_findInk_20 q.2 v0 q.1) (v1, h)
set_option maxRecDepth 100000 in
set_option maxHeartbeats 8000000 in
theorem kX10_findInk_20 {d : Nat} {h : Hp} {v0 : Nat} {v1 : Int32} {h9 : Hp} (H : MX10_findInk_20 h v0 v1 = some h9) : J (d) YX10_findInk 20 [.ref v0, .int v1] [] h oV h9 := by
  unfold MX10_findInk_20 at H
  refine it_J (G := (fun q : Int32 × Hp => J (d) YX10_findInk 20 [.ref v0, .int q.1] [] q.2 oV h9)) (Q := (fun y : Hp => y = h9)) (fun q x Hq hm => ?_) H rfl
  exact bX10_findInk_20 Hq (fun s hs => by subst hs; exact hm) (fun z hz => by subst hz; exact hm)
noncomputable def MX10_findInk (h : Hp) (v0 : Nat) : Option Hp :=
  gg (kd h v0 = 9) <|
  gg (kd h (gP h v0 4) = 20) <|
  gg (inB (gI h v0 1) (ln h (gP h v0 4)) = true) <|
  lt (sI h (gP h v0 4) (gI h v0 1).toNatClampNeg (gI h v0 1)) fun h4 =>
  MX10_findInk_20 h4 v0 ((gI h4 v0 1) - (1 : Int32))
set_option maxRecDepth 100000 in
set_option maxHeartbeats 8000000 in
theorem eX10_findInk {d : Nat} {h : Hp} {v0 : Nat} {h9 : Hp} (H : MX10_findInk h v0 = some h9) : J (d) YX10_findInk 0 [.ref v0, Value.null] [] h oV h9 := by
  unfold MX10_findInk at H
  refine J_aload_n 0 dX10_findInk_0 rfl rfl ?_
  obtain ⟨g1, H⟩ := gd H
  refine J_gP 9 4 dX10_findInk_1 g1 flX10_21 rfl rfl ?_
  refine J_aload_n 0 dX10_findInk_4 rfl rfl ?_
  refine J_getI 9 1 dX10_findInk_5 g1 flX10_9 rfl ?_
  refine J_aload_n 0 dX10_findInk_8 rfl rfl ?_
  refine J_getI 9 1 dX10_findInk_9 g1 flX10_9 rfl ?_
  obtain ⟨g2, H⟩ := gd H
  obtain ⟨g3, H⟩ := gd H
  obtain ⟨h4, e5, H⟩ := lt_el H
  refine J_sI dX10_findInk_12 g2 (inB_ok g3) e5 ?_
  have c6 := ekI e5
  have c7 := elI e5
  have c8 := epI e5
  refine J_aload_n 0 dX10_findInk_13 rfl rfl ?_
  refine J_getI 9 1 dX10_findInk_14 (kq c6 g1) flX10_9 rfl ?_
  refine J_iconst (1 : Int32) dX10_findInk_17 kc_1 ?_
  refine J_isub dX10_findInk_18 ?_
  refine J_istore_n 1 dX10_findInk_19 rfl (by decide) (ls' := [.ref v0, .int ((gI h4 v0 1) - (1 : Int32))]) rfl ?_
  exact J_dr (kX10_findInk_20 H ) ⟨rfl, ⟨rfl, trivial⟩⟩
theorem okX10_findInk {d : Nat} {h : Hp} {v0 : Nat} {h9 : Hp} (H : MX10_findInk h v0 = some h9) : CT (d) YX10_findInk [.ref v0] h oV h9 := CT_of (by decide +kernel) (Nat.le_of_ble_eq_true rfl) (eX10_findInk H)
noncomputable def MX9_addRule_70 (h : Hp) (v0 : Nat) (s0 : Nat) (s1 : Int32) (s2 : Int32) : Option Hp :=
  gg (kd h s0 = 20) <|
  gg (inB s1 (ln h s0) = true) <|
  lt (sI h s0 s1.toNatClampNeg s2) fun h29 =>
  gg (kd h v0 = 8) <|
  lt (sI h29 v0 1 ((gI h29 v0 1) + (1 : Int32))) fun h35 =>
  some h35
set_option maxRecDepth 100000 in
set_option maxHeartbeats 8000000 in
theorem kX9_addRule_70 {d : Nat} {h : Hp} {v0 : Nat} {s0 : Nat} {s1 : Int32} {s2 : Int32} {h9 : Hp} (H : MX9_addRule_70 h v0 s0 s1 s2 = some h9) : J (d) YX9_addRule 70 [.ref v0, Value.null, Value.null, Value.null] [.int s2, .int s1, .ref s0] h oV h9 := by
  unfold MX9_addRule_70 at H
  obtain ⟨g27, H⟩ := gd H
  obtain ⟨g28, H⟩ := gd H
  obtain ⟨h29, e30, H⟩ := lt_el H
  refine J_sI dX9_addRule_70 g27 (inB_ok g28) e30 ?_
  have c31 := ekI e30
  have c32 := elI e30
  have c33 := epI e30
  refine J_aload_n 0 dX9_addRule_71 rfl rfl ?_
  refine J_dup dX9_addRule_72 rfl ?_
  obtain ⟨g34, H⟩ := gd H
  refine J_getI 8 1 dX9_addRule_73 (kq c31 g34) flX9_15 rfl ?_
  refine J_iconst (1 : Int32) dX9_addRule_76 kc_1 ?_
  refine J_iadd dX9_addRule_77 ?_
  obtain ⟨h35, e36, H⟩ := lt_el H
  refine J_pI 8 1 dX9_addRule_78 (kq c31 g34) flX9_15 rfl rfl e36 ?_
  have c37 := (ekI e36).trans c31
  have c38 := (elI e36).trans c32
  have c39 := (epI e36).trans c33
  cases H
  exact J_ret dX9_addRule_81 rfl
noncomputable def MX9_addRule (h : Hp) (v0 : Nat) (v1 : Int32) (v2 : Int32) (v3 : Int32) : Option Hp :=
  gg (kd h v0 = 8) <|
  if (gI h v0 1) < (12 : Int32) then
    gg (kd h (gP h v0 2) = 20) <|
    gg (inB (gI h v0 1) (ln h (gP h v0 2)) = true) <|
    lt (sI h (gP h v0 2) (gI h v0 1).toNatClampNeg v1) fun h5 =>
    gg (kd h (gP h v0 3) = 20) <|
    gg (inB (gI h5 v0 1) (ln h (gP h v0 3)) = true) <|
    lt (sI h5 (gP h v0 3) (gI h5 v0 1).toNatClampNeg v2) fun h12 =>
    gg (kd h (gP h v0 4) = 20) <|
    gg (inB (gI h12 v0 1) (ln h (gP h v0 4)) = true) <|
    lt (sI h12 (gP h v0 4) (gI h12 v0 1).toNatClampNeg v3) fun h19 =>
    if (gI h19 v0 1) = 0 then
      MX9_addRule_70 h19 v0 (gP h v0 5) (gI h19 v0 1) (0 : Int32)
    else
      gg (kd h (gP h v0 5) = 20) <|
      gg (inB ((gI h19 v0 1) - (1 : Int32)) (ln h (gP h v0 5)) = true) <|
      MX9_addRule_70 h19 v0 (gP h v0 5) (gI h19 v0 1) (gI h19 (gP h v0 5) ((gI h19 v0 1) - (1 : Int32)).toNatClampNeg)
  else
    some h
set_option maxRecDepth 100000 in
set_option maxHeartbeats 8000000 in
theorem eX9_addRule {d : Nat} {h : Hp} {v0 : Nat} {v1 : Int32} {v2 : Int32} {v3 : Int32} {h9 : Hp} (H : MX9_addRule h v0 v1 v2 v3 = some h9) : J (d) YX9_addRule 0 [.ref v0, .int v1, .int v2, .int v3] [] h oV h9 := by
  unfold MX9_addRule at H
  refine J_aload_n 0 dX9_addRule_0 rfl rfl ?_
  obtain ⟨g1, H⟩ := gd H
  refine J_getI 8 1 dX9_addRule_1 g1 flX9_15 rfl ?_
  refine J_bipush (12 : Int32) dX9_addRule_4 kb_12 ?_
  refine J_icmp_lt 10 dX9_addRule_6 rfl (fun q2 => ?_) (fun q2 => ?_)
  · replace H := br1 q2 H
    refine J_aload_n 0 dX9_addRule_10 rfl rfl ?_
    refine J_gP 8 2 dX9_addRule_11 g1 flX9_18 rfl rfl ?_
    refine J_aload_n 0 dX9_addRule_14 rfl rfl ?_
    refine J_getI 8 1 dX9_addRule_15 g1 flX9_15 rfl ?_
    refine J_iload_n 1 dX9_addRule_18 rfl rfl ?_
    obtain ⟨g3, H⟩ := gd H
    obtain ⟨g4, H⟩ := gd H
    obtain ⟨h5, e6, H⟩ := lt_el H
    refine J_sI dX9_addRule_19 g3 (inB_ok g4) e6 ?_
    have c7 := ekI e6
    have c8 := elI e6
    have c9 := epI e6
    refine J_aload_n 0 dX9_addRule_20 rfl rfl ?_
    refine J_gP 8 3 dX9_addRule_21 (kq c7 g1) flX9_22 rfl (congrFun (congrFun c9 v0) 3) ?_
    refine J_aload_n 0 dX9_addRule_24 rfl rfl ?_
    refine J_getI 8 1 dX9_addRule_25 (kq c7 g1) flX9_15 rfl ?_
    refine J_iload_n 2 dX9_addRule_28 rfl rfl ?_
    obtain ⟨g10, H⟩ := gd H
    obtain ⟨g11, H⟩ := gd H
    obtain ⟨h12, e13, H⟩ := lt_el H
    refine J_sI dX9_addRule_29 (kq c7 g10) (lq c8 g11) e13 ?_
    have c14 := (ekI e13).trans c7
    have c15 := (elI e13).trans c8
    have c16 := (epI e13).trans c9
    refine J_aload_n 0 dX9_addRule_30 rfl rfl ?_
    refine J_gP 8 4 dX9_addRule_31 (kq c14 g1) flX9_25 rfl (congrFun (congrFun c16 v0) 4) ?_
    refine J_aload_n 0 dX9_addRule_34 rfl rfl ?_
    refine J_getI 8 1 dX9_addRule_35 (kq c14 g1) flX9_15 rfl ?_
    refine J_iload_n 3 dX9_addRule_38 rfl rfl ?_
    obtain ⟨g17, H⟩ := gd H
    obtain ⟨g18, H⟩ := gd H
    obtain ⟨h19, e20, H⟩ := lt_el H
    refine J_sI dX9_addRule_39 (kq c14 g17) (lq c15 g18) e20 ?_
    have c21 := (ekI e20).trans c14
    have c22 := (elI e20).trans c15
    have c23 := (epI e20).trans c16
    refine J_aload_n 0 dX9_addRule_40 rfl rfl ?_
    refine J_gP 8 5 dX9_addRule_41 (kq c21 g1) flX9_28 rfl (congrFun (congrFun c23 v0) 5) ?_
    refine J_aload_n 0 dX9_addRule_44 rfl rfl ?_
    refine J_getI 8 1 dX9_addRule_45 (kq c21 g1) flX9_15 rfl ?_
    refine J_aload_n 0 dX9_addRule_48 rfl rfl ?_
    refine J_getI 8 1 dX9_addRule_49 (kq c21 g1) flX9_15 rfl ?_
    refine J_if_ne 59 dX9_addRule_52 rfl (fun q24 => ?_) (fun q24 => ?_)
    · replace H := br0 q24 H
      refine J_aload_n 0 dX9_addRule_59 rfl rfl ?_
      refine J_gP 8 5 dX9_addRule_60 (kq c21 g1) flX9_28 rfl (congrFun (congrFun c23 v0) 5) ?_
      refine J_aload_n 0 dX9_addRule_63 rfl rfl ?_
      refine J_getI 8 1 dX9_addRule_64 (kq c21 g1) flX9_15 rfl ?_
      refine J_iconst (1 : Int32) dX9_addRule_67 kc_1 ?_
      refine J_isub dX9_addRule_68 ?_
      obtain ⟨g25, H⟩ := gd H
      obtain ⟨g26, H⟩ := gd H
      refine J_iald dX9_addRule_69 (kq c21 g25) (lq c22 g26) ?_
      exact J_dr (kX9_addRule_70 H ) ⟨rfl, trivial⟩
    · replace H := br1 q24 H
      refine J_iconst (0 : Int32) dX9_addRule_55 kc_0 ?_
      refine J_goto 70 dX9_addRule_56 rfl ?_
      exact J_dr (kX9_addRule_70 H ) ⟨rfl, trivial⟩
  · replace H := br0 q2 H
    cases H
    exact J_ret dX9_addRule_9 rfl
theorem okX9_addRule {d : Nat} {h : Hp} {v0 : Nat} {v1 : Int32} {v2 : Int32} {v3 : Int32} {h9 : Hp} (H : MX9_addRule h v0 v1 v2 v3 = some h9) : CT (d) YX9_addRule [.ref v0, .int v1, .int v2, .int v3] h oV h9 := CT_of (by decide +kernel) (Nat.le_of_ble_eq_true rfl) (eX9_addRule H)
noncomputable def MX9_addCode (h : Hp) (v0 : Nat) (v1 : Int32) (v2 : Int32) : Option Hp :=
  gg (kd h v0 = 8) <|
  if (gI h v0 1) = 0 then
    some h
  else
    gg (kd h (gP h v0 5) = 20) <|
    gg (inB ((gI h v0 1) - (1 : Int32)) (ln h (gP h v0 5)) = true) <|
    gg (kd h (gP h v0 6) = 20) <|
    if (gI h (gP h v0 5) ((gI h v0 1) - (1 : Int32)).toNatClampNeg) < (nI (ln h (gP h v0 6))) then
      gg (inB (gI h (gP h v0 5) ((gI h v0 1) - (1 : Int32)).toNatClampNeg) (ln h (gP h v0 6)) = true) <|
      lt (sI h (gP h v0 6) (gI h (gP h v0 5) ((gI h v0 1) - (1 : Int32)).toNatClampNeg).toNatClampNeg (((32 : Int32) * v2) + v1)) fun h8 =>
      gg (inB ((gI h8 v0 1) - (1 : Int32)) (ln h (gP h v0 5)) = true) <|
      lt (sI h8 (gP h v0 5) ((gI h8 v0 1) - (1 : Int32)).toNatClampNeg ((gI h8 (gP h v0 5) ((gI h8 v0 1) - (1 : Int32)).toNatClampNeg) + (1 : Int32))) fun h14 =>
      some h14
    else
      some h
set_option maxRecDepth 100000 in
set_option maxHeartbeats 8000000 in
theorem eX9_addCode {d : Nat} {h : Hp} {v0 : Nat} {v1 : Int32} {v2 : Int32} {h9 : Hp} (H : MX9_addCode h v0 v1 v2 = some h9) : J (d) YX9_addCode 0 [.ref v0, .int v1, .int v2] [] h oV h9 := by
  unfold MX9_addCode at H
  refine J_aload_n 0 dX9_addCode_0 rfl rfl ?_
  obtain ⟨g1, H⟩ := gd H
  refine J_getI 8 1 dX9_addCode_1 g1 flX9_15 rfl ?_
  refine J_if_eq 26 dX9_addCode_4 rfl (fun q2 => ?_) (fun q2 => ?_)
  · replace H := br1 q2 H
    cases H
    exact J_ret dX9_addCode_26 rfl
  · replace H := br0 q2 H
    refine J_aload_n 0 dX9_addCode_7 rfl rfl ?_
    refine J_gP 8 5 dX9_addCode_8 g1 flX9_28 rfl rfl ?_
    refine J_aload_n 0 dX9_addCode_11 rfl rfl ?_
    refine J_getI 8 1 dX9_addCode_12 g1 flX9_15 rfl ?_
    refine J_iconst (1 : Int32) dX9_addCode_15 kc_1 ?_
    refine J_isub dX9_addCode_16 ?_
    obtain ⟨g3, H⟩ := gd H
    obtain ⟨g4, H⟩ := gd H
    refine J_iald dX9_addCode_17 g3 (inB_ok g4) ?_
    refine J_aload_n 0 dX9_addCode_18 rfl rfl ?_
    refine J_gP 8 6 dX9_addCode_19 g1 flX9_31 rfl rfl ?_
    obtain ⟨g5, H⟩ := gd H
    refine J_len 20 dX9_addCode_22 g5 rfl ?_
    refine J_icmp_lt 27 dX9_addCode_23 rfl (fun q6 => ?_) (fun q6 => ?_)
    · replace H := br1 q6 H
      refine J_aload_n 0 dX9_addCode_27 rfl rfl ?_
      refine J_gP 8 6 dX9_addCode_28 g1 flX9_31 rfl rfl ?_
      refine J_aload_n 0 dX9_addCode_31 rfl rfl ?_
      refine J_gP 8 5 dX9_addCode_32 g1 flX9_28 rfl rfl ?_
      refine J_aload_n 0 dX9_addCode_35 rfl rfl ?_
      refine J_getI 8 1 dX9_addCode_36 g1 flX9_15 rfl ?_
      refine J_iconst (1 : Int32) dX9_addCode_39 kc_1 ?_
      refine J_isub dX9_addCode_40 ?_
      refine J_iald dX9_addCode_41 g3 (inB_ok g4) ?_
      refine J_bipush (32 : Int32) dX9_addCode_42 kb_32 ?_
      refine J_iload_n 2 dX9_addCode_44 rfl rfl ?_
      refine J_imul dX9_addCode_45 ?_
      refine J_iload_n 1 dX9_addCode_46 rfl rfl ?_
      refine J_iadd dX9_addCode_47 ?_
      obtain ⟨g7, H⟩ := gd H
      obtain ⟨h8, e9, H⟩ := lt_el H
      refine J_sI dX9_addCode_48 g5 (inB_ok g7) e9 ?_
      have c10 := ekI e9
      have c11 := elI e9
      have c12 := epI e9
      refine J_aload_n 0 dX9_addCode_49 rfl rfl ?_
      refine J_gP 8 5 dX9_addCode_50 (kq c10 g1) flX9_28 rfl (congrFun (congrFun c12 v0) 5) ?_
      refine J_aload_n 0 dX9_addCode_53 rfl rfl ?_
      refine J_getI 8 1 dX9_addCode_54 (kq c10 g1) flX9_15 rfl ?_
      refine J_iconst (1 : Int32) dX9_addCode_57 kc_1 ?_
      refine J_isub dX9_addCode_58 ?_
      refine J_dup2 dX9_addCode_59 rfl rfl ?_
      obtain ⟨g13, H⟩ := gd H
      refine J_iald dX9_addCode_60 (kq c10 g3) (lq c11 g13) ?_
      refine J_iconst (1 : Int32) dX9_addCode_61 kc_1 ?_
      refine J_iadd dX9_addCode_62 ?_
      obtain ⟨h14, e15, H⟩ := lt_el H
      refine J_sI dX9_addCode_63 (kq c10 g3) (lq c11 g13) e15 ?_
      have c16 := (ekI e15).trans c10
      have c17 := (elI e15).trans c11
      have c18 := (epI e15).trans c12
      cases H
      exact J_ret dX9_addCode_64 rfl
    · replace H := br0 q6 H
      cases H
      exact J_ret dX9_addCode_26 rfl
theorem okX9_addCode {d : Nat} {h : Hp} {v0 : Nat} {v1 : Int32} {v2 : Int32} {h9 : Hp} (H : MX9_addCode h v0 v1 v2 = some h9) : CT (d) YX9_addCode [.ref v0, .int v1, .int v2] h oV h9 := CT_of (by decide +kernel) (Nat.le_of_ble_eq_true rfl) (eX9_addCode H)
noncomputable def MX10_takeNumber_121 (h : Hp) (v0 : Nat) : Option (Int32 × Hp) :=
  gg (kd h v0 = 9) <|
  lt (sI h v0 3 (gI h v0 2)) fun h14 =>
  some ((-1 : Int32), h14)
set_option maxRecDepth 100000 in
set_option maxHeartbeats 8000000 in
theorem kX10_takeNumber_121 {d : Nat} {h : Hp} {v0 : Nat} {r : Int32} {h9 : Hp} (H : MX10_takeNumber_121 h v0 = some (r, h9)) : J (d) YX10_takeNumber 121 [.ref v0, Value.null, Value.null, Value.null, Value.null] [] h (oI r) h9 := by
  unfold MX10_takeNumber_121 at H
  refine J_aload_n 0 dX10_takeNumber_121 rfl rfl ?_
  refine J_aload_n 0 dX10_takeNumber_122 rfl rfl ?_
  obtain ⟨g13, H⟩ := gd H
  refine J_getI 9 2 dX10_takeNumber_123 g13 flX10_15 rfl ?_
  obtain ⟨h14, e15, H⟩ := lt_el H
  refine J_pI 9 3 dX10_takeNumber_126 g13 flX10_18 rfl rfl e15 ?_
  have c16 := ekI e15
  have c17 := elI e15
  have c18 := epI e15
  refine J_iconst (-1 : Int32) dX10_takeNumber_129 kc_m1 ?_
  cases H
  exact J_iretI dX10_takeNumber_130 rfl
noncomputable def MX10_takeNumber_91 (h : Hp) (v0 : Nat) (v1 : Int32) (v2 : Int32) (v3 : Int32) (v4 : Int32) : Option (Int32 × Hp) :=
  gg (kd h v0 = 9) <|
  if v4 = (gI h v0 2) then
    MX10_takeNumber_121 h v0
  else
    if (4 : Int32) < (v4 - (gI h v0 2)) then
      MX10_takeNumber_121 h v0
    else
      if v3 < v1 then
        MX10_takeNumber_121 h v0
      else
        if v3 ≤ v2 then
          lt (sI h v0 2 v4) fun h22 =>
          some (v3, h22)
        else
          MX10_takeNumber_121 h v0
set_option maxRecDepth 100000 in
set_option maxHeartbeats 8000000 in
theorem kX10_takeNumber_91 {d : Nat} {h : Hp} {v0 : Nat} {v1 : Int32} {v2 : Int32} {v3 : Int32} {v4 : Int32} {r : Int32} {h9 : Hp} (H : MX10_takeNumber_91 h v0 v1 v2 v3 v4 = some (r, h9)) : J (d) YX10_takeNumber 91 [.ref v0, .int v1, .int v2, .int v3, .int v4] [] h (oI r) h9 := by
  unfold MX10_takeNumber_91 at H
  refine J_iload dX10_takeNumber_91 rfl ?_
  refine J_aload_n 0 dX10_takeNumber_93 rfl rfl ?_
  obtain ⟨g11, H⟩ := gd H
  refine J_getI 9 2 dX10_takeNumber_94 g11 flX10_15 rfl ?_
  refine J_icmp_eq 121 dX10_takeNumber_97 rfl (fun q12 => ?_) (fun q12 => ?_)
  · replace H := br1 q12 H
    exact J_dr (kX10_takeNumber_121 H ) ⟨rfl, trivial⟩
  · replace H := br0 q12 H
    refine J_iload dX10_takeNumber_100 rfl ?_
    refine J_aload_n 0 dX10_takeNumber_102 rfl rfl ?_
    refine J_getI 9 2 dX10_takeNumber_103 g11 flX10_15 rfl ?_
    refine J_isub dX10_takeNumber_106 ?_
    refine J_iconst (4 : Int32) dX10_takeNumber_107 kc_4 ?_
    refine J_icmp_gt 121 dX10_takeNumber_108 rfl (fun q19 => ?_) (fun q19 => ?_)
    · replace H := br1 q19 H
      exact J_dr (kX10_takeNumber_121 H ) ⟨rfl, trivial⟩
    · replace H := br0 q19 H
      refine J_iload_n 3 dX10_takeNumber_111 rfl rfl ?_
      refine J_iload_n 1 dX10_takeNumber_112 rfl rfl ?_
      refine J_icmp_lt 121 dX10_takeNumber_113 rfl (fun q20 => ?_) (fun q20 => ?_)
      · replace H := br1 q20 H
        exact J_dr (kX10_takeNumber_121 H ) ⟨rfl, trivial⟩
      · replace H := br0 q20 H
        refine J_iload_n 3 dX10_takeNumber_116 rfl rfl ?_
        refine J_iload_n 2 dX10_takeNumber_117 rfl rfl ?_
        refine J_icmp_le 131 dX10_takeNumber_118 rfl (fun q21 => ?_) (fun q21 => ?_)
        · replace H := br1 q21 H
          refine J_aload_n 0 dX10_takeNumber_131 rfl rfl ?_
          refine J_iload dX10_takeNumber_132 rfl ?_
          obtain ⟨h22, e23, H⟩ := lt_el H
          refine J_pI 9 2 dX10_takeNumber_134 g11 flX10_15 rfl rfl e23 ?_
          have c24 := ekI e23
          have c25 := elI e23
          have c26 := epI e23
          refine J_iload_n 3 dX10_takeNumber_137 rfl rfl ?_
          cases H
          exact J_iretI dX10_takeNumber_138 rfl
        · replace H := br0 q21 H
          exact J_dr (kX10_takeNumber_121 H ) ⟨rfl, trivial⟩
noncomputable def MX10_takeNumber_84 (h : Hp) (v0 : Nat) (v1 : Int32) (v2 : Int32) (v4 : Int32) (s0 : Int32) : Option ((Int32 × Int32) ⊕ (Int32 × Hp)) :=
  some (.inl (s0, (v4 + (1 : Int32))))
set_option maxRecDepth 100000 in
set_option maxHeartbeats 8000000 in
theorem kX10_takeNumber_84 {d : Nat} {h : Hp} {v0 : Nat} {v1 : Int32} {v2 : Int32} {v4 : Int32} {s0 : Int32} {r : Int32} {h9 : Hp} {x : ((Int32 × Int32) ⊕ (Int32 × Hp))} (H : MX10_takeNumber_84 h v0 v1 v2 v4 s0 = some x) (hb0 : ∀ s : Int32 × Int32, x = .inl s → J (d) YX10_takeNumber 21 [.ref v0, .int v1, .int v2, .int s.1, .int s.2] [] h (oI r) h9) (hx : ∀ z : (Int32 × Hp), x = .inr (z) → z = (r, h9)) : J (d) YX10_takeNumber 84 [.ref v0, .int v1, .int v2, Value.null, .int v4] [.int s0] h (oI r) h9 := by
  unfold MX10_takeNumber_84 at H
  refine J_istore_n 3 dX10_takeNumber_84 rfl (by decide) (ls' := [.ref v0, .int v1, .int v2, .int s0, .int v4]) rfl ?_
  refine J_iinc (v4 + (1 : Int32)) dX10_takeNumber_85 rfl (congrArg (HAdd.hAdd v4) kc_1) (by decide) (ls' := [.ref v0, .int v1, .int v2, .int s0, .int (v4 + (1 : Int32))]) rfl ?_
  refine J_goto 21 dX10_takeNumber_88 rfl ?_
  cases H
  exact J_dr (hb0 _ rfl) ⟨rfl, ⟨rfl, ⟨rfl, ⟨rfl, ⟨rfl, trivial⟩⟩⟩⟩⟩
noncomputable def BX10_takeNumber_21 (h : Hp) (v0 : Nat) (v1 : Int32) (v2 : Int32) (v3 : Int32) (v4 : Int32) : Option ((Int32 × Int32) ⊕ (Int32 × Hp)) :=
  gg (kd h v0 = 9) <|
  if (gI h v0 1) ≤ v4 then
    up1 (MX10_takeNumber_91 h v0 v1 v2 v3 v4)
  else
    gg (kd h (gP h v0 0) = 21) <|
    gg (inB v4 (ln h (gP h v0 0)) = true) <|
    if (gI h (gP h v0 0) v4.toNatClampNeg) < (48 : Int32) then
      up1 (MX10_takeNumber_91 h v0 v1 v2 v3 v4)
    else
      if (57 : Int32) < (gI h (gP h v0 0) v4.toNatClampNeg) then
        up1 (MX10_takeNumber_91 h v0 v1 v2 v3 v4)
      else
        if (4 : Int32) ≤ (v4 - (gI h v0 2)) then
          MX10_takeNumber_84 h v0 v1 v2 v4 (0 : Int32)
        else
          MX10_takeNumber_84 h v0 v1 v2 v4 ((((10 : Int32) * v3) + (gI h (gP h v0 0) v4.toNatClampNeg)) - (48 : Int32))
set_option maxRecDepth 100000 in
set_option maxHeartbeats 8000000 in
theorem bX10_takeNumber_21 {d : Nat} {h : Hp} {v0 : Nat} {v1 : Int32} {v2 : Int32} {v3 : Int32} {v4 : Int32} {r : Int32} {h9 : Hp} {x : ((Int32 × Int32) ⊕ (Int32 × Hp))} (H : BX10_takeNumber_21 h v0 v1 v2 v3 v4 = some x) (hb0 : ∀ s : Int32 × Int32, x = .inl s → J (d) YX10_takeNumber 21 [.ref v0, .int v1, .int v2, .int s.1, .int s.2] [] h (oI r) h9) (hx : ∀ z : (Int32 × Hp), x = .inr (z) → z = (r, h9)) : J (d) YX10_takeNumber 21 [.ref v0, .int v1, .int v2, .int v3, .int v4] [] h (oI r) h9 := by
  unfold BX10_takeNumber_21 at H
  refine J_iload dX10_takeNumber_21 rfl ?_
  refine J_aload_n 0 dX10_takeNumber_23 rfl rfl ?_
  obtain ⟨g9, H⟩ := gd H
  refine J_getI 9 1 dX10_takeNumber_24 g9 flX10_9 rfl ?_
  refine J_icmp_ge 91 dX10_takeNumber_27 rfl (fun q10 => ?_) (fun q10 => ?_)
  · replace H := br1 q10 H
    obtain ⟨y, H9, rfl⟩ := up1_el H
    replace H := H9
    obtain rfl := hx _ rfl
    exact J_dr (kX10_takeNumber_91 H ) ⟨rfl, ⟨rfl, ⟨rfl, ⟨rfl, ⟨rfl, trivial⟩⟩⟩⟩⟩
  · replace H := br0 q10 H
    refine J_aload_n 0 dX10_takeNumber_30 rfl rfl ?_
    refine J_gP 9 0 dX10_takeNumber_31 g9 flX10_32 rfl rfl ?_
    refine J_iload dX10_takeNumber_34 rfl ?_
    obtain ⟨g27, H⟩ := gd H
    obtain ⟨g28, H⟩ := gd H
    refine J_bald dX10_takeNumber_36 g27 (inB_ok g28) ?_
    refine J_bipush (48 : Int32) dX10_takeNumber_37 kb_48 ?_
    refine J_icmp_lt 91 dX10_takeNumber_39 rfl (fun q29 => ?_) (fun q29 => ?_)
    · replace H := br1 q29 H
      obtain ⟨y, H9, rfl⟩ := up1_el H
      replace H := H9
      obtain rfl := hx _ rfl
      exact J_dr (kX10_takeNumber_91 H ) ⟨rfl, ⟨rfl, ⟨rfl, ⟨rfl, ⟨rfl, trivial⟩⟩⟩⟩⟩
    · replace H := br0 q29 H
      refine J_aload_n 0 dX10_takeNumber_42 rfl rfl ?_
      refine J_gP 9 0 dX10_takeNumber_43 g9 flX10_32 rfl rfl ?_
      refine J_iload dX10_takeNumber_46 rfl ?_
      refine J_bald dX10_takeNumber_48 g27 (inB_ok g28) ?_
      refine J_bipush (57 : Int32) dX10_takeNumber_49 kb_57 ?_
      refine J_icmp_gt 91 dX10_takeNumber_51 rfl (fun q30 => ?_) (fun q30 => ?_)
      · replace H := br1 q30 H
        obtain ⟨y, H9, rfl⟩ := up1_el H
        replace H := H9
        obtain rfl := hx _ rfl
        exact J_dr (kX10_takeNumber_91 H ) ⟨rfl, ⟨rfl, ⟨rfl, ⟨rfl, ⟨rfl, trivial⟩⟩⟩⟩⟩
      · replace H := br0 q30 H
        refine J_iload dX10_takeNumber_54 rfl ?_
        refine J_aload_n 0 dX10_takeNumber_56 rfl rfl ?_
        refine J_getI 9 2 dX10_takeNumber_57 g9 flX10_15 rfl ?_
        refine J_isub dX10_takeNumber_60 ?_
        refine J_iconst (4 : Int32) dX10_takeNumber_61 kc_4 ?_
        refine J_icmp_ge 83 dX10_takeNumber_62 rfl (fun q31 => ?_) (fun q31 => ?_)
        · replace H := br1 q31 H
          refine J_iconst (0 : Int32) dX10_takeNumber_83 kc_0 ?_
          exact J_dr (kX10_takeNumber_84 H hb0 hx) ⟨rfl, ⟨rfl, ⟨rfl, ⟨rfl, trivial⟩⟩⟩⟩
        · replace H := br0 q31 H
          refine J_bipush (10 : Int32) dX10_takeNumber_65 kb_10 ?_
          refine J_iload_n 3 dX10_takeNumber_67 rfl rfl ?_
          refine J_imul dX10_takeNumber_68 ?_
          refine J_aload_n 0 dX10_takeNumber_69 rfl rfl ?_
          refine J_gP 9 0 dX10_takeNumber_70 g9 flX10_32 rfl rfl ?_
          refine J_iload dX10_takeNumber_73 rfl ?_
          refine J_bald dX10_takeNumber_75 g27 (inB_ok g28) ?_
          refine J_iadd dX10_takeNumber_76 ?_
          refine J_bipush (48 : Int32) dX10_takeNumber_77 kb_48 ?_
          refine J_isub dX10_takeNumber_79 ?_
          refine J_goto 84 dX10_takeNumber_80 rfl ?_
          exact J_dr (kX10_takeNumber_84 H hb0 hx) ⟨rfl, ⟨rfl, ⟨rfl, ⟨rfl, trivial⟩⟩⟩⟩
noncomputable def MX10_takeNumber_21 (h : Hp) (v0 : Nat) (v1 : Int32) (v2 : Int32) (v3 : Int32) (v4 : Int32) : Option (Int32 × Hp) := it (fun q : Int32 × Int32 => BX10_takeNumber_21 h v0 v1 v2 q.1 q.2) (v3, v4)
set_option maxRecDepth 100000 in
set_option maxHeartbeats 8000000 in
theorem kX10_takeNumber_21 {d : Nat} {h : Hp} {v0 : Nat} {v1 : Int32} {v2 : Int32} {v3 : Int32} {v4 : Int32} {r : Int32} {h9 : Hp} (H : MX10_takeNumber_21 h v0 v1 v2 v3 v4 = some (r, h9)) : J (d) YX10_takeNumber 21 [.ref v0, .int v1, .int v2, .int v3, .int v4] [] h (oI r) h9 := by
  unfold MX10_takeNumber_21 at H
  refine it_J (G := (fun q : Int32 × Int32 => J (d) YX10_takeNumber 21 [.ref v0, .int v1, .int v2, .int q.1, .int q.2] [] h (oI r) h9)) (Q := (fun y : (Int32 × Hp) => y = (r, h9))) (fun q x Hq hm => ?_) H rfl
  exact bX10_takeNumber_21 Hq (fun s hs => by subst hs; exact hm) (fun z hz => by subst hz; exact hm)
noncomputable def MX10_takeNumber (h : Hp) (v0 : Nat) (v1 : Int32) (v2 : Int32) : Option (Int32 × Hp) :=
  gg (kd h v0 = 9) <|
  gg (kd h (gP h v0 4) = 20) <|
  gg (inB (gI h v0 2) (ln h (gP h v0 4)) = true) <|
  lt (sI h v0 2 (gI h (gP h v0 4) (gI h v0 2).toNatClampNeg)) fun h4 =>
  MX10_takeNumber_21 h4 v0 v1 v2 (0 : Int32) (gI h4 v0 2)
set_option maxRecDepth 100000 in
set_option maxHeartbeats 8000000 in
theorem eX10_takeNumber {d : Nat} {h : Hp} {v0 : Nat} {v1 : Int32} {v2 : Int32} {r : Int32} {h9 : Hp} (H : MX10_takeNumber h v0 v1 v2 = some (r, h9)) : J (d) YX10_takeNumber 0 [.ref v0, .int v1, .int v2, Value.null, Value.null] [] h (oI r) h9 := by
  unfold MX10_takeNumber at H
  refine J_aload_n 0 dX10_takeNumber_0 rfl rfl ?_
  refine J_aload_n 0 dX10_takeNumber_1 rfl rfl ?_
  obtain ⟨g1, H⟩ := gd H
  refine J_gP 9 4 dX10_takeNumber_2 g1 flX10_21 rfl rfl ?_
  refine J_aload_n 0 dX10_takeNumber_5 rfl rfl ?_
  refine J_getI 9 2 dX10_takeNumber_6 g1 flX10_15 rfl ?_
  obtain ⟨g2, H⟩ := gd H
  obtain ⟨g3, H⟩ := gd H
  refine J_iald dX10_takeNumber_9 g2 (inB_ok g3) ?_
  obtain ⟨h4, e5, H⟩ := lt_el H
  refine J_pI 9 2 dX10_takeNumber_10 g1 flX10_15 rfl rfl e5 ?_
  have c6 := ekI e5
  have c7 := elI e5
  have c8 := epI e5
  refine J_iconst (0 : Int32) dX10_takeNumber_13 kc_0 ?_
  refine J_istore_n 3 dX10_takeNumber_14 rfl (by decide) (ls' := [.ref v0, .int v1, .int v2, .int (0 : Int32), Value.null]) rfl ?_
  refine J_aload_n 0 dX10_takeNumber_15 rfl rfl ?_
  refine J_getI 9 2 dX10_takeNumber_16 (kq c6 g1) flX10_15 rfl ?_
  refine J_istore dX10_takeNumber_19 (by decide) (ls' := [.ref v0, .int v1, .int v2, .int (0 : Int32), .int (gI h4 v0 2)]) rfl ?_
  exact J_dr (kX10_takeNumber_21 H ) ⟨rfl, ⟨rfl, ⟨rfl, ⟨rfl, ⟨rfl, trivial⟩⟩⟩⟩⟩
theorem okX10_takeNumber {d : Nat} {h : Hp} {v0 : Nat} {v1 : Int32} {v2 : Int32} {r : Int32} {h9 : Hp} (H : MX10_takeNumber h v0 v1 v2 = some (r, h9)) : CT (d) YX10_takeNumber [.ref v0, .int v1, .int v2] h (oI r) h9 := CT_of (by decide +kernel) (Nat.le_of_ble_eq_true rfl) (eX10_takeNumber H)
noncomputable def MX10_tagOrComparison_76 (h : Hp) (v3 : Int32) (s0 : Nat) (s1 : Int32) (s2 : Int32) : Option (Int32 × Hp) :=
  gg (kd h s0 = 8) <|
  Option.bind (MX9_addCode h s0 (s1 + s2) v3) fun h16 =>
  if v3 = (-1 : Int32) then
    some ((0 : Int32), h16)
  else
    some ((1 : Int32), h16)
set_option maxRecDepth 100000 in
set_option maxHeartbeats 8000000 in
theorem kX10_tagOrComparison_76 {d : Nat} {h : Hp} {v3 : Int32} {s0 : Nat} {s1 : Int32} {s2 : Int32} {r : Int32} {h9 : Hp} (H : MX10_tagOrComparison_76 h v3 s0 s1 s2 = some (r, h9)) : J (d + 1) YX10_tagOrComparison 76 [Value.null, Value.null, Value.null, .int v3] [.int s2, .int s1, .ref s0] h (oI r) h9 := by
  unfold MX10_tagOrComparison_76 at H
  refine J_iadd dX10_tagOrComparison_76 ?_
  refine J_iload_n 3 dX10_tagOrComparison_77 rfl rfl ?_
  obtain ⟨g15, H⟩ := gd H
  obtain ⟨h16, e14, H⟩ := bd H
  refine J_cV (as := [.int (s1 + s2), .int v3]) 8 YX9_addCode 2 dX10_tagOrComparison_78 moX9_addCode mvX9_addCode mlX10_108 g15 rfl (okX9_addCode (d := d) e14) rfl rfl [] rfl rfl (st2 := []) rfl ?_
  refine J_iload_n 3 dX10_tagOrComparison_81 rfl rfl ?_
  refine J_iconst (-1 : Int32) dX10_tagOrComparison_82 kc_m1 ?_
  refine J_icmp_eq 90 dX10_tagOrComparison_83 rfl (fun q17 => ?_) (fun q17 => ?_)
  · replace H := br1 q17 H
    refine J_iconst (0 : Int32) dX10_tagOrComparison_90 kc_0 ?_
    cases H
    exact J_rZ dX10_tagOrComparison_91 rfl rfl
  · replace H := br0 q17 H
    refine J_iconst (1 : Int32) dX10_tagOrComparison_86 kc_1 ?_
    refine J_goto 91 dX10_tagOrComparison_87 rfl ?_
    cases H
    exact J_rZ dX10_tagOrComparison_91 rfl rfl
noncomputable def MX10_tagOrComparison_51 (h : Hp) (v0 : Nat) (v1 : Int32) (v2 : Int32) : Option (Int32 × Hp) :=
  gg (kd h v0 = 9) <|
  b2 (MX10_takeNumber h v0 (0 : Int32) (9999 : Int32)) fun t11 h10 =>
  gg (kd h10 v0 = 9) <|
  if v2 = 0 then
    MX10_tagOrComparison_76 h10 t11 (gP h10 v0 5) v1 (18 : Int32)
  else
    MX10_tagOrComparison_76 h10 t11 (gP h10 v0 5) v1 (9 : Int32)
set_option maxRecDepth 100000 in
set_option maxHeartbeats 8000000 in
theorem kX10_tagOrComparison_51 {d : Nat} {h : Hp} {v0 : Nat} {v1 : Int32} {v2 : Int32} {r : Int32} {h9 : Hp} (H : MX10_tagOrComparison_51 h v0 v1 v2 = some (r, h9)) : J (d + 1) YX10_tagOrComparison 51 [.ref v0, .int v1, .int v2, Value.null] [] h (oI r) h9 := by
  unfold MX10_tagOrComparison_51 at H
  refine J_aload_n 0 dX10_tagOrComparison_51 rfl rfl ?_
  refine J_iconst (0 : Int32) dX10_tagOrComparison_52 kc_0 ?_
  refine J_sipush (9999 : Int32) dX10_tagOrComparison_53 ks_9999 ?_
  obtain ⟨g9, H⟩ := gd H
  obtain ⟨t11, h10, e8, H⟩ := b2_el H
  refine J_cV (as := [.int (0 : Int32), .int (9999 : Int32)]) 9 YX10_takeNumber 2 dX10_tagOrComparison_56 moX10_takeNumber mvX10_takeNumber mlX10_99 g9 rfl (okX10_takeNumber (d := d) e8) rfl rfl [] rfl rfl (st2 := [.int t11]) rfl ?_
  refine J_istore_n 3 dX10_tagOrComparison_59 rfl (by decide) (ls' := [.ref v0, .int v1, .int v2, .int t11]) rfl ?_
  refine J_aload_n 0 dX10_tagOrComparison_60 rfl rfl ?_
  obtain ⟨g12, H⟩ := gd H
  refine J_gP 9 5 dX10_tagOrComparison_61 g12 flX10_28 rfl rfl ?_
  refine J_iload_n 1 dX10_tagOrComparison_64 rfl rfl ?_
  refine J_iload_n 2 dX10_tagOrComparison_65 rfl rfl ?_
  refine J_if_eq 74 dX10_tagOrComparison_66 rfl (fun q13 => ?_) (fun q13 => ?_)
  · replace H := br1 q13 H
    refine J_bipush (18 : Int32) dX10_tagOrComparison_74 kb_18 ?_
    exact J_dr (kX10_tagOrComparison_76 H ) ⟨rfl, trivial⟩
  · replace H := br0 q13 H
    refine J_bipush (9 : Int32) dX10_tagOrComparison_69 kb_9 ?_
    refine J_goto 76 dX10_tagOrComparison_71 rfl ?_
    exact J_dr (kX10_tagOrComparison_76 H ) ⟨rfl, trivial⟩
noncomputable def MX10_tagOrComparison (h : Hp) (v0 : Nat) (v1 : Int32) : Option (Int32 × Hp) :=
  if v1 = (-1 : Int32) then
    gg (kd h v0 = 9) <|
    b2 (MX10_failHere h v0) fun t35 h34 =>
    gg (zOk t35 = true) <|
    some (t35, h34)
  else
    if (2 : Int32) < v1 then
      gg (kd h v0 = 9) <|
      b2 (MX10_takeSign h v0 (60 : Int32)) fun t6 h5 =>
      if t6 = 0 then
        gg (kd h5 v0 = 9) <|
        b2 (MX10_takeSign h5 v0 (62 : Int32)) fun t21 h20 =>
        if t21 = 0 then
          gg (kd h20 v0 = 9) <|
          b2 (MX10_failHere h20 v0) fun t26 h25 =>
          gg (zOk t26 = true) <|
          some (t26, h25)
        else
          MX10_tagOrComparison_51 h20 v0 v1 t6
      else
        MX10_tagOrComparison_51 h5 v0 v1 t6
    else
      gg (kd h v0 = 9) <|
      gg (kd h (gP h v0 5) = 8) <|
      Option.bind (MX9_addCode h (gP h v0 5) v1 (0 : Int32)) fun h31 =>
      some ((1 : Int32), h31)
set_option maxRecDepth 100000 in
set_option maxHeartbeats 8000000 in
theorem eX10_tagOrComparison {d : Nat} {h : Hp} {v0 : Nat} {v1 : Int32} {r : Int32} {h9 : Hp} (H : MX10_tagOrComparison h v0 v1 = some (r, h9)) : J (d + 1) YX10_tagOrComparison 0 [.ref v0, .int v1, Value.null, Value.null] [] h (oI r) h9 := by
  unfold MX10_tagOrComparison at H
  refine J_iload_n 1 dX10_tagOrComparison_0 rfl rfl ?_
  refine J_iconst (-1 : Int32) dX10_tagOrComparison_1 kc_m1 ?_
  refine J_icmp_ne 10 dX10_tagOrComparison_2 rfl (fun q1 => ?_) (fun q1 => ?_)
  · replace H := br0 q1 H
    refine J_iload_n 1 dX10_tagOrComparison_10 rfl rfl ?_
    refine J_iconst (2 : Int32) dX10_tagOrComparison_11 kc_2 ?_
    refine J_icmp_gt 26 dX10_tagOrComparison_12 rfl (fun q2 => ?_) (fun q2 => ?_)
    · replace H := br1 q2 H
      refine J_aload_n 0 dX10_tagOrComparison_26 rfl rfl ?_
      refine J_bipush (60 : Int32) dX10_tagOrComparison_27 kb_60 ?_
      obtain ⟨g4, H⟩ := gd H
      obtain ⟨t6, h5, e3, H⟩ := b2_el H
      refine J_cV (as := [.int (60 : Int32)]) 9 YX10_takeSign 1 dX10_tagOrComparison_29 moX10_takeSign mvX10_takeSign mlX10_55 g4 rfl (okX10_takeSign (d := d) e3) rfl rfl [] rfl rfl (st2 := [.int t6]) rfl ?_
      refine J_istore_n 2 dX10_tagOrComparison_32 rfl (by decide) (ls' := [.ref v0, .int v1, .int t6, Value.null]) rfl ?_
      refine J_iload_n 2 dX10_tagOrComparison_33 rfl rfl ?_
      refine J_if_ne 51 dX10_tagOrComparison_34 rfl (fun q7 => ?_) (fun q7 => ?_)
      · replace H := br0 q7 H
        exact J_dr (kX10_tagOrComparison_51 H ) ⟨rfl, ⟨rfl, ⟨rfl, trivial⟩⟩⟩
      · replace H := br1 q7 H
        refine J_aload_n 0 dX10_tagOrComparison_37 rfl rfl ?_
        refine J_bipush (62 : Int32) dX10_tagOrComparison_38 kb_62 ?_
        obtain ⟨g19, H⟩ := gd H
        obtain ⟨t21, h20, e18, H⟩ := b2_el H
        refine J_cV (as := [.int (62 : Int32)]) 9 YX10_takeSign 1 dX10_tagOrComparison_40 moX10_takeSign mvX10_takeSign mlX10_55 g19 rfl (okX10_takeSign (d := d) e18) rfl rfl [] rfl rfl (st2 := [.int t21]) rfl ?_
        refine J_if_ne 51 dX10_tagOrComparison_43 rfl (fun q22 => ?_) (fun q22 => ?_)
        · replace H := br0 q22 H
          exact J_dr (kX10_tagOrComparison_51 H ) ⟨rfl, ⟨rfl, ⟨rfl, trivial⟩⟩⟩
        · replace H := br1 q22 H
          refine J_aload_n 0 dX10_tagOrComparison_46 rfl rfl ?_
          obtain ⟨g24, H⟩ := gd H
          obtain ⟨t26, h25, e23, H⟩ := b2_el H
          refine J_cV (as := []) 9 YX10_failHere 0 dX10_tagOrComparison_47 moX10_failHere mvX10_failHere mlX10_59 g24 rfl (okX10_failHere (d := d) e23) rfl rfl [] rfl rfl (st2 := [.int t26]) rfl ?_
          obtain ⟨g27, H⟩ := gd H
          cases H
          exact J_rZ dX10_tagOrComparison_50 rfl g27
    · replace H := br0 q2 H
      refine J_aload_n 0 dX10_tagOrComparison_15 rfl rfl ?_
      obtain ⟨g28, H⟩ := gd H
      refine J_gP 9 5 dX10_tagOrComparison_16 g28 flX10_28 rfl rfl ?_
      refine J_iload_n 1 dX10_tagOrComparison_19 rfl rfl ?_
      refine J_iconst (0 : Int32) dX10_tagOrComparison_20 kc_0 ?_
      obtain ⟨g30, H⟩ := gd H
      obtain ⟨h31, e29, H⟩ := bd H
      refine J_cV (as := [.int v1, .int (0 : Int32)]) 8 YX9_addCode 2 dX10_tagOrComparison_21 moX9_addCode mvX9_addCode mlX10_108 g30 rfl (okX9_addCode (d := d) e29) rfl rfl [] rfl rfl (st2 := []) rfl ?_
      refine J_iconst (1 : Int32) dX10_tagOrComparison_24 kc_1 ?_
      cases H
      exact J_rZ dX10_tagOrComparison_25 rfl rfl
  · replace H := br1 q1 H
    refine J_aload_n 0 dX10_tagOrComparison_5 rfl rfl ?_
    obtain ⟨g33, H⟩ := gd H
    obtain ⟨t35, h34, e32, H⟩ := b2_el H
    refine J_cV (as := []) 9 YX10_failHere 0 dX10_tagOrComparison_6 moX10_failHere mvX10_failHere mlX10_59 g33 rfl (okX10_failHere (d := d) e32) rfl rfl [] rfl rfl (st2 := [.int t35]) rfl ?_
    obtain ⟨g36, H⟩ := gd H
    cases H
    exact J_rZ dX10_tagOrComparison_9 rfl g36
theorem okX10_tagOrComparison {d : Nat} {h : Hp} {v0 : Nat} {v1 : Int32} {r : Int32} {h9 : Hp} (H : MX10_tagOrComparison h v0 v1 = some (r, h9)) : CT (d + 1) YX10_tagOrComparison [.ref v0, .int v1] h (oI r) h9 := CT_of (by decide +kernel) (Nat.le_of_ble_eq_true rfl) (eX10_tagOrComparison H)
noncomputable def MX10_takeWord_114 (h : Hp) (v0 : Nat) (v2 : Int32) : Option (Int32 × Hp) :=
  gg (kd h v0 = 9) <|
  lt (sI h v0 2 v2) fun h16 =>
  some ((1 : Int32), h16)
set_option maxRecDepth 100000 in
set_option maxHeartbeats 8000000 in
theorem kX10_takeWord_114 {d : Nat} {h : Hp} {v0 : Nat} {v2 : Int32} {r : Int32} {h9 : Hp} (H : MX10_takeWord_114 h v0 v2 = some (r, h9)) : J (d + 4) YX10_takeWord 114 [.ref v0, Value.null, .int v2, Value.null, Value.null] [] h (oI r) h9 := by
  unfold MX10_takeWord_114 at H
  refine J_aload_n 0 dX10_takeWord_114 rfl rfl ?_
  refine J_iload_n 2 dX10_takeWord_115 rfl rfl ?_
  obtain ⟨g15, H⟩ := gd H
  obtain ⟨h16, e17, H⟩ := lt_el H
  refine J_pI 9 2 dX10_takeWord_116 g15 flX10_15 rfl rfl e17 ?_
  have c18 := ekI e17
  have c19 := elI e17
  have c20 := epI e17
  refine J_iconst (1 : Int32) dX10_takeWord_119 kc_1 ?_
  cases H
  exact J_rZ dX10_takeWord_120 rfl rfl
noncomputable def BX10_takeWord_79 (h : Hp) (v0 : Nat) (v1 : Nat) (v2 : Int32) (v4 : Int32) : Option ((Int32) ⊕ (Int32 × Hp)) :=
  if v2 ≤ v4 then
    up1 (MX10_takeWord_114 h v0 v2)
  else
    gg (kd h v0 = 9) <|
    gg (kd h (gP h v0 0) = 21) <|
    gg (inB v4 (ln h (gP h v0 0)) = true) <|
    gg (Nat.blt v1 21 = true) <|
    gg (inB (v4 - (gI h v0 2)) (sN v1) = true) <|
    if (gI h (gP h v0 0) v4.toNatClampNeg) = (sAt v1 (v4 - (gI h v0 2))) then
      some (.inl (v4 + (1 : Int32)))
    else
      some (.inr (((0 : Int32), h)))
set_option maxRecDepth 100000 in
set_option maxHeartbeats 8000000 in
theorem bX10_takeWord_79 {d : Nat} {h : Hp} {v0 : Nat} {v1 : Nat} {v2 : Int32} {v4 : Int32} {r : Int32} {h9 : Hp} {x : ((Int32) ⊕ (Int32 × Hp))} (H : BX10_takeWord_79 h v0 v1 v2 v4 = some x) (hb0 : ∀ s : Int32, x = .inl s → J (d + 4) YX10_takeWord 79 [.ref v0, .retAddr v1, .int v2, Value.null, .int s] [] h (oI r) h9) (hx : ∀ z : (Int32 × Hp), x = .inr (z) → z = (r, h9)) : J (d + 4) YX10_takeWord 79 [.ref v0, .retAddr v1, .int v2, Value.null, .int v4] [] h (oI r) h9 := by
  unfold BX10_takeWord_79 at H
  refine J_iload dX10_takeWord_79 rfl ?_
  refine J_iload_n 2 dX10_takeWord_81 rfl rfl ?_
  refine J_icmp_ge 114 dX10_takeWord_82 rfl (fun q14 => ?_) (fun q14 => ?_)
  · replace H := br1 q14 H
    obtain ⟨y, H9, rfl⟩ := up1_el H
    replace H := H9
    obtain rfl := hx _ rfl
    exact J_dr (kX10_takeWord_114 H ) ⟨rfl, ⟨rfl, trivial⟩⟩
  · replace H := br0 q14 H
    refine J_aload_n 0 dX10_takeWord_85 rfl rfl ?_
    obtain ⟨g21, H⟩ := gd H
    refine J_gP 9 0 dX10_takeWord_86 g21 flX10_32 rfl rfl ?_
    refine J_iload dX10_takeWord_89 rfl ?_
    obtain ⟨g22, H⟩ := gd H
    obtain ⟨g23, H⟩ := gd H
    refine J_bald dX10_takeWord_91 g22 (inB_ok g23) ?_
    refine J_aload_nT 1 dX10_takeWord_92 rfl rfl ?_
    refine J_iload dX10_takeWord_93 rfl ?_
    refine J_aload_n 0 dX10_takeWord_95 rfl rfl ?_
    refine J_getI 9 2 dX10_takeWord_96 g21 flX10_15 rfl ?_
    refine J_isub dX10_takeWord_99 ?_
    obtain ⟨g24, H⟩ := gd H
    obtain ⟨g25, H⟩ := gd H
    refine J_sc dX10_takeWord_100 mlX10_148 g24 g25 rfl ?_
    refine J_icmp_eq 108 dX10_takeWord_103 rfl (fun q26 => ?_) (fun q26 => ?_)
    · replace H := br1 q26 H
      refine J_iinc (v4 + (1 : Int32)) dX10_takeWord_108 rfl (congrArg (HAdd.hAdd v4) kc_1) (by decide) (ls' := [.ref v0, .retAddr v1, .int v2, Value.null, .int (v4 + (1 : Int32))]) rfl ?_
      refine J_goto 79 dX10_takeWord_111 rfl ?_
      cases H
      exact J_dr (hb0 _ rfl) ⟨rfl, ⟨rfl, ⟨rfl, ⟨rfl, trivial⟩⟩⟩⟩
    · replace H := br0 q26 H
      refine J_iconst (0 : Int32) dX10_takeWord_106 kc_0 ?_
      cases H
      cases hx _ rfl
      exact J_rZ dX10_takeWord_107 rfl rfl
noncomputable def MX10_takeWord_79 (h : Hp) (v0 : Nat) (v1 : Nat) (v2 : Int32) (v4 : Int32) : Option (Int32 × Hp) := it (fun q : Int32 => BX10_takeWord_79 h v0 v1 v2 q) (v4)
set_option maxRecDepth 100000 in
set_option maxHeartbeats 8000000 in
theorem kX10_takeWord_79 {d : Nat} {h : Hp} {v0 : Nat} {v1 : Nat} {v2 : Int32} {v4 : Int32} {r : Int32} {h9 : Hp} (H : MX10_takeWord_79 h v0 v1 v2 v4 = some (r, h9)) : J (d + 4) YX10_takeWord 79 [.ref v0, .retAddr v1, .int v2, Value.null, .int v4] [] h (oI r) h9 := by
  unfold MX10_takeWord_79 at H
  refine it_J (G := (fun q : Int32 => J (d + 4) YX10_takeWord 79 [.ref v0, .retAddr v1, .int v2, Value.null, .int q] [] h (oI r) h9)) (Q := (fun y : (Int32 × Hp) => y = (r, h9))) (fun q x Hq hm => ?_) H rfl
  exact bX10_takeWord_79 Hq (fun s hs => by subst hs; exact hm) (fun z hz => by subst hz; exact hm)
noncomputable def MX10_takeWord_58 (h : Hp) (v0 : Nat) (v1 : Nat) (v2 : Int32) (s0 : Int32) : Option (Int32 × Hp) :=
  gg (kd h v0 = 9) <|
  if (gI h v0 1) < v2 then
    some ((0 : Int32), h)
  else
    if s0 = 0 then
      MX10_takeWord_79 h v0 v1 v2 (gI h v0 2)
    else
      some ((0 : Int32), h)
set_option maxRecDepth 100000 in
set_option maxHeartbeats 8000000 in
theorem kX10_takeWord_58 {d : Nat} {h : Hp} {v0 : Nat} {v1 : Nat} {v2 : Int32} {s0 : Int32} {r : Int32} {h9 : Hp} (H : MX10_takeWord_58 h v0 v1 v2 s0 = some (r, h9)) : J (d + 4) YX10_takeWord 58 [.ref v0, .retAddr v1, .int v2, Value.null, Value.null] [.int s0] h (oI r) h9 := by
  unfold MX10_takeWord_58 at H
  refine J_istore_n 3 dX10_takeWord_58 rfl (by decide) (ls' := [.ref v0, .retAddr v1, .int v2, .int s0, Value.null]) rfl ?_
  refine J_iload_n 2 dX10_takeWord_59 rfl rfl ?_
  refine J_aload_n 0 dX10_takeWord_60 rfl rfl ?_
  obtain ⟨g11, H⟩ := gd H
  refine J_getI 9 1 dX10_takeWord_61 g11 flX10_9 rfl ?_
  refine J_icmp_gt 71 dX10_takeWord_64 rfl (fun q12 => ?_) (fun q12 => ?_)
  · replace H := br1 q12 H
    refine J_iconst (0 : Int32) dX10_takeWord_71 kc_0 ?_
    cases H
    exact J_rZ dX10_takeWord_72 rfl rfl
  · replace H := br0 q12 H
    refine J_iload_n 3 dX10_takeWord_67 rfl rfl ?_
    refine J_if_eq 73 dX10_takeWord_68 rfl (fun q13 => ?_) (fun q13 => ?_)
    · replace H := br1 q13 H
      refine J_aload_n 0 dX10_takeWord_73 rfl rfl ?_
      refine J_getI 9 2 dX10_takeWord_74 g11 flX10_15 rfl ?_
      refine J_istore dX10_takeWord_77 (by decide) (ls' := [.ref v0, .retAddr v1, .int v2, .int s0, .int (gI h v0 2)]) rfl ?_
      exact J_dr (kX10_takeWord_79 H ) ⟨rfl, ⟨rfl, ⟨rfl, ⟨rfl, trivial⟩⟩⟩⟩
    · replace H := br0 q13 H
      refine J_iconst (0 : Int32) dX10_takeWord_71 kc_0 ?_
      cases H
      exact J_rZ dX10_takeWord_72 rfl rfl
noncomputable def MX10_takeWord_57 (h : Hp) (v0 : Nat) (v1 : Nat) (v2 : Int32) : Option (Int32 × Hp) :=
  MX10_takeWord_58 h v0 v1 v2 (0 : Int32)
set_option maxRecDepth 100000 in
set_option maxHeartbeats 8000000 in
theorem kX10_takeWord_57 {d : Nat} {h : Hp} {v0 : Nat} {v1 : Nat} {v2 : Int32} {r : Int32} {h9 : Hp} (H : MX10_takeWord_57 h v0 v1 v2 = some (r, h9)) : J (d + 4) YX10_takeWord 57 [.ref v0, .retAddr v1, .int v2, Value.null, Value.null] [] h (oI r) h9 := by
  unfold MX10_takeWord_57 at H
  refine J_iconst (0 : Int32) dX10_takeWord_57 kc_0 ?_
  exact J_dr (kX10_takeWord_58 H ) ⟨rfl, ⟨rfl, ⟨rfl, trivial⟩⟩⟩
noncomputable def MX10_takeWord (h : Hp) (v0 : Nat) (v1 : Nat) : Option (Int32 × Hp) :=
  gg (kd h v0 = 9) <|
  gg (kd h (gP h v0 4) = 20) <|
  gg (inB (gI h v0 2) (ln h (gP h v0 4)) = true) <|
  lt (sI h v0 2 (gI h (gP h v0 4) (gI h v0 2).toNatClampNeg)) fun h4 =>
  gg (Nat.blt v1 21 = true) <|
  if (gI h4 v0 1) ≤ ((gI h4 v0 2) + (sLen v1)) then
    MX10_takeWord_57 h4 v0 v1 ((gI h4 v0 2) + (sLen v1))
  else
    gg (kd h (gP h v0 0) = 21) <|
    gg (inB ((gI h4 v0 2) + (sLen v1)) (ln h (gP h v0 0)) = true) <|
    if (gI h4 (gP h v0 0) ((gI h4 v0 2) + (sLen v1)).toNatClampNeg) < (97 : Int32) then
      MX10_takeWord_57 h4 v0 v1 ((gI h4 v0 2) + (sLen v1))
    else
      if (122 : Int32) < (gI h4 (gP h v0 0) ((gI h4 v0 2) + (sLen v1)).toNatClampNeg) then
        MX10_takeWord_57 h4 v0 v1 ((gI h4 v0 2) + (sLen v1))
      else
        MX10_takeWord_58 h4 v0 v1 ((gI h4 v0 2) + (sLen v1)) (1 : Int32)
set_option maxRecDepth 100000 in
set_option maxHeartbeats 8000000 in
theorem eX10_takeWord {d : Nat} {h : Hp} {v0 : Nat} {v1 : Nat} {r : Int32} {h9 : Hp} (H : MX10_takeWord h v0 v1 = some (r, h9)) : J (d + 4) YX10_takeWord 0 [.ref v0, .retAddr v1, Value.null, Value.null, Value.null] [] h (oI r) h9 := by
  unfold MX10_takeWord at H
  refine J_aload_n 0 dX10_takeWord_0 rfl rfl ?_
  refine J_aload_n 0 dX10_takeWord_1 rfl rfl ?_
  obtain ⟨g1, H⟩ := gd H
  refine J_gP 9 4 dX10_takeWord_2 g1 flX10_21 rfl rfl ?_
  refine J_aload_n 0 dX10_takeWord_5 rfl rfl ?_
  refine J_getI 9 2 dX10_takeWord_6 g1 flX10_15 rfl ?_
  obtain ⟨g2, H⟩ := gd H
  obtain ⟨g3, H⟩ := gd H
  refine J_iald dX10_takeWord_9 g2 (inB_ok g3) ?_
  obtain ⟨h4, e5, H⟩ := lt_el H
  refine J_pI 9 2 dX10_takeWord_10 g1 flX10_15 rfl rfl e5 ?_
  have c6 := ekI e5
  have c7 := elI e5
  have c8 := epI e5
  refine J_aload_n 0 dX10_takeWord_13 rfl rfl ?_
  refine J_getI 9 2 dX10_takeWord_14 (kq c6 g1) flX10_15 rfl ?_
  refine J_aload_nT 1 dX10_takeWord_17 rfl rfl ?_
  obtain ⟨g9, H⟩ := gd H
  refine J_sl dX10_takeWord_18 mlX10_144 g9 rfl ?_
  refine J_iadd dX10_takeWord_21 ?_
  refine J_istore_n 2 dX10_takeWord_22 rfl (by decide) (ls' := [.ref v0, .retAddr v1, .int ((gI h4 v0 2) + (sLen v1)), Value.null, Value.null]) rfl ?_
  refine J_iload_n 2 dX10_takeWord_23 rfl rfl ?_
  refine J_aload_n 0 dX10_takeWord_24 rfl rfl ?_
  refine J_getI 9 1 dX10_takeWord_25 (kq c6 g1) flX10_9 rfl ?_
  refine J_icmp_ge 57 dX10_takeWord_28 rfl (fun q10 => ?_) (fun q10 => ?_)
  · replace H := br1 q10 H
    exact J_dr (kX10_takeWord_57 H ) ⟨rfl, ⟨rfl, ⟨rfl, trivial⟩⟩⟩
  · replace H := br0 q10 H
    refine J_aload_n 0 dX10_takeWord_31 rfl rfl ?_
    refine J_gP 9 0 dX10_takeWord_32 (kq c6 g1) flX10_32 rfl (congrFun (congrFun c8 v0) 0) ?_
    refine J_iload_n 2 dX10_takeWord_35 rfl rfl ?_
    obtain ⟨g27, H⟩ := gd H
    obtain ⟨g28, H⟩ := gd H
    refine J_bald dX10_takeWord_36 (kq c6 g27) (lq c7 g28) ?_
    refine J_bipush (97 : Int32) dX10_takeWord_37 kb_97 ?_
    refine J_icmp_lt 57 dX10_takeWord_39 rfl (fun q29 => ?_) (fun q29 => ?_)
    · replace H := br1 q29 H
      exact J_dr (kX10_takeWord_57 H ) ⟨rfl, ⟨rfl, ⟨rfl, trivial⟩⟩⟩
    · replace H := br0 q29 H
      refine J_aload_n 0 dX10_takeWord_42 rfl rfl ?_
      refine J_gP 9 0 dX10_takeWord_43 (kq c6 g1) flX10_32 rfl (congrFun (congrFun c8 v0) 0) ?_
      refine J_iload_n 2 dX10_takeWord_46 rfl rfl ?_
      refine J_bald dX10_takeWord_47 (kq c6 g27) (lq c7 g28) ?_
      refine J_bipush (122 : Int32) dX10_takeWord_48 kb_122 ?_
      refine J_icmp_gt 57 dX10_takeWord_50 rfl (fun q30 => ?_) (fun q30 => ?_)
      · replace H := br1 q30 H
        exact J_dr (kX10_takeWord_57 H ) ⟨rfl, ⟨rfl, ⟨rfl, trivial⟩⟩⟩
      · replace H := br0 q30 H
        refine J_iconst (1 : Int32) dX10_takeWord_53 kc_1 ?_
        refine J_goto 58 dX10_takeWord_54 rfl ?_
        exact J_dr (kX10_takeWord_58 H ) ⟨rfl, ⟨rfl, ⟨rfl, trivial⟩⟩⟩
theorem okX10_takeWord {d : Nat} {h : Hp} {v0 : Nat} {v1 : Nat} {r : Int32} {h9 : Hp} (H : MX10_takeWord h v0 v1 = some (r, h9)) : CT (d + 4) YX10_takeWord [.ref v0, .retAddr v1] h (oI r) h9 := CT_of (by decide +kernel) (Nat.le_of_ble_eq_true rfl) (eX10_takeWord H)
noncomputable def MX10_takeFact (h : Hp) (v0 : Nat) : Option (Int32 × Hp) :=
  gg (kd h v0 = 9) <|
  b2 (MX10_takeWord h v0 8) fun t4 h3 =>
  if t4 = 0 then
    gg (kd h3 v0 = 9) <|
    b2 (MX10_takeWord h3 v0 10) fun t9 h8 =>
    if t9 = 0 then
      gg (kd h8 v0 = 9) <|
      b2 (MX10_takeWord h8 v0 4) fun t14 h13 =>
      if t14 = 0 then
        gg (kd h13 v0 = 9) <|
        b2 (MX10_takeWord h13 v0 20) fun t19 h18 =>
        if t19 = 0 then
          gg (kd h18 v0 = 9) <|
          b2 (MX10_takeWord h18 v0 2) fun t24 h23 =>
          if t24 = 0 then
            gg (kd h23 v0 = 9) <|
            b2 (MX10_takeWord h23 v0 5) fun t29 h28 =>
            if t29 = 0 then
              gg (kd h28 v0 = 9) <|
              b2 (MX10_takeWord h28 v0 14) fun t34 h33 =>
              if t34 = 0 then
                gg (kd h33 v0 = 9) <|
                b2 (MX10_takeWord h33 v0 11) fun t39 h38 =>
                if t39 = 0 then
                  gg (kd h38 v0 = 9) <|
                  b2 (MX10_takeWord h38 v0 12) fun t44 h43 =>
                  if t44 = 0 then
                    some ((-1 : Int32), h43)
                  else
                    some ((8 : Int32), h43)
                else
                  some ((7 : Int32), h38)
              else
                some ((6 : Int32), h33)
            else
              some ((5 : Int32), h28)
          else
            some ((4 : Int32), h23)
        else
          some ((3 : Int32), h18)
      else
        some ((2 : Int32), h13)
    else
      some ((1 : Int32), h8)
  else
    some ((0 : Int32), h3)
set_option maxRecDepth 100000 in
set_option maxHeartbeats 8000000 in
theorem eX10_takeFact {d : Nat} {h : Hp} {v0 : Nat} {r : Int32} {h9 : Hp} (H : MX10_takeFact h v0 = some (r, h9)) : J (d + 5) YX10_takeFact 0 [.ref v0] [] h (oI r) h9 := by
  unfold MX10_takeFact at H
  refine J_aload_n 0 dX10_takeFact_0 rfl rfl ?_
  refine J_lS (tx := "head") dX10_takeFact_1 8 (by decide +kernel) ?_
  obtain ⟨g2, H⟩ := gd H
  obtain ⟨t4, h3, e1, H⟩ := b2_el H
  refine J_cV (as := [.retAddr 8]) 9 YX10_takeWord 1 dX10_takeFact_3 moX10_takeWord mvX10_takeWord mlX10_64 g2 rfl (okX10_takeWord (d := d) e1) rfl rfl [] rfl rfl (st2 := [.int t4]) rfl ?_
  refine J_if_eq 11 dX10_takeFact_6 rfl (fun q5 => ?_) (fun q5 => ?_)
  · replace H := br1 q5 H
    refine J_aload_n 0 dX10_takeFact_11 rfl rfl ?_
    refine J_lS (tx := "late") dX10_takeFact_12 10 (by decide +kernel) ?_
    obtain ⟨g7, H⟩ := gd H
    obtain ⟨t9, h8, e6, H⟩ := b2_el H
    refine J_cV (as := [.retAddr 10]) 9 YX10_takeWord 1 dX10_takeFact_14 moX10_takeWord mvX10_takeWord mlX10_64 g7 rfl (okX10_takeWord (d := d) e6) rfl rfl [] rfl rfl (st2 := [.int t9]) rfl ?_
    refine J_if_eq 22 dX10_takeFact_17 rfl (fun q10 => ?_) (fun q10 => ?_)
    · replace H := br1 q10 H
      refine J_aload_n 0 dX10_takeFact_22 rfl rfl ?_
      refine J_lS (tx := "corrected") dX10_takeFact_23 4 (by decide +kernel) ?_
      obtain ⟨g12, H⟩ := gd H
      obtain ⟨t14, h13, e11, H⟩ := b2_el H
      refine J_cV (as := [.retAddr 4]) 9 YX10_takeWord 1 dX10_takeFact_25 moX10_takeWord mvX10_takeWord mlX10_64 g12 rfl (okX10_takeWord (d := d) e11) rfl rfl [] rfl rfl (st2 := [.int t14]) rfl ?_
      refine J_if_eq 33 dX10_takeFact_28 rfl (fun q15 => ?_) (fun q15 => ?_)
      · replace H := br1 q15 H
        refine J_aload_n 0 dX10_takeFact_33 rfl rfl ?_
        refine J_lS (tx := "words") dX10_takeFact_34 20 (by decide +kernel) ?_
        obtain ⟨g17, H⟩ := gd H
        obtain ⟨t19, h18, e16, H⟩ := b2_el H
        refine J_cV (as := [.retAddr 20]) 9 YX10_takeWord 1 dX10_takeFact_36 moX10_takeWord mvX10_takeWord mlX10_64 g17 rfl (okX10_takeWord (d := d) e16) rfl rfl [] rfl rfl (st2 := [.int t19]) rfl ?_
        refine J_if_eq 44 dX10_takeFact_39 rfl (fun q20 => ?_) (fun q20 => ?_)
        · replace H := br1 q20 H
          refine J_aload_n 0 dX10_takeFact_44 rfl rfl ?_
          refine J_lS (tx := "bits") dX10_takeFact_45 2 (by decide +kernel) ?_
          obtain ⟨g22, H⟩ := gd H
          obtain ⟨t24, h23, e21, H⟩ := b2_el H
          refine J_cV (as := [.retAddr 2]) 9 YX10_takeWord 1 dX10_takeFact_47 moX10_takeWord mvX10_takeWord mlX10_64 g22 rfl (okX10_takeWord (d := d) e21) rfl rfl [] rfl rfl (st2 := [.int t24]) rfl ?_
          refine J_if_eq 55 dX10_takeFact_50 rfl (fun q25 => ?_) (fun q25 => ?_)
          · replace H := br1 q25 H
            refine J_aload_n 0 dX10_takeFact_55 rfl rfl ?_
            refine J_lS (tx := "due") dX10_takeFact_56 5 (by decide +kernel) ?_
            obtain ⟨g27, H⟩ := gd H
            obtain ⟨t29, h28, e26, H⟩ := b2_el H
            refine J_cV (as := [.retAddr 5]) 9 YX10_takeWord 1 dX10_takeFact_58 moX10_takeWord mvX10_takeWord mlX10_64 g27 rfl (okX10_takeWord (d := d) e26) rfl rfl [] rfl rfl (st2 := [.int t29]) rfl ?_
            refine J_if_eq 66 dX10_takeFact_61 rfl (fun q30 => ?_) (fun q30 => ?_)
            · replace H := br1 q30 H
              refine J_aload_n 0 dX10_takeFact_66 rfl rfl ?_
              refine J_lS (tx := "minute") dX10_takeFact_67 14 (by decide +kernel) ?_
              obtain ⟨g32, H⟩ := gd H
              obtain ⟨t34, h33, e31, H⟩ := b2_el H
              refine J_cV (as := [.retAddr 14]) 9 YX10_takeWord 1 dX10_takeFact_69 moX10_takeWord mvX10_takeWord mlX10_64 g32 rfl (okX10_takeWord (d := d) e31) rfl rfl [] rfl rfl (st2 := [.int t34]) rfl ?_
              refine J_if_eq 78 dX10_takeFact_72 rfl (fun q35 => ?_) (fun q35 => ?_)
              · replace H := br1 q35 H
                refine J_aload_n 0 dX10_takeFact_78 rfl rfl ?_
                refine J_lS (tx := "letters") dX10_takeFact_79 11 (by decide +kernel) ?_
                obtain ⟨g37, H⟩ := gd H
                obtain ⟨t39, h38, e36, H⟩ := b2_el H
                refine J_cV (as := [.retAddr 11]) 9 YX10_takeWord 1 dX10_takeFact_81 moX10_takeWord mvX10_takeWord mlX10_64 g37 rfl (okX10_takeWord (d := d) e36) rfl rfl [] rfl rfl (st2 := [.int t39]) rfl ?_
                refine J_if_eq 90 dX10_takeFact_84 rfl (fun q40 => ?_) (fun q40 => ?_)
                · replace H := br1 q40 H
                  refine J_aload_n 0 dX10_takeFact_90 rfl rfl ?_
                  refine J_lS (tx := "machine") dX10_takeFact_91 12 (by decide +kernel) ?_
                  obtain ⟨g42, H⟩ := gd H
                  obtain ⟨t44, h43, e41, H⟩ := b2_el H
                  refine J_cV (as := [.retAddr 12]) 9 YX10_takeWord 1 dX10_takeFact_93 moX10_takeWord mvX10_takeWord mlX10_64 g42 rfl (okX10_takeWord (d := d) e41) rfl rfl [] rfl rfl (st2 := [.int t44]) rfl ?_
                  refine J_if_eq 104 dX10_takeFact_96 rfl (fun q45 => ?_) (fun q45 => ?_)
                  · replace H := br1 q45 H
                    refine J_iconst (-1 : Int32) dX10_takeFact_104 kc_m1 ?_
                    cases H
                    exact J_iretI dX10_takeFact_105 rfl
                  · replace H := br0 q45 H
                    refine J_bipush (8 : Int32) dX10_takeFact_99 kb_8 ?_
                    refine J_goto 105 dX10_takeFact_101 rfl ?_
                    cases H
                    exact J_iretI dX10_takeFact_105 rfl
                · replace H := br0 q40 H
                  refine J_bipush (7 : Int32) dX10_takeFact_87 kb_7 ?_
                  cases H
                  exact J_iretI dX10_takeFact_89 rfl
              · replace H := br0 q35 H
                refine J_bipush (6 : Int32) dX10_takeFact_75 kb_6 ?_
                cases H
                exact J_iretI dX10_takeFact_77 rfl
            · replace H := br0 q30 H
              refine J_iconst (5 : Int32) dX10_takeFact_64 kc_5 ?_
              cases H
              exact J_iretI dX10_takeFact_65 rfl
          · replace H := br0 q25 H
            refine J_iconst (4 : Int32) dX10_takeFact_53 kc_4 ?_
            cases H
            exact J_iretI dX10_takeFact_54 rfl
        · replace H := br0 q20 H
          refine J_iconst (3 : Int32) dX10_takeFact_42 kc_3 ?_
          cases H
          exact J_iretI dX10_takeFact_43 rfl
      · replace H := br0 q15 H
        refine J_iconst (2 : Int32) dX10_takeFact_31 kc_2 ?_
        cases H
        exact J_iretI dX10_takeFact_32 rfl
    · replace H := br0 q10 H
      refine J_iconst (1 : Int32) dX10_takeFact_20 kc_1 ?_
      cases H
      exact J_iretI dX10_takeFact_21 rfl
  · replace H := br0 q5 H
    refine J_iconst (0 : Int32) dX10_takeFact_9 kc_0 ?_
    cases H
    exact J_iretI dX10_takeFact_10 rfl
theorem okX10_takeFact {d : Nat} {h : Hp} {v0 : Nat} {r : Int32} {h9 : Hp} (H : MX10_takeFact h v0 = some (r, h9)) : CT (d + 5) YX10_takeFact [.ref v0] h (oI r) h9 := CT_of (by decide +kernel) (Nat.le_of_ble_eq_true rfl) (eX10_takeFact H)
noncomputable def MX10_atom_39 (rc : Nat → Hp → Nat → Int32 → Option (Int32 × Hp)) (h : Hp) (v0 : Nat) (v1 : Int32) (v2 : Int32) (v3 : Int32) : Option (Int32 × Hp) :=
  if v1 < (5 : Int32) then
    if v3 = 0 then
      gg (kd h v0 = 9) <|
      b2 (rc 2 h v0 (v1 + (1 : Int32))) fun t13 h12 =>
      if t13 = 0 then
        some ((0 : Int32), h12)
      else
        gg (kd h12 v0 = 9) <|
        b2 (MX10_takeSign h12 v0 (41 : Int32)) fun t18 h17 =>
        if t18 = 0 then
          gg (kd h17 v0 = 9) <|
          b2 (MX10_failHere h17 v0) fun t23 h22 =>
          if t23 = 0 then
            some ((0 : Int32), h22)
          else
            some ((1 : Int32), h22)
        else
          some ((1 : Int32), h17)
    else
      gg (kd h v0 = 9) <|
      b2 (rc 0 h v0 (v1 + (1 : Int32))) fun t28 h27 =>
      gg (kd h27 v0 = 9) <|
      gg (kd h27 (gP h27 v0 5) = 8) <|
      Option.bind (MX9_addCode h27 (gP h27 v0 5) (29 : Int32) (0 : Int32)) fun h32 =>
      gg (zOk t28 = true) <|
      some (t28, h32)
  else
    gg (kd h v0 = 9) <|
    lt (sI h v0 2 v2) fun h35 =>
    b2 (MX10_failHere h35 v0) fun t42 h41 =>
    gg (zOk t42 = true) <|
    some (t42, h41)
set_option maxRecDepth 100000 in
set_option maxHeartbeats 8000000 in
theorem kX10_atom_39 {d u : Nat} {rc : Nat → Hp → Nat → Int32 → Option (Int32 × Hp)} {h : Hp} {v0 : Nat} {v1 : Int32} {v2 : Int32} {v3 : Int32} {r : Int32} {h9 : Hp} (hrc : ∀ (t : Nat) (h : Hp) (a0 : Nat) (a1 : Int32) (r1 : Int32) (h1 : Hp), rc t h a0 a1 = some (r1, h1) → CT (d + u + 5) (YgX10_atom t) [.ref a0, .int a1] h (oI r1) h1) (H : MX10_atom_39 rc h v0 v1 v2 v3 = some (r, h9)) : J (d + u + 5 + 1) YX10_atom 39 [.ref v0, .int v1, .int v2, .int v3, Value.null] [] h (oI r) h9 := by
  unfold MX10_atom_39 at H
  refine J_iload_n 1 dX10_atom_39 rfl rfl ?_
  refine J_iconst (5 : Int32) dX10_atom_40 kc_5 ?_
  refine J_icmp_lt 54 dX10_atom_41 rfl (fun q8 => ?_) (fun q8 => ?_)
  · replace H := br1 q8 H
    refine J_iload_n 3 dX10_atom_54 rfl rfl ?_
    refine J_if_eq 80 dX10_atom_55 rfl (fun q9 => ?_) (fun q9 => ?_)
    · replace H := br1 q9 H
      refine J_aload_n 0 dX10_atom_80 rfl rfl ?_
      refine J_iload_n 1 dX10_atom_81 rfl rfl ?_
      refine J_iconst (1 : Int32) dX10_atom_82 kc_1 ?_
      refine J_iadd dX10_atom_83 ?_
      obtain ⟨g11, H⟩ := gd H
      obtain ⟨t13, h12, e10, H⟩ := b2_el H
      refine J_cV (as := [.int (v1 + (1 : Int32))]) 9 YX10_either 1 dX10_atom_84 moX10_either mvX10_either mlX10_74 g11 rfl (hrc 2 _ _ _ _ _ e10) rfl rfl [] rfl rfl (st2 := [.int t13]) rfl ?_
      refine J_if_eq 110 dX10_atom_87 rfl (fun q14 => ?_) (fun q14 => ?_)
      · replace H := br1 q14 H
        refine J_iconst (0 : Int32) dX10_atom_110 kc_0 ?_
        cases H
        exact J_rZ dX10_atom_111 rfl rfl
      · replace H := br0 q14 H
        refine J_aload_n 0 dX10_atom_90 rfl rfl ?_
        refine J_bipush (41 : Int32) dX10_atom_91 kb_41 ?_
        obtain ⟨g16, H⟩ := gd H
        obtain ⟨t18, h17, e15, H⟩ := b2_el H
        refine J_cV (as := [.int (41 : Int32)]) 9 YX10_takeSign 1 dX10_atom_93 moX10_takeSign mvX10_takeSign mlX10_55 g16 rfl (okX10_takeSign (d := d + u + 5) e15) rfl rfl [] rfl rfl (st2 := [.int t18]) rfl ?_
        refine J_if_ne 106 dX10_atom_96 rfl (fun q19 => ?_) (fun q19 => ?_)
        · replace H := br0 q19 H
          refine J_iconst (1 : Int32) dX10_atom_106 kc_1 ?_
          refine J_goto 111 dX10_atom_107 rfl ?_
          cases H
          exact J_rZ dX10_atom_111 rfl rfl
        · replace H := br1 q19 H
          refine J_aload_n 0 dX10_atom_99 rfl rfl ?_
          obtain ⟨g21, H⟩ := gd H
          obtain ⟨t23, h22, e20, H⟩ := b2_el H
          refine J_cV (as := []) 9 YX10_failHere 0 dX10_atom_100 moX10_failHere mvX10_failHere mlX10_59 g21 rfl (okX10_failHere (d := d + u + 5) e20) rfl rfl [] rfl rfl (st2 := [.int t23]) rfl ?_
          refine J_if_eq 110 dX10_atom_103 rfl (fun q24 => ?_) (fun q24 => ?_)
          · replace H := br1 q24 H
            refine J_iconst (0 : Int32) dX10_atom_110 kc_0 ?_
            cases H
            exact J_rZ dX10_atom_111 rfl rfl
          · replace H := br0 q24 H
            refine J_iconst (1 : Int32) dX10_atom_106 kc_1 ?_
            refine J_goto 111 dX10_atom_107 rfl ?_
            cases H
            exact J_rZ dX10_atom_111 rfl rfl
    · replace H := br0 q9 H
      refine J_aload_n 0 dX10_atom_58 rfl rfl ?_
      refine J_iload_n 1 dX10_atom_59 rfl rfl ?_
      refine J_iconst (1 : Int32) dX10_atom_60 kc_1 ?_
      refine J_iadd dX10_atom_61 ?_
      obtain ⟨g26, H⟩ := gd H
      obtain ⟨t28, h27, e25, H⟩ := b2_el H
      refine J_cV (as := [.int (v1 + (1 : Int32))]) 9 YX10_atom 1 dX10_atom_62 moX10_atom mvX10_atom mlX10_112 g26 rfl (hrc 0 _ _ _ _ _ e25) rfl rfl [] rfl rfl (st2 := [.int t28]) rfl ?_
      refine J_istore dX10_atom_65 (by decide) (ls' := [.ref v0, .int v1, .int v2, .int v3, .int t28]) rfl ?_
      refine J_aload_n 0 dX10_atom_67 rfl rfl ?_
      obtain ⟨g29, H⟩ := gd H
      refine J_gP 9 5 dX10_atom_68 g29 flX10_28 rfl rfl ?_
      refine J_bipush (29 : Int32) dX10_atom_71 kb_29 ?_
      refine J_iconst (0 : Int32) dX10_atom_73 kc_0 ?_
      obtain ⟨g31, H⟩ := gd H
      obtain ⟨h32, e30, H⟩ := bd H
      refine J_cV (as := [.int (29 : Int32), .int (0 : Int32)]) 8 YX9_addCode 2 dX10_atom_74 moX9_addCode mvX9_addCode mlX10_108 g31 rfl (okX9_addCode (d := d + u + 5) e30) rfl rfl [] rfl rfl (st2 := []) rfl ?_
      refine J_iload dX10_atom_77 rfl ?_
      obtain ⟨g33, H⟩ := gd H
      cases H
      exact J_rZ dX10_atom_79 rfl g33
  · replace H := br0 q8 H
    refine J_aload_n 0 dX10_atom_44 rfl rfl ?_
    refine J_iload_n 2 dX10_atom_45 rfl rfl ?_
    obtain ⟨g34, H⟩ := gd H
    obtain ⟨h35, e36, H⟩ := lt_el H
    refine J_pI 9 2 dX10_atom_46 g34 flX10_15 rfl rfl e36 ?_
    have c37 := ekI e36
    have c38 := elI e36
    have c39 := epI e36
    refine J_aload_n 0 dX10_atom_49 rfl rfl ?_
    obtain ⟨t42, h41, e40, H⟩ := b2_el H
    refine J_cV (as := []) 9 YX10_failHere 0 dX10_atom_50 moX10_failHere mvX10_failHere mlX10_59 (kq c37 g34) rfl (okX10_failHere (d := d + u + 5) e40) rfl rfl [] rfl rfl (st2 := [.int t42]) rfl ?_
    obtain ⟨g43, H⟩ := gd H
    cases H
    exact J_rZ dX10_atom_53 rfl g43
noncomputable def BX10_atom (rc : Nat → Hp → Nat → Int32 → Option (Int32 × Hp)) (h : Hp) (v0 : Nat) (v1 : Int32) : Option (Int32 × Hp) :=
  gg (kd h v0 = 9) <|
  gg (kd h (gP h v0 4) = 20) <|
  gg (inB (gI h v0 2) (ln h (gP h v0 4)) = true) <|
  b2 (MX10_takeWord h v0 15) fun t6 h5 =>
  if t6 = 0 then
    gg (kd h5 v0 = 9) <|
    b2 (MX10_takeSign h5 v0 (40 : Int32)) fun t47 h46 =>
    if t47 = 0 then
      gg (kd h46 v0 = 9) <|
      b2 (MX10_takeFact h46 v0) fun t52 h51 =>
      gg (kd h51 v0 = 9) <|
      b2 (MX10_tagOrComparison h51 v0 t52) fun t56 h55 =>
      gg (zOk t56 = true) <|
      some (t56, h55)
    else
      MX10_atom_39 rc h46 v0 v1 (gI h (gP h v0 4) (gI h v0 2).toNatClampNeg) t6
  else
    MX10_atom_39 rc h5 v0 v1 (gI h (gP h v0 4) (gI h v0 2).toNatClampNeg) t6
set_option maxRecDepth 100000 in
set_option maxHeartbeats 8000000 in
theorem eX10_atom {d u : Nat} {rc : Nat → Hp → Nat → Int32 → Option (Int32 × Hp)} {h : Hp} {v0 : Nat} {v1 : Int32} {r : Int32} {h9 : Hp} (hrc : ∀ (t : Nat) (h : Hp) (a0 : Nat) (a1 : Int32) (r1 : Int32) (h1 : Hp), rc t h a0 a1 = some (r1, h1) → CT (d + u + 5) (YgX10_atom t) [.ref a0, .int a1] h (oI r1) h1) (H : BX10_atom rc h v0 v1 = some (r, h9)) : J (d + u + 5 + 1) YX10_atom 0 [.ref v0, .int v1, Value.null, Value.null, Value.null] [] h (oI r) h9 := by
  unfold BX10_atom at H
  refine J_aload_n 0 dX10_atom_0 rfl rfl ?_
  obtain ⟨g1, H⟩ := gd H
  refine J_gP 9 4 dX10_atom_1 g1 flX10_21 rfl rfl ?_
  refine J_aload_n 0 dX10_atom_4 rfl rfl ?_
  refine J_getI 9 2 dX10_atom_5 g1 flX10_15 rfl ?_
  obtain ⟨g2, H⟩ := gd H
  obtain ⟨g3, H⟩ := gd H
  refine J_iald dX10_atom_8 g2 (inB_ok g3) ?_
  refine J_istore_n 2 dX10_atom_9 rfl (by decide) (ls' := [.ref v0, .int v1, .int (gI h (gP h v0 4) (gI h v0 2).toNatClampNeg), Value.null, Value.null]) rfl ?_
  refine J_aload_n 0 dX10_atom_10 rfl rfl ?_
  refine J_lS (tx := "not") dX10_atom_11 15 (by decide +kernel) ?_
  obtain ⟨t6, h5, e4, H⟩ := b2_el H
  refine J_cV (as := [.retAddr 15]) 9 YX10_takeWord 1 dX10_atom_13 moX10_takeWord mvX10_takeWord mlX10_64 g1 rfl (okX10_takeWord (d := d + u + 1) e4) rfl rfl [] rfl rfl (st2 := [.int t6]) rfl ?_
  refine J_istore_n 3 dX10_atom_16 rfl (by decide) (ls' := [.ref v0, .int v1, .int (gI h (gP h v0 4) (gI h v0 2).toNatClampNeg), .int t6, Value.null]) rfl ?_
  refine J_iload_n 3 dX10_atom_17 rfl rfl ?_
  refine J_if_ne 39 dX10_atom_18 rfl (fun q7 => ?_) (fun q7 => ?_)
  · replace H := br0 q7 H
    exact J_dr (kX10_atom_39 hrc H ) ⟨rfl, ⟨rfl, ⟨rfl, ⟨rfl, trivial⟩⟩⟩⟩
  · replace H := br1 q7 H
    refine J_aload_n 0 dX10_atom_21 rfl rfl ?_
    refine J_bipush (40 : Int32) dX10_atom_22 kb_40 ?_
    obtain ⟨g45, H⟩ := gd H
    obtain ⟨t47, h46, e44, H⟩ := b2_el H
    refine J_cV (as := [.int (40 : Int32)]) 9 YX10_takeSign 1 dX10_atom_24 moX10_takeSign mvX10_takeSign mlX10_55 g45 rfl (okX10_takeSign (d := d + u + 5) e44) rfl rfl [] rfl rfl (st2 := [.int t47]) rfl ?_
    refine J_if_ne 39 dX10_atom_27 rfl (fun q48 => ?_) (fun q48 => ?_)
    · replace H := br0 q48 H
      exact J_dr (kX10_atom_39 hrc H ) ⟨rfl, ⟨rfl, ⟨rfl, ⟨rfl, trivial⟩⟩⟩⟩
    · replace H := br1 q48 H
      refine J_aload_n 0 dX10_atom_30 rfl rfl ?_
      refine J_aload_n 0 dX10_atom_31 rfl rfl ?_
      obtain ⟨g50, H⟩ := gd H
      obtain ⟨t52, h51, e49, H⟩ := b2_el H
      refine J_cV (as := []) 9 YX10_takeFact 0 dX10_atom_32 moX10_takeFact mvX10_takeFact mlX10_119 g50 rfl (okX10_takeFact (d := d + u) e49) rfl rfl [.ref v0] rfl rfl (st2 := [.int t52, .ref v0]) rfl ?_
      obtain ⟨g54, H⟩ := gd H
      obtain ⟨t56, h55, e53, H⟩ := b2_el H
      refine J_cV (as := [.int t52]) 9 YX10_tagOrComparison 1 dX10_atom_35 moX10_tagOrComparison mvX10_tagOrComparison mlX10_123 g54 rfl (okX10_tagOrComparison (d := d + u + 4) e53) rfl rfl [] rfl rfl (st2 := [.int t56]) rfl ?_
      obtain ⟨g57, H⟩ := gd H
      cases H
      exact J_rZ dX10_atom_38 rfl g57
noncomputable def BX10_every_12 (rc : Nat → Hp → Nat → Int32 → Option (Int32 × Hp)) (h : Hp) (v0 : Nat) (v1 : Int32) (v2 : Int32) : Option ((Int32 × Hp) ⊕ (Int32 × Hp)) :=
  gg (kd h v0 = 9) <|
  if (gI h v0 1) ≤ v2 then
    some (.inr (((1 : Int32), h)))
  else
    b2 (MX10_takeWord h v0 0) fun t10 h9 =>
    if t10 = 0 then
      some (.inr (((1 : Int32), h9)))
    else
      gg (kd h9 v0 = 9) <|
      b2 (rc 0 h9 v0 v1) fun t15 h14 =>
      if t15 = 0 then
        some (.inr (((0 : Int32), h14)))
      else
        gg (kd h14 v0 = 9) <|
        gg (kd h14 (gP h14 v0 5) = 8) <|
        Option.bind (MX9_addCode h14 (gP h14 v0 5) (27 : Int32) (0 : Int32)) fun h20 =>
        some (.inl ((v2 + (1 : Int32)), h20))
set_option maxRecDepth 100000 in
set_option maxHeartbeats 8000000 in
theorem bX10_every_12 {d u : Nat} {rc : Nat → Hp → Nat → Int32 → Option (Int32 × Hp)} {h : Hp} {v0 : Nat} {v1 : Int32} {v2 : Int32} {r : Int32} {h9 : Hp} {x : ((Int32 × Hp) ⊕ (Int32 × Hp))} (hrc : ∀ (t : Nat) (h : Hp) (a0 : Nat) (a1 : Int32) (r1 : Int32) (h1 : Hp), rc t h a0 a1 = some (r1, h1) → CT (d + u + 5) (YgX10_atom t) [.ref a0, .int a1] h (oI r1) h1) (H : BX10_every_12 rc h v0 v1 v2 = some x) (hb0 : ∀ s : Int32 × Hp, x = .inl s → J (d + u + 5 + 1) YX10_every 12 [.ref v0, .int v1, .int s.1] [] s.2 (oI r) h9) (hx : ∀ z : (Int32 × Hp), x = .inr (z) → z = (r, h9)) : J (d + u + 5 + 1) YX10_every 12 [.ref v0, .int v1, .int v2] [] h (oI r) h9 := by
  unfold BX10_every_12 at H
  refine J_iload_n 2 dX10_every_12 rfl rfl ?_
  refine J_aload_n 0 dX10_every_13 rfl rfl ?_
  obtain ⟨g6, H⟩ := gd H
  refine J_getI 9 1 dX10_every_14 g6 flX10_9 rfl ?_
  refine J_icmp_ge 55 dX10_every_17 rfl (fun q7 => ?_) (fun q7 => ?_)
  · replace H := br1 q7 H
    refine J_iconst (1 : Int32) dX10_every_55 kc_1 ?_
    cases H
    cases hx _ rfl
    exact J_rZ dX10_every_56 rfl rfl
  · replace H := br0 q7 H
    refine J_aload_n 0 dX10_every_20 rfl rfl ?_
    refine J_lS (tx := "and") dX10_every_21 0 (by decide +kernel) ?_
    obtain ⟨t10, h9, e8, H⟩ := b2_el H
    refine J_cV (as := [.retAddr 0]) 9 YX10_takeWord 1 dX10_every_23 moX10_takeWord mvX10_takeWord mlX10_64 g6 rfl (okX10_takeWord (d := d + u + 1) e8) rfl rfl [] rfl rfl (st2 := [.int t10]) rfl ?_
    refine J_if_eq 55 dX10_every_26 rfl (fun q11 => ?_) (fun q11 => ?_)
    · replace H := br1 q11 H
      refine J_iconst (1 : Int32) dX10_every_55 kc_1 ?_
      cases H
      cases hx _ rfl
      exact J_rZ dX10_every_56 rfl rfl
    · replace H := br0 q11 H
      refine J_aload_n 0 dX10_every_29 rfl rfl ?_
      refine J_iload_n 1 dX10_every_30 rfl rfl ?_
      obtain ⟨g13, H⟩ := gd H
      obtain ⟨t15, h14, e12, H⟩ := b2_el H
      refine J_cV (as := [.int v1]) 9 YX10_atom 1 dX10_every_31 moX10_atom mvX10_atom mlX10_112 g13 rfl (hrc 0 _ _ _ _ _ e12) rfl rfl [] rfl rfl (st2 := [.int t15]) rfl ?_
      refine J_if_ne 39 dX10_every_34 rfl (fun q16 => ?_) (fun q16 => ?_)
      · replace H := br0 q16 H
        refine J_aload_n 0 dX10_every_39 rfl rfl ?_
        obtain ⟨g17, H⟩ := gd H
        refine J_gP 9 5 dX10_every_40 g17 flX10_28 rfl rfl ?_
        refine J_bipush (27 : Int32) dX10_every_43 kb_27 ?_
        refine J_iconst (0 : Int32) dX10_every_45 kc_0 ?_
        obtain ⟨g19, H⟩ := gd H
        obtain ⟨h20, e18, H⟩ := bd H
        refine J_cV (as := [.int (27 : Int32), .int (0 : Int32)]) 8 YX9_addCode 2 dX10_every_46 moX9_addCode mvX9_addCode mlX10_108 g19 rfl (okX9_addCode (d := d + u + 5) e18) rfl rfl [] rfl rfl (st2 := []) rfl ?_
        refine J_iinc (v2 + (1 : Int32)) dX10_every_49 rfl (congrArg (HAdd.hAdd v2) kc_1) (by decide) (ls' := [.ref v0, .int v1, .int (v2 + (1 : Int32))]) rfl ?_
        refine J_goto 12 dX10_every_52 rfl ?_
        cases H
        exact J_dr (hb0 _ rfl) ⟨rfl, ⟨rfl, ⟨rfl, trivial⟩⟩⟩
      · replace H := br1 q16 H
        refine J_iconst (0 : Int32) dX10_every_37 kc_0 ?_
        cases H
        cases hx _ rfl
        exact J_rZ dX10_every_38 rfl rfl
noncomputable def MX10_every_12 (rc : Nat → Hp → Nat → Int32 → Option (Int32 × Hp)) (h : Hp) (v0 : Nat) (v1 : Int32) (v2 : Int32) : Option (Int32 × Hp) := it (fun q : Int32 × Hp => BX10_every_12 rc q.2 v0 v1 q.1) (v2, h)
set_option maxRecDepth 100000 in
set_option maxHeartbeats 8000000 in
theorem kX10_every_12 {d u : Nat} {rc : Nat → Hp → Nat → Int32 → Option (Int32 × Hp)} {h : Hp} {v0 : Nat} {v1 : Int32} {v2 : Int32} {r : Int32} {h9 : Hp} (hrc : ∀ (t : Nat) (h : Hp) (a0 : Nat) (a1 : Int32) (r1 : Int32) (h1 : Hp), rc t h a0 a1 = some (r1, h1) → CT (d + u + 5) (YgX10_atom t) [.ref a0, .int a1] h (oI r1) h1) (H : MX10_every_12 rc h v0 v1 v2 = some (r, h9)) : J (d + u + 5 + 1) YX10_every 12 [.ref v0, .int v1, .int v2] [] h (oI r) h9 := by
  unfold MX10_every_12 at H
  refine it_J (G := (fun q : Int32 × Hp => J (d + u + 5 + 1) YX10_every 12 [.ref v0, .int v1, .int q.1] [] q.2 (oI r) h9)) (Q := (fun y : (Int32 × Hp) => y = (r, h9))) (fun q x Hq hm => ?_) H rfl
  exact bX10_every_12 hrc Hq (fun s hs => by subst hs; exact hm) (fun z hz => by subst hz; exact hm)
noncomputable def BX10_every (rc : Nat → Hp → Nat → Int32 → Option (Int32 × Hp)) (h : Hp) (v0 : Nat) (v1 : Int32) : Option (Int32 × Hp) :=
  gg (kd h v0 = 9) <|
  b2 (rc 0 h v0 v1) fun t4 h3 =>
  if t4 = 0 then
    some ((0 : Int32), h3)
  else
    MX10_every_12 rc h3 v0 v1 (0 : Int32)
set_option maxRecDepth 100000 in
set_option maxHeartbeats 8000000 in
theorem eX10_every {d u : Nat} {rc : Nat → Hp → Nat → Int32 → Option (Int32 × Hp)} {h : Hp} {v0 : Nat} {v1 : Int32} {r : Int32} {h9 : Hp} (hrc : ∀ (t : Nat) (h : Hp) (a0 : Nat) (a1 : Int32) (r1 : Int32) (h1 : Hp), rc t h a0 a1 = some (r1, h1) → CT (d + u + 5) (YgX10_atom t) [.ref a0, .int a1] h (oI r1) h1) (H : BX10_every rc h v0 v1 = some (r, h9)) : J (d + u + 5 + 1) YX10_every 0 [.ref v0, .int v1, Value.null] [] h (oI r) h9 := by
  unfold BX10_every at H
  refine J_aload_n 0 dX10_every_0 rfl rfl ?_
  refine J_iload_n 1 dX10_every_1 rfl rfl ?_
  obtain ⟨g2, H⟩ := gd H
  obtain ⟨t4, h3, e1, H⟩ := b2_el H
  refine J_cV (as := [.int v1]) 9 YX10_atom 1 dX10_every_2 moX10_atom mvX10_atom mlX10_112 g2 rfl (hrc 0 _ _ _ _ _ e1) rfl rfl [] rfl rfl (st2 := [.int t4]) rfl ?_
  refine J_if_ne 10 dX10_every_5 rfl (fun q5 => ?_) (fun q5 => ?_)
  · replace H := br0 q5 H
    refine J_iconst (0 : Int32) dX10_every_10 kc_0 ?_
    refine J_istore_n 2 dX10_every_11 rfl (by decide) (ls' := [.ref v0, .int v1, .int (0 : Int32)]) rfl ?_
    exact J_dr (kX10_every_12 hrc H ) ⟨rfl, ⟨rfl, ⟨rfl, trivial⟩⟩⟩
  · replace H := br1 q5 H
    refine J_iconst (0 : Int32) dX10_every_8 kc_0 ?_
    cases H
    exact J_rZ dX10_every_9 rfl rfl
noncomputable def BX10_either_12 (rc : Nat → Hp → Nat → Int32 → Option (Int32 × Hp)) (h : Hp) (v0 : Nat) (v1 : Int32) (v2 : Int32) : Option ((Int32 × Hp) ⊕ (Int32 × Hp)) :=
  gg (kd h v0 = 9) <|
  if (gI h v0 1) ≤ v2 then
    some (.inr (((1 : Int32), h)))
  else
    b2 (MX10_takeWord h v0 16) fun t10 h9 =>
    if t10 = 0 then
      some (.inr (((1 : Int32), h9)))
    else
      gg (kd h9 v0 = 9) <|
      b2 (rc 1 h9 v0 v1) fun t15 h14 =>
      if t15 = 0 then
        some (.inr (((0 : Int32), h14)))
      else
        gg (kd h14 v0 = 9) <|
        gg (kd h14 (gP h14 v0 5) = 8) <|
        Option.bind (MX9_addCode h14 (gP h14 v0 5) (28 : Int32) (0 : Int32)) fun h20 =>
        some (.inl ((v2 + (1 : Int32)), h20))
set_option maxRecDepth 100000 in
set_option maxHeartbeats 8000000 in
theorem bX10_either_12 {d u : Nat} {rc : Nat → Hp → Nat → Int32 → Option (Int32 × Hp)} {h : Hp} {v0 : Nat} {v1 : Int32} {v2 : Int32} {r : Int32} {h9 : Hp} {x : ((Int32 × Hp) ⊕ (Int32 × Hp))} (hrc : ∀ (t : Nat) (h : Hp) (a0 : Nat) (a1 : Int32) (r1 : Int32) (h1 : Hp), rc t h a0 a1 = some (r1, h1) → CT (d + u + 5) (YgX10_atom t) [.ref a0, .int a1] h (oI r1) h1) (H : BX10_either_12 rc h v0 v1 v2 = some x) (hb0 : ∀ s : Int32 × Hp, x = .inl s → J (d + u + 5 + 1) YX10_either 12 [.ref v0, .int v1, .int s.1] [] s.2 (oI r) h9) (hx : ∀ z : (Int32 × Hp), x = .inr (z) → z = (r, h9)) : J (d + u + 5 + 1) YX10_either 12 [.ref v0, .int v1, .int v2] [] h (oI r) h9 := by
  unfold BX10_either_12 at H
  refine J_iload_n 2 dX10_either_12 rfl rfl ?_
  refine J_aload_n 0 dX10_either_13 rfl rfl ?_
  obtain ⟨g6, H⟩ := gd H
  refine J_getI 9 1 dX10_either_14 g6 flX10_9 rfl ?_
  refine J_icmp_ge 55 dX10_either_17 rfl (fun q7 => ?_) (fun q7 => ?_)
  · replace H := br1 q7 H
    refine J_iconst (1 : Int32) dX10_either_55 kc_1 ?_
    cases H
    cases hx _ rfl
    exact J_rZ dX10_either_56 rfl rfl
  · replace H := br0 q7 H
    refine J_aload_n 0 dX10_either_20 rfl rfl ?_
    refine J_lS (tx := "or") dX10_either_21 16 (by decide +kernel) ?_
    obtain ⟨t10, h9, e8, H⟩ := b2_el H
    refine J_cV (as := [.retAddr 16]) 9 YX10_takeWord 1 dX10_either_23 moX10_takeWord mvX10_takeWord mlX10_64 g6 rfl (okX10_takeWord (d := d + u + 1) e8) rfl rfl [] rfl rfl (st2 := [.int t10]) rfl ?_
    refine J_if_eq 55 dX10_either_26 rfl (fun q11 => ?_) (fun q11 => ?_)
    · replace H := br1 q11 H
      refine J_iconst (1 : Int32) dX10_either_55 kc_1 ?_
      cases H
      cases hx _ rfl
      exact J_rZ dX10_either_56 rfl rfl
    · replace H := br0 q11 H
      refine J_aload_n 0 dX10_either_29 rfl rfl ?_
      refine J_iload_n 1 dX10_either_30 rfl rfl ?_
      obtain ⟨g13, H⟩ := gd H
      obtain ⟨t15, h14, e12, H⟩ := b2_el H
      refine J_cV (as := [.int v1]) 9 YX10_every 1 dX10_either_31 moX10_every mvX10_every mlX10_103 g13 rfl (hrc 1 _ _ _ _ _ e12) rfl rfl [] rfl rfl (st2 := [.int t15]) rfl ?_
      refine J_if_ne 39 dX10_either_34 rfl (fun q16 => ?_) (fun q16 => ?_)
      · replace H := br0 q16 H
        refine J_aload_n 0 dX10_either_39 rfl rfl ?_
        obtain ⟨g17, H⟩ := gd H
        refine J_gP 9 5 dX10_either_40 g17 flX10_28 rfl rfl ?_
        refine J_bipush (28 : Int32) dX10_either_43 kb_28 ?_
        refine J_iconst (0 : Int32) dX10_either_45 kc_0 ?_
        obtain ⟨g19, H⟩ := gd H
        obtain ⟨h20, e18, H⟩ := bd H
        refine J_cV (as := [.int (28 : Int32), .int (0 : Int32)]) 8 YX9_addCode 2 dX10_either_46 moX9_addCode mvX9_addCode mlX10_108 g19 rfl (okX9_addCode (d := d + u + 5) e18) rfl rfl [] rfl rfl (st2 := []) rfl ?_
        refine J_iinc (v2 + (1 : Int32)) dX10_either_49 rfl (congrArg (HAdd.hAdd v2) kc_1) (by decide) (ls' := [.ref v0, .int v1, .int (v2 + (1 : Int32))]) rfl ?_
        refine J_goto 12 dX10_either_52 rfl ?_
        cases H
        exact J_dr (hb0 _ rfl) ⟨rfl, ⟨rfl, ⟨rfl, trivial⟩⟩⟩
      · replace H := br1 q16 H
        refine J_iconst (0 : Int32) dX10_either_37 kc_0 ?_
        cases H
        cases hx _ rfl
        exact J_rZ dX10_either_38 rfl rfl
noncomputable def MX10_either_12 (rc : Nat → Hp → Nat → Int32 → Option (Int32 × Hp)) (h : Hp) (v0 : Nat) (v1 : Int32) (v2 : Int32) : Option (Int32 × Hp) := it (fun q : Int32 × Hp => BX10_either_12 rc q.2 v0 v1 q.1) (v2, h)
set_option maxRecDepth 100000 in
set_option maxHeartbeats 8000000 in
theorem kX10_either_12 {d u : Nat} {rc : Nat → Hp → Nat → Int32 → Option (Int32 × Hp)} {h : Hp} {v0 : Nat} {v1 : Int32} {v2 : Int32} {r : Int32} {h9 : Hp} (hrc : ∀ (t : Nat) (h : Hp) (a0 : Nat) (a1 : Int32) (r1 : Int32) (h1 : Hp), rc t h a0 a1 = some (r1, h1) → CT (d + u + 5) (YgX10_atom t) [.ref a0, .int a1] h (oI r1) h1) (H : MX10_either_12 rc h v0 v1 v2 = some (r, h9)) : J (d + u + 5 + 1) YX10_either 12 [.ref v0, .int v1, .int v2] [] h (oI r) h9 := by
  unfold MX10_either_12 at H
  refine it_J (G := (fun q : Int32 × Hp => J (d + u + 5 + 1) YX10_either 12 [.ref v0, .int v1, .int q.1] [] q.2 (oI r) h9)) (Q := (fun y : (Int32 × Hp) => y = (r, h9))) (fun q x Hq hm => ?_) H rfl
  exact bX10_either_12 hrc Hq (fun s hs => by subst hs; exact hm) (fun z hz => by subst hz; exact hm)
noncomputable def BX10_either (rc : Nat → Hp → Nat → Int32 → Option (Int32 × Hp)) (h : Hp) (v0 : Nat) (v1 : Int32) : Option (Int32 × Hp) :=
  gg (kd h v0 = 9) <|
  b2 (rc 1 h v0 v1) fun t4 h3 =>
  if t4 = 0 then
    some ((0 : Int32), h3)
  else
    MX10_either_12 rc h3 v0 v1 (0 : Int32)
set_option maxRecDepth 100000 in
set_option maxHeartbeats 8000000 in
theorem eX10_either {d u : Nat} {rc : Nat → Hp → Nat → Int32 → Option (Int32 × Hp)} {h : Hp} {v0 : Nat} {v1 : Int32} {r : Int32} {h9 : Hp} (hrc : ∀ (t : Nat) (h : Hp) (a0 : Nat) (a1 : Int32) (r1 : Int32) (h1 : Hp), rc t h a0 a1 = some (r1, h1) → CT (d + u + 5) (YgX10_atom t) [.ref a0, .int a1] h (oI r1) h1) (H : BX10_either rc h v0 v1 = some (r, h9)) : J (d + u + 5 + 1) YX10_either 0 [.ref v0, .int v1, Value.null] [] h (oI r) h9 := by
  unfold BX10_either at H
  refine J_aload_n 0 dX10_either_0 rfl rfl ?_
  refine J_iload_n 1 dX10_either_1 rfl rfl ?_
  obtain ⟨g2, H⟩ := gd H
  obtain ⟨t4, h3, e1, H⟩ := b2_el H
  refine J_cV (as := [.int v1]) 9 YX10_every 1 dX10_either_2 moX10_every mvX10_every mlX10_103 g2 rfl (hrc 1 _ _ _ _ _ e1) rfl rfl [] rfl rfl (st2 := [.int t4]) rfl ?_
  refine J_if_ne 10 dX10_either_5 rfl (fun q5 => ?_) (fun q5 => ?_)
  · replace H := br0 q5 H
    refine J_iconst (0 : Int32) dX10_either_10 kc_0 ?_
    refine J_istore_n 2 dX10_either_11 rfl (by decide) (ls' := [.ref v0, .int v1, .int (0 : Int32)]) rfl ?_
    exact J_dr (kX10_either_12 hrc H ) ⟨rfl, ⟨rfl, ⟨rfl, trivial⟩⟩⟩
  · replace H := br1 q5 H
    refine J_iconst (0 : Int32) dX10_either_8 kc_0 ?_
    cases H
    exact J_rZ dX10_either_9 rfl rfl
def YgX10_atom (t : Nat) : Mt := if t = 0 then YX10_atom else if t = 1 then YX10_every else YX10_either
noncomputable def RX10_atom : Nat → Nat → Hp → Nat → Int32 → Option (Int32 × Hp)
  | 0 => fun _ _ _ _ => none
  | u + 1 => fun t h a0 a1 => if t = 0 then BX10_atom (RX10_atom u) h a0 a1 else if t = 1 then BX10_every (RX10_atom u) h a0 a1 else BX10_either (RX10_atom u) h a0 a1
theorem okRX10_atom (d : Nat) : ∀ (u t : Nat) (h : Hp) (a0 : Nat) (a1 : Int32) (r1 : Int32) (h1 : Hp), RX10_atom u t h a0 a1 = some (r1, h1) → CT (d + u + 5) (YgX10_atom t) [.ref a0, .int a1] h (oI r1) h1 := by
  intro u
  induction u with
  | zero => intro t h a0 a1 r1 h1 H; cases H
  | succ u ih =>
    intro t h a0 a1 r1 h1 H
    simp only [RX10_atom] at H
    by_cases q0 : t = 0
    · subst q0
      exact CT_of (by decide +kernel) (Nat.le_of_ble_eq_true rfl) (eX10_atom (d := d) (u := u) ih H)
    rw [if_neg q0] at H
    by_cases q1 : t = 1
    · subst q1
      exact CT_of (by decide +kernel) (Nat.le_of_ble_eq_true rfl) (eX10_every (d := d) (u := u) ih H)
    rw [if_neg q1] at H
    have eY : YgX10_atom t = YX10_either := by simp only [YgX10_atom]; rw [if_neg q0]; rw [if_neg q1]
    rw [eY]
    exact CT_of (by decide +kernel) (Nat.le_of_ble_eq_true rfl) (eX10_either (d := d) (u := u) ih H)
noncomputable def MX10_atom (u : Nat) (h : Hp) (v0 : Nat) (v1 : Int32) : Option (Int32 × Hp) := RX10_atom u 0 h v0 v1
theorem okX10_atom {d : Nat} {h : Hp} {v0 : Nat} {v1 : Int32} {r : Int32} {h9 : Hp} (H : MX10_atom 30 h v0 v1 = some (r, h9)) : CT (d + 35) YX10_atom [.ref v0, .int v1] h (oI r) h9 := okRX10_atom d 30 0 _ _ _ _ _ H
noncomputable def MX10_every (u : Nat) (h : Hp) (v0 : Nat) (v1 : Int32) : Option (Int32 × Hp) := RX10_atom u 1 h v0 v1
theorem okX10_every {d : Nat} {h : Hp} {v0 : Nat} {v1 : Int32} {r : Int32} {h9 : Hp} (H : MX10_every 30 h v0 v1 = some (r, h9)) : CT (d + 35) YX10_every [.ref v0, .int v1] h (oI r) h9 := okRX10_atom d 30 1 _ _ _ _ _ H
noncomputable def MX10_either (u : Nat) (h : Hp) (v0 : Nat) (v1 : Int32) : Option (Int32 × Hp) := RX10_atom u 2 h v0 v1
theorem okX10_either {d : Nat} {h : Hp} {v0 : Nat} {v1 : Int32} {r : Int32} {h9 : Hp} (H : MX10_either 30 h v0 v1 = some (r, h9)) : CT (d + 35) YX10_either [.ref v0, .int v1] h (oI r) h9 := okRX10_atom d 30 2 _ _ _ _ _ H
noncomputable def MX10_readClose (h : Hp) (v0 : Nat) : Option (Int32 × Hp) :=
  gg (kd h v0 = 9) <|
  b2 (MX10_takeNumber h v0 (0 : Int32) (5 : Int32)) fun t4 h3 =>
  if t4 = (-1 : Int32) then
    some ((0 : Int32), h3)
  else
    gg (kd h3 v0 = 9) <|
    b2 (MX10_takeWord h3 v0 1) fun t9 h8 =>
    if t9 = 0 then
      gg (kd h8 v0 = 9) <|
      b2 (MX10_failHere h8 v0) fun t23 h22 =>
      gg (zOk t23 = true) <|
      some (t23, h22)
    else
      gg (kd h8 v0 = 9) <|
      b2 (MX10_takeNumber h8 v0 (0 : Int32) (600 : Int32)) fun t14 h13 =>
      gg (kd h13 v0 = 9) <|
      gg (kd h13 (gP h13 v0 5) = 8) <|
      Option.bind (MX9_addRule h13 (gP h13 v0 5) (6 : Int32) t4 t14) fun h18 =>
      if t14 = (-1 : Int32) then
        some ((0 : Int32), h18)
      else
        some ((1 : Int32), h18)
set_option maxRecDepth 100000 in
set_option maxHeartbeats 8000000 in
theorem eX10_readClose {d : Nat} {h : Hp} {v0 : Nat} {r : Int32} {h9 : Hp} (H : MX10_readClose h v0 = some (r, h9)) : J (d + 5) YX10_readClose 0 [.ref v0, Value.null, Value.null] [] h (oI r) h9 := by
  unfold MX10_readClose at H
  refine J_aload_n 0 dX10_readClose_0 rfl rfl ?_
  refine J_iconst (0 : Int32) dX10_readClose_1 kc_0 ?_
  refine J_iconst (5 : Int32) dX10_readClose_2 kc_5 ?_
  obtain ⟨g2, H⟩ := gd H
  obtain ⟨t4, h3, e1, H⟩ := b2_el H
  refine J_cV (as := [.int (0 : Int32), .int (5 : Int32)]) 9 YX10_takeNumber 2 dX10_readClose_3 moX10_takeNumber mvX10_takeNumber mlX10_99 g2 rfl (okX10_takeNumber (d := d + 4) e1) rfl rfl [] rfl rfl (st2 := [.int t4]) rfl ?_
  refine J_istore_n 1 dX10_readClose_6 rfl (by decide) (ls' := [.ref v0, .int t4, Value.null]) rfl ?_
  refine J_iload_n 1 dX10_readClose_7 rfl rfl ?_
  refine J_iconst (-1 : Int32) dX10_readClose_8 kc_m1 ?_
  refine J_icmp_ne 14 dX10_readClose_9 rfl (fun q5 => ?_) (fun q5 => ?_)
  · replace H := br0 q5 H
    refine J_aload_n 0 dX10_readClose_14 rfl rfl ?_
    refine J_lS (tx := "at") dX10_readClose_15 1 (by decide +kernel) ?_
    obtain ⟨g7, H⟩ := gd H
    obtain ⟨t9, h8, e6, H⟩ := b2_el H
    refine J_cV (as := [.retAddr 1]) 9 YX10_takeWord 1 dX10_readClose_17 moX10_takeWord mvX10_takeWord mlX10_64 g7 rfl (okX10_takeWord (d := d) e6) rfl rfl [] rfl rfl (st2 := [.int t9]) rfl ?_
    refine J_if_ne 28 dX10_readClose_20 rfl (fun q10 => ?_) (fun q10 => ?_)
    · replace H := br0 q10 H
      refine J_aload_n 0 dX10_readClose_28 rfl rfl ?_
      refine J_iconst (0 : Int32) dX10_readClose_29 kc_0 ?_
      refine J_sipush (600 : Int32) dX10_readClose_30 ks_600 ?_
      obtain ⟨g12, H⟩ := gd H
      obtain ⟨t14, h13, e11, H⟩ := b2_el H
      refine J_cV (as := [.int (0 : Int32), .int (600 : Int32)]) 9 YX10_takeNumber 2 dX10_readClose_33 moX10_takeNumber mvX10_takeNumber mlX10_99 g12 rfl (okX10_takeNumber (d := d + 4) e11) rfl rfl [] rfl rfl (st2 := [.int t14]) rfl ?_
      refine J_istore_n 2 dX10_readClose_36 rfl (by decide) (ls' := [.ref v0, .int t4, .int t14]) rfl ?_
      refine J_aload_n 0 dX10_readClose_37 rfl rfl ?_
      obtain ⟨g15, H⟩ := gd H
      refine J_gP 9 5 dX10_readClose_38 g15 flX10_28 rfl rfl ?_
      refine J_bipush (6 : Int32) dX10_readClose_41 kb_6 ?_
      refine J_iload_n 1 dX10_readClose_43 rfl rfl ?_
      refine J_iload_n 2 dX10_readClose_44 rfl rfl ?_
      obtain ⟨g17, H⟩ := gd H
      obtain ⟨h18, e16, H⟩ := bd H
      refine J_cV (as := [.int (6 : Int32), .int t4, .int t14]) 8 YX9_addRule 3 dX10_readClose_45 moX9_addRule mvX9_addRule mlX10_90 g17 rfl (okX9_addRule (d := d + 4) e16) rfl rfl [] rfl rfl (st2 := []) rfl ?_
      refine J_iload_n 2 dX10_readClose_48 rfl rfl ?_
      refine J_iconst (-1 : Int32) dX10_readClose_49 kc_m1 ?_
      refine J_icmp_eq 57 dX10_readClose_50 rfl (fun q19 => ?_) (fun q19 => ?_)
      · replace H := br1 q19 H
        refine J_iconst (0 : Int32) dX10_readClose_57 kc_0 ?_
        cases H
        exact J_rZ dX10_readClose_58 rfl rfl
      · replace H := br0 q19 H
        refine J_iconst (1 : Int32) dX10_readClose_53 kc_1 ?_
        refine J_goto 58 dX10_readClose_54 rfl ?_
        cases H
        exact J_rZ dX10_readClose_58 rfl rfl
    · replace H := br1 q10 H
      refine J_aload_n 0 dX10_readClose_23 rfl rfl ?_
      obtain ⟨g21, H⟩ := gd H
      obtain ⟨t23, h22, e20, H⟩ := b2_el H
      refine J_cV (as := []) 9 YX10_failHere 0 dX10_readClose_24 moX10_failHere mvX10_failHere mlX10_59 g21 rfl (okX10_failHere (d := d + 4) e20) rfl rfl [] rfl rfl (st2 := [.int t23]) rfl ?_
      obtain ⟨g24, H⟩ := gd H
      cases H
      exact J_rZ dX10_readClose_27 rfl g24
  · replace H := br1 q5 H
    refine J_iconst (0 : Int32) dX10_readClose_12 kc_0 ?_
    cases H
    exact J_rZ dX10_readClose_13 rfl rfl
theorem okX10_readClose {d : Nat} {h : Hp} {v0 : Nat} {r : Int32} {h9 : Hp} (H : MX10_readClose h v0 = some (r, h9)) : CT (d + 5) YX10_readClose [.ref v0] h (oI r) h9 := CT_of (by decide +kernel) (Nat.le_of_ble_eq_true rfl) (eX10_readClose H)
noncomputable def MX10_readNumbered (h : Hp) (v0 : Nat) (v1 : Int32) (v2 : Int32) (v3 : Int32) : Option (Int32 × Hp) :=
  gg (kd h v0 = 9) <|
  b2 (MX10_takeNumber h v0 v2 v3) fun t4 h3 =>
  gg (kd h3 v0 = 9) <|
  gg (kd h3 (gP h3 v0 5) = 8) <|
  Option.bind (MX9_addRule h3 (gP h3 v0 5) v1 t4 (0 : Int32)) fun h8 =>
  if t4 = (-1 : Int32) then
    some ((0 : Int32), h8)
  else
    some ((1 : Int32), h8)
set_option maxRecDepth 100000 in
set_option maxHeartbeats 8000000 in
theorem eX10_readNumbered {d : Nat} {h : Hp} {v0 : Nat} {v1 : Int32} {v2 : Int32} {v3 : Int32} {r : Int32} {h9 : Hp} (H : MX10_readNumbered h v0 v1 v2 v3 = some (r, h9)) : J (d + 1) YX10_readNumbered 0 [.ref v0, .int v1, .int v2, .int v3, Value.null] [] h (oI r) h9 := by
  unfold MX10_readNumbered at H
  refine J_aload_n 0 dX10_readNumbered_0 rfl rfl ?_
  refine J_iload_n 2 dX10_readNumbered_1 rfl rfl ?_
  refine J_iload_n 3 dX10_readNumbered_2 rfl rfl ?_
  obtain ⟨g2, H⟩ := gd H
  obtain ⟨t4, h3, e1, H⟩ := b2_el H
  refine J_cV (as := [.int v2, .int v3]) 9 YX10_takeNumber 2 dX10_readNumbered_3 moX10_takeNumber mvX10_takeNumber mlX10_99 g2 rfl (okX10_takeNumber (d := d) e1) rfl rfl [] rfl rfl (st2 := [.int t4]) rfl ?_
  refine J_istore dX10_readNumbered_6 (by decide) (ls' := [.ref v0, .int v1, .int v2, .int v3, .int t4]) rfl ?_
  refine J_aload_n 0 dX10_readNumbered_8 rfl rfl ?_
  obtain ⟨g5, H⟩ := gd H
  refine J_gP 9 5 dX10_readNumbered_9 g5 flX10_28 rfl rfl ?_
  refine J_iload_n 1 dX10_readNumbered_12 rfl rfl ?_
  refine J_iload dX10_readNumbered_13 rfl ?_
  refine J_iconst (0 : Int32) dX10_readNumbered_15 kc_0 ?_
  obtain ⟨g7, H⟩ := gd H
  obtain ⟨h8, e6, H⟩ := bd H
  refine J_cV (as := [.int v1, .int t4, .int (0 : Int32)]) 8 YX9_addRule 3 dX10_readNumbered_16 moX9_addRule mvX9_addRule mlX10_90 g7 rfl (okX9_addRule (d := d) e6) rfl rfl [] rfl rfl (st2 := []) rfl ?_
  refine J_iload dX10_readNumbered_19 rfl ?_
  refine J_iconst (-1 : Int32) dX10_readNumbered_21 kc_m1 ?_
  refine J_icmp_eq 29 dX10_readNumbered_22 rfl (fun q9 => ?_) (fun q9 => ?_)
  · replace H := br1 q9 H
    refine J_iconst (0 : Int32) dX10_readNumbered_29 kc_0 ?_
    cases H
    exact J_rZ dX10_readNumbered_30 rfl rfl
  · replace H := br0 q9 H
    refine J_iconst (1 : Int32) dX10_readNumbered_25 kc_1 ?_
    refine J_goto 30 dX10_readNumbered_26 rfl ?_
    cases H
    exact J_rZ dX10_readNumbered_30 rfl rfl
theorem okX10_readNumbered {d : Nat} {h : Hp} {v0 : Nat} {v1 : Int32} {v2 : Int32} {v3 : Int32} {r : Int32} {h9 : Hp} (H : MX10_readNumbered h v0 v1 v2 v3 = some (r, h9)) : CT (d + 1) YX10_readNumbered [.ref v0, .int v1, .int v2, .int v3] h (oI r) h9 := CT_of (by decide +kernel) (Nat.le_of_ble_eq_true rfl) (eX10_readNumbered H)
noncomputable def MX10_readSpace (h : Hp) (v0 : Nat) : Option (Int32 × Hp) :=
  gg (kd h v0 = 9) <|
  b2 (MX10_takeNumber h v0 (1 : Int32) (40 : Int32)) fun t4 h3 =>
  if t4 = (-1 : Int32) then
    some ((0 : Int32), h3)
  else
    gg (kd h3 v0 = 9) <|
    b2 (MX10_takeNumber h3 v0 t4 (40 : Int32)) fun t9 h8 =>
    gg (kd h8 v0 = 9) <|
    gg (kd h8 (gP h8 v0 5) = 8) <|
    Option.bind (MX9_addRule h8 (gP h8 v0 5) (1 : Int32) t4 t9) fun h13 =>
    if t9 = (-1 : Int32) then
      some ((0 : Int32), h13)
    else
      some ((1 : Int32), h13)
set_option maxRecDepth 100000 in
set_option maxHeartbeats 8000000 in
theorem eX10_readSpace {d : Nat} {h : Hp} {v0 : Nat} {r : Int32} {h9 : Hp} (H : MX10_readSpace h v0 = some (r, h9)) : J (d + 1) YX10_readSpace 0 [.ref v0, Value.null, Value.null] [] h (oI r) h9 := by
  unfold MX10_readSpace at H
  refine J_aload_n 0 dX10_readSpace_0 rfl rfl ?_
  refine J_iconst (1 : Int32) dX10_readSpace_1 kc_1 ?_
  refine J_bipush (40 : Int32) dX10_readSpace_2 kb_40 ?_
  obtain ⟨g2, H⟩ := gd H
  obtain ⟨t4, h3, e1, H⟩ := b2_el H
  refine J_cV (as := [.int (1 : Int32), .int (40 : Int32)]) 9 YX10_takeNumber 2 dX10_readSpace_4 moX10_takeNumber mvX10_takeNumber mlX10_99 g2 rfl (okX10_takeNumber (d := d) e1) rfl rfl [] rfl rfl (st2 := [.int t4]) rfl ?_
  refine J_istore_n 1 dX10_readSpace_7 rfl (by decide) (ls' := [.ref v0, .int t4, Value.null]) rfl ?_
  refine J_iload_n 1 dX10_readSpace_8 rfl rfl ?_
  refine J_iconst (-1 : Int32) dX10_readSpace_9 kc_m1 ?_
  refine J_icmp_ne 15 dX10_readSpace_10 rfl (fun q5 => ?_) (fun q5 => ?_)
  · replace H := br0 q5 H
    refine J_aload_n 0 dX10_readSpace_15 rfl rfl ?_
    refine J_iload_n 1 dX10_readSpace_16 rfl rfl ?_
    refine J_bipush (40 : Int32) dX10_readSpace_17 kb_40 ?_
    obtain ⟨g7, H⟩ := gd H
    obtain ⟨t9, h8, e6, H⟩ := b2_el H
    refine J_cV (as := [.int t4, .int (40 : Int32)]) 9 YX10_takeNumber 2 dX10_readSpace_19 moX10_takeNumber mvX10_takeNumber mlX10_99 g7 rfl (okX10_takeNumber (d := d) e6) rfl rfl [] rfl rfl (st2 := [.int t9]) rfl ?_
    refine J_istore_n 2 dX10_readSpace_22 rfl (by decide) (ls' := [.ref v0, .int t4, .int t9]) rfl ?_
    refine J_aload_n 0 dX10_readSpace_23 rfl rfl ?_
    obtain ⟨g10, H⟩ := gd H
    refine J_gP 9 5 dX10_readSpace_24 g10 flX10_28 rfl rfl ?_
    refine J_iconst (1 : Int32) dX10_readSpace_27 kc_1 ?_
    refine J_iload_n 1 dX10_readSpace_28 rfl rfl ?_
    refine J_iload_n 2 dX10_readSpace_29 rfl rfl ?_
    obtain ⟨g12, H⟩ := gd H
    obtain ⟨h13, e11, H⟩ := bd H
    refine J_cV (as := [.int (1 : Int32), .int t4, .int t9]) 8 YX9_addRule 3 dX10_readSpace_30 moX9_addRule mvX9_addRule mlX10_90 g12 rfl (okX9_addRule (d := d) e11) rfl rfl [] rfl rfl (st2 := []) rfl ?_
    refine J_iload_n 2 dX10_readSpace_33 rfl rfl ?_
    refine J_iconst (-1 : Int32) dX10_readSpace_34 kc_m1 ?_
    refine J_icmp_eq 42 dX10_readSpace_35 rfl (fun q14 => ?_) (fun q14 => ?_)
    · replace H := br1 q14 H
      refine J_iconst (0 : Int32) dX10_readSpace_42 kc_0 ?_
      cases H
      exact J_rZ dX10_readSpace_43 rfl rfl
    · replace H := br0 q14 H
      refine J_iconst (1 : Int32) dX10_readSpace_38 kc_1 ?_
      refine J_goto 43 dX10_readSpace_39 rfl ?_
      cases H
      exact J_rZ dX10_readSpace_43 rfl rfl
  · replace H := br1 q5 H
    refine J_iconst (0 : Int32) dX10_readSpace_13 kc_0 ?_
    cases H
    exact J_rZ dX10_readSpace_14 rfl rfl
theorem okX10_readSpace {d : Nat} {h : Hp} {v0 : Nat} {r : Int32} {h9 : Hp} (H : MX10_readSpace h v0 = some (r, h9)) : CT (d + 1) YX10_readSpace [.ref v0] h (oI r) h9 := CT_of (by decide +kernel) (Nat.le_of_ble_eq_true rfl) (eX10_readSpace H)
noncomputable def MX10_readRule (h : Hp) (v0 : Nat) : Option (Int32 × Hp) :=
  gg (kd h v0 = 9) <|
  b2 (MX10_takeWord h v0 13) fun t4 h3 =>
  if t4 = 0 then
    gg (kd h3 v0 = 9) <|
    b2 (MX10_takeWord h3 v0 19) fun t9 h8 =>
    if t9 = 0 then
      gg (kd h8 v0 = 9) <|
      b2 (MX10_takeWord h8 v0 17) fun t14 h13 =>
      if t14 = 0 then
        gg (kd h13 v0 = 9) <|
        b2 (MX10_takeWord h13 v0 6) fun t19 h18 =>
        if t19 = 0 then
          gg (kd h18 v0 = 9) <|
          b2 (MX10_takeWord h18 v0 18) fun t24 h23 =>
          if t24 = 0 then
            gg (kd h23 v0 = 9) <|
            b2 (MX10_takeWord h23 v0 7) fun t29 h28 =>
            if t29 = 0 then
              gg (kd h28 v0 = 9) <|
              b2 (MX10_takeWord h28 v0 3) fun t34 h33 =>
              if t34 = 0 then
                gg (kd h33 v0 = 9) <|
                b2 (MX10_failHere h33 v0) fun t39 h38 =>
                gg (zOk t39 = true) <|
                some (t39, h38)
              else
                gg (kd h33 v0 = 9) <|
                b2 (MX10_readClose h33 v0) fun t44 h43 =>
                gg (zOk t44 = true) <|
                some (t44, h43)
            else
              gg (kd h28 v0 = 9) <|
              gg (kd h28 (gP h28 v0 5) = 8) <|
              Option.bind (MX9_addRule h28 (gP h28 v0 5) (5 : Int32) (0 : Int32) (0 : Int32)) fun h49 =>
              gg (kd h49 v0 = 9) <|
              b2 (MX10_takeWord h49 v0 9) fun t53 h52 =>
              if t53 = 0 then
                gg (kd h52 v0 = 9) <|
                b2 (MX10_failHere h52 v0) fun t58 h57 =>
                gg (zOk t58 = true) <|
                some (t58, h57)
              else
                gg (kd h52 v0 = 9) <|
                b2 (MX10_either 30 h52 v0 (0 : Int32)) fun t63 h62 =>
                gg (zOk t63 = true) <|
                some (t63, h62)
          else
            gg (kd h23 v0 = 9) <|
            b2 (MX10_readNumbered h23 v0 (4 : Int32) (0 : Int32) (999 : Int32)) fun t68 h67 =>
            if t68 = 0 then
              some ((0 : Int32), h67)
            else
              gg (kd h67 v0 = 9) <|
              b2 (MX10_takeWord h67 v0 9) fun t73 h72 =>
              if t73 = 0 then
                some ((1 : Int32), h72)
              else
                gg (kd h72 v0 = 9) <|
                b2 (MX10_either 30 h72 v0 (0 : Int32)) fun t78 h77 =>
                if t78 = 0 then
                  some ((0 : Int32), h77)
                else
                  some ((1 : Int32), h77)
        else
          gg (kd h18 v0 = 9) <|
          b2 (MX10_readNumbered h18 v0 (3 : Int32) (0 : Int32) (99 : Int32)) fun t83 h82 =>
          gg (zOk t83 = true) <|
          some (t83, h82)
      else
        gg (kd h13 v0 = 9) <|
        b2 (MX10_readNumbered h13 v0 (2 : Int32) (0 : Int32) (999 : Int32)) fun t88 h87 =>
        gg (zOk t88 = true) <|
        some (t88, h87)
    else
      gg (kd h8 v0 = 9) <|
      b2 (MX10_readSpace h8 v0) fun t93 h92 =>
      gg (zOk t93 = true) <|
      some (t93, h92)
  else
    gg (kd h3 v0 = 9) <|
    b2 (MX10_readNumbered h3 v0 (0 : Int32) (10 : Int32) (400 : Int32)) fun t98 h97 =>
    if t98 = 0 then
      some ((0 : Int32), h97)
    else
      gg (kd h97 v0 = 9) <|
      b2 (MX10_takeWord h97 v0 9) fun t103 h102 =>
      if t103 = 0 then
        some ((1 : Int32), h102)
      else
        gg (kd h102 v0 = 9) <|
        b2 (MX10_either 30 h102 v0 (0 : Int32)) fun t108 h107 =>
        if t108 = 0 then
          some ((0 : Int32), h107)
        else
          some ((1 : Int32), h107)
set_option maxRecDepth 100000 in
set_option maxHeartbeats 8000000 in
theorem eX10_readRule {d : Nat} {h : Hp} {v0 : Nat} {r : Int32} {h9 : Hp} (H : MX10_readRule h v0 = some (r, h9)) : J (d + 36) YX10_readRule 0 [.ref v0] [] h (oI r) h9 := by
  unfold MX10_readRule at H
  refine J_aload_n 0 dX10_readRule_0 rfl rfl ?_
  refine J_lS (tx := "measure") dX10_readRule_1 13 (by decide +kernel) ?_
  obtain ⟨g2, H⟩ := gd H
  obtain ⟨t4, h3, e1, H⟩ := b2_el H
  refine J_cV (as := [.retAddr 13]) 9 YX10_takeWord 1 dX10_readRule_3 moX10_takeWord mvX10_takeWord mlX10_64 g2 rfl (okX10_takeWord (d := d + 31) e1) rfl rfl [] rfl rfl (st2 := [.int t4]) rfl ?_
  refine J_if_eq 45 dX10_readRule_6 rfl (fun q5 => ?_) (fun q5 => ?_)
  · replace H := br1 q5 H
    refine J_aload_n 0 dX10_readRule_45 rfl rfl ?_
    refine J_lS (tx := "space") dX10_readRule_46 19 (by decide +kernel) ?_
    obtain ⟨g7, H⟩ := gd H
    obtain ⟨t9, h8, e6, H⟩ := b2_el H
    refine J_cV (as := [.retAddr 19]) 9 YX10_takeWord 1 dX10_readRule_48 moX10_takeWord mvX10_takeWord mlX10_64 g7 rfl (okX10_takeWord (d := d + 31) e6) rfl rfl [] rfl rfl (st2 := [.int t9]) rfl ?_
    refine J_if_eq 59 dX10_readRule_51 rfl (fun q10 => ?_) (fun q10 => ?_)
    · replace H := br1 q10 H
      refine J_aload_n 0 dX10_readRule_59 rfl rfl ?_
      refine J_lS (tx := "part") dX10_readRule_60 17 (by decide +kernel) ?_
      obtain ⟨g12, H⟩ := gd H
      obtain ⟨t14, h13, e11, H⟩ := b2_el H
      refine J_cV (as := [.retAddr 17]) 9 YX10_takeWord 1 dX10_readRule_62 moX10_takeWord mvX10_takeWord mlX10_64 g12 rfl (okX10_takeWord (d := d + 31) e11) rfl rfl [] rfl rfl (st2 := [.int t14]) rfl ?_
      refine J_if_eq 78 dX10_readRule_65 rfl (fun q15 => ?_) (fun q15 => ?_)
      · replace H := br1 q15 H
        refine J_aload_n 0 dX10_readRule_78 rfl rfl ?_
        refine J_lS (tx := "fat") dX10_readRule_79 6 (by decide +kernel) ?_
        obtain ⟨g17, H⟩ := gd H
        obtain ⟨t19, h18, e16, H⟩ := b2_el H
        refine J_cV (as := [.retAddr 6]) 9 YX10_takeWord 1 dX10_readRule_81 moX10_takeWord mvX10_takeWord mlX10_64 g17 rfl (okX10_takeWord (d := d + 31) e16) rfl rfl [] rfl rfl (st2 := [.int t19]) rfl ?_
        refine J_if_eq 96 dX10_readRule_84 rfl (fun q20 => ?_) (fun q20 => ?_)
        · replace H := br1 q20 H
          refine J_aload_n 0 dX10_readRule_96 rfl rfl ?_
          refine J_lS (tx := "pay") dX10_readRule_97 18 (by decide +kernel) ?_
          obtain ⟨g22, H⟩ := gd H
          obtain ⟨t24, h23, e21, H⟩ := b2_el H
          refine J_cV (as := [.retAddr 18]) 9 YX10_takeWord 1 dX10_readRule_99 moX10_takeWord mvX10_takeWord mlX10_64 g22 rfl (okX10_takeWord (d := d + 31) e21) rfl rfl [] rfl rfl (st2 := [.int t24]) rfl ?_
          refine J_if_eq 140 dX10_readRule_102 rfl (fun q25 => ?_) (fun q25 => ?_)
          · replace H := br1 q25 H
            refine J_aload_n 0 dX10_readRule_140 rfl rfl ?_
            refine J_lS (tx := "free") dX10_readRule_141 7 (by decide +kernel) ?_
            obtain ⟨g27, H⟩ := gd H
            obtain ⟨t29, h28, e26, H⟩ := b2_el H
            refine J_cV (as := [.retAddr 7]) 9 YX10_takeWord 1 dX10_readRule_143 moX10_takeWord mvX10_takeWord mlX10_64 g27 rfl (okX10_takeWord (d := d + 31) e26) rfl rfl [] rfl rfl (st2 := [.int t29]) rfl ?_
            refine J_if_eq 181 dX10_readRule_146 rfl (fun q30 => ?_) (fun q30 => ?_)
            · replace H := br1 q30 H
              refine J_aload_n 0 dX10_readRule_181 rfl rfl ?_
              refine J_lS (tx := "close") dX10_readRule_182 3 (by decide +kernel) ?_
              obtain ⟨g32, H⟩ := gd H
              obtain ⟨t34, h33, e31, H⟩ := b2_el H
              refine J_cV (as := [.retAddr 3]) 9 YX10_takeWord 1 dX10_readRule_184 moX10_takeWord mvX10_takeWord mlX10_64 g32 rfl (okX10_takeWord (d := d + 31) e31) rfl rfl [] rfl rfl (st2 := [.int t34]) rfl ?_
              refine J_if_eq 197 dX10_readRule_187 rfl (fun q35 => ?_) (fun q35 => ?_)
              · replace H := br1 q35 H
                refine J_aload_n 0 dX10_readRule_197 rfl rfl ?_
                obtain ⟨g37, H⟩ := gd H
                obtain ⟨t39, h38, e36, H⟩ := b2_el H
                refine J_cV (as := []) 9 YX10_failHere 0 dX10_readRule_198 moX10_failHere mvX10_failHere mlX10_59 g37 rfl (okX10_failHere (d := d + 35) e36) rfl rfl [] rfl rfl (st2 := [.int t39]) rfl ?_
                obtain ⟨g40, H⟩ := gd H
                cases H
                exact J_rZ dX10_readRule_201 rfl g40
              · replace H := br0 q35 H
                refine J_aload_n 0 dX10_readRule_190 rfl rfl ?_
                obtain ⟨g42, H⟩ := gd H
                obtain ⟨t44, h43, e41, H⟩ := b2_el H
                refine J_cV (as := []) 9 YX10_readClose 0 dX10_readRule_191 moX10_readClose mvX10_readClose mlX10_96 g42 rfl (okX10_readClose (d := d + 30) e41) rfl rfl [] rfl rfl (st2 := [.int t44]) rfl ?_
                refine J_goto 201 dX10_readRule_194 rfl ?_
                obtain ⟨g45, H⟩ := gd H
                cases H
                exact J_rZ dX10_readRule_201 rfl g45
            · replace H := br0 q30 H
              refine J_aload_n 0 dX10_readRule_149 rfl rfl ?_
              obtain ⟨g46, H⟩ := gd H
              refine J_gP 9 5 dX10_readRule_150 g46 flX10_28 rfl rfl ?_
              refine J_iconst (5 : Int32) dX10_readRule_153 kc_5 ?_
              refine J_iconst (0 : Int32) dX10_readRule_154 kc_0 ?_
              refine J_iconst (0 : Int32) dX10_readRule_155 kc_0 ?_
              obtain ⟨g48, H⟩ := gd H
              obtain ⟨h49, e47, H⟩ := bd H
              refine J_cV (as := [.int (5 : Int32), .int (0 : Int32), .int (0 : Int32)]) 8 YX9_addRule 3 dX10_readRule_156 moX9_addRule mvX9_addRule mlX10_90 g48 rfl (okX9_addRule (d := d + 35) e47) rfl rfl [] rfl rfl (st2 := []) rfl ?_
              refine J_aload_n 0 dX10_readRule_159 rfl rfl ?_
              refine J_lS (tx := "if") dX10_readRule_160 9 (by decide +kernel) ?_
              obtain ⟨g51, H⟩ := gd H
              obtain ⟨t53, h52, e50, H⟩ := b2_el H
              refine J_cV (as := [.retAddr 9]) 9 YX10_takeWord 1 dX10_readRule_162 moX10_takeWord mvX10_takeWord mlX10_64 g51 rfl (okX10_takeWord (d := d + 31) e50) rfl rfl [] rfl rfl (st2 := [.int t53]) rfl ?_
              refine J_if_eq 176 dX10_readRule_165 rfl (fun q54 => ?_) (fun q54 => ?_)
              · replace H := br1 q54 H
                refine J_aload_n 0 dX10_readRule_176 rfl rfl ?_
                obtain ⟨g56, H⟩ := gd H
                obtain ⟨t58, h57, e55, H⟩ := b2_el H
                refine J_cV (as := []) 9 YX10_failHere 0 dX10_readRule_177 moX10_failHere mvX10_failHere mlX10_59 g56 rfl (okX10_failHere (d := d + 35) e55) rfl rfl [] rfl rfl (st2 := [.int t58]) rfl ?_
                obtain ⟨g59, H⟩ := gd H
                cases H
                exact J_rZ dX10_readRule_180 rfl g59
              · replace H := br0 q54 H
                refine J_aload_n 0 dX10_readRule_168 rfl rfl ?_
                refine J_iconst (0 : Int32) dX10_readRule_169 kc_0 ?_
                obtain ⟨g61, H⟩ := gd H
                obtain ⟨t63, h62, e60, H⟩ := b2_el H
                refine J_cV (as := [.int (0 : Int32)]) 9 YX10_either 1 dX10_readRule_170 moX10_either mvX10_either mlX10_74 g61 rfl (okX10_either (d := d) e60) rfl rfl [] rfl rfl (st2 := [.int t63]) rfl ?_
                refine J_goto 180 dX10_readRule_173 rfl ?_
                obtain ⟨g64, H⟩ := gd H
                cases H
                exact J_rZ dX10_readRule_180 rfl g64
          · replace H := br0 q25 H
            refine J_aload_n 0 dX10_readRule_105 rfl rfl ?_
            refine J_iconst (4 : Int32) dX10_readRule_106 kc_4 ?_
            refine J_iconst (0 : Int32) dX10_readRule_107 kc_0 ?_
            refine J_sipush (999 : Int32) dX10_readRule_108 ks_999 ?_
            obtain ⟨g66, H⟩ := gd H
            obtain ⟨t68, h67, e65, H⟩ := b2_el H
            refine J_cV (as := [.int (4 : Int32), .int (0 : Int32), .int (999 : Int32)]) 9 YX10_readNumbered 3 dX10_readRule_111 moX10_readNumbered mvX10_readNumbered mlX10_68 g66 rfl (okX10_readNumbered (d := d + 34) e65) rfl rfl [] rfl rfl (st2 := [.int t68]) rfl ?_
            refine J_if_eq 138 dX10_readRule_114 rfl (fun q69 => ?_) (fun q69 => ?_)
            · replace H := br1 q69 H
              refine J_iconst (0 : Int32) dX10_readRule_138 kc_0 ?_
              cases H
              exact J_rZ dX10_readRule_139 rfl rfl
            · replace H := br0 q69 H
              refine J_aload_n 0 dX10_readRule_117 rfl rfl ?_
              refine J_lS (tx := "if") dX10_readRule_118 9 (by decide +kernel) ?_
              obtain ⟨g71, H⟩ := gd H
              obtain ⟨t73, h72, e70, H⟩ := b2_el H
              refine J_cV (as := [.retAddr 9]) 9 YX10_takeWord 1 dX10_readRule_120 moX10_takeWord mvX10_takeWord mlX10_64 g71 rfl (okX10_takeWord (d := d + 31) e70) rfl rfl [] rfl rfl (st2 := [.int t73]) rfl ?_
              refine J_if_eq 134 dX10_readRule_123 rfl (fun q74 => ?_) (fun q74 => ?_)
              · replace H := br1 q74 H
                refine J_iconst (1 : Int32) dX10_readRule_134 kc_1 ?_
                refine J_goto 139 dX10_readRule_135 rfl ?_
                cases H
                exact J_rZ dX10_readRule_139 rfl rfl
              · replace H := br0 q74 H
                refine J_aload_n 0 dX10_readRule_126 rfl rfl ?_
                refine J_iconst (0 : Int32) dX10_readRule_127 kc_0 ?_
                obtain ⟨g76, H⟩ := gd H
                obtain ⟨t78, h77, e75, H⟩ := b2_el H
                refine J_cV (as := [.int (0 : Int32)]) 9 YX10_either 1 dX10_readRule_128 moX10_either mvX10_either mlX10_74 g76 rfl (okX10_either (d := d) e75) rfl rfl [] rfl rfl (st2 := [.int t78]) rfl ?_
                refine J_if_eq 138 dX10_readRule_131 rfl (fun q79 => ?_) (fun q79 => ?_)
                · replace H := br1 q79 H
                  refine J_iconst (0 : Int32) dX10_readRule_138 kc_0 ?_
                  cases H
                  exact J_rZ dX10_readRule_139 rfl rfl
                · replace H := br0 q79 H
                  refine J_iconst (1 : Int32) dX10_readRule_134 kc_1 ?_
                  refine J_goto 139 dX10_readRule_135 rfl ?_
                  cases H
                  exact J_rZ dX10_readRule_139 rfl rfl
        · replace H := br0 q20 H
          refine J_aload_n 0 dX10_readRule_87 rfl rfl ?_
          refine J_iconst (3 : Int32) dX10_readRule_88 kc_3 ?_
          refine J_iconst (0 : Int32) dX10_readRule_89 kc_0 ?_
          refine J_bipush (99 : Int32) dX10_readRule_90 kb_99 ?_
          obtain ⟨g81, H⟩ := gd H
          obtain ⟨t83, h82, e80, H⟩ := b2_el H
          refine J_cV (as := [.int (3 : Int32), .int (0 : Int32), .int (99 : Int32)]) 9 YX10_readNumbered 3 dX10_readRule_92 moX10_readNumbered mvX10_readNumbered mlX10_68 g81 rfl (okX10_readNumbered (d := d + 34) e80) rfl rfl [] rfl rfl (st2 := [.int t83]) rfl ?_
          obtain ⟨g84, H⟩ := gd H
          cases H
          exact J_rZ dX10_readRule_95 rfl g84
      · replace H := br0 q15 H
        refine J_aload_n 0 dX10_readRule_68 rfl rfl ?_
        refine J_iconst (2 : Int32) dX10_readRule_69 kc_2 ?_
        refine J_iconst (0 : Int32) dX10_readRule_70 kc_0 ?_
        refine J_sipush (999 : Int32) dX10_readRule_71 ks_999 ?_
        obtain ⟨g86, H⟩ := gd H
        obtain ⟨t88, h87, e85, H⟩ := b2_el H
        refine J_cV (as := [.int (2 : Int32), .int (0 : Int32), .int (999 : Int32)]) 9 YX10_readNumbered 3 dX10_readRule_74 moX10_readNumbered mvX10_readNumbered mlX10_68 g86 rfl (okX10_readNumbered (d := d + 34) e85) rfl rfl [] rfl rfl (st2 := [.int t88]) rfl ?_
        obtain ⟨g89, H⟩ := gd H
        cases H
        exact J_rZ dX10_readRule_77 rfl g89
    · replace H := br0 q10 H
      refine J_aload_n 0 dX10_readRule_54 rfl rfl ?_
      obtain ⟨g91, H⟩ := gd H
      obtain ⟨t93, h92, e90, H⟩ := b2_el H
      refine J_cV (as := []) 9 YX10_readSpace 0 dX10_readRule_55 moX10_readSpace mvX10_readSpace mlX10_79 g91 rfl (okX10_readSpace (d := d + 34) e90) rfl rfl [] rfl rfl (st2 := [.int t93]) rfl ?_
      obtain ⟨g94, H⟩ := gd H
      cases H
      exact J_rZ dX10_readRule_58 rfl g94
  · replace H := br0 q5 H
    refine J_aload_n 0 dX10_readRule_9 rfl rfl ?_
    refine J_iconst (0 : Int32) dX10_readRule_10 kc_0 ?_
    refine J_bipush (10 : Int32) dX10_readRule_11 kb_10 ?_
    refine J_sipush (400 : Int32) dX10_readRule_13 ks_400 ?_
    obtain ⟨g96, H⟩ := gd H
    obtain ⟨t98, h97, e95, H⟩ := b2_el H
    refine J_cV (as := [.int (0 : Int32), .int (10 : Int32), .int (400 : Int32)]) 9 YX10_readNumbered 3 dX10_readRule_16 moX10_readNumbered mvX10_readNumbered mlX10_68 g96 rfl (okX10_readNumbered (d := d + 34) e95) rfl rfl [] rfl rfl (st2 := [.int t98]) rfl ?_
    refine J_if_eq 43 dX10_readRule_19 rfl (fun q99 => ?_) (fun q99 => ?_)
    · replace H := br1 q99 H
      refine J_iconst (0 : Int32) dX10_readRule_43 kc_0 ?_
      cases H
      exact J_rZ dX10_readRule_44 rfl rfl
    · replace H := br0 q99 H
      refine J_aload_n 0 dX10_readRule_22 rfl rfl ?_
      refine J_lS (tx := "if") dX10_readRule_23 9 (by decide +kernel) ?_
      obtain ⟨g101, H⟩ := gd H
      obtain ⟨t103, h102, e100, H⟩ := b2_el H
      refine J_cV (as := [.retAddr 9]) 9 YX10_takeWord 1 dX10_readRule_25 moX10_takeWord mvX10_takeWord mlX10_64 g101 rfl (okX10_takeWord (d := d + 31) e100) rfl rfl [] rfl rfl (st2 := [.int t103]) rfl ?_
      refine J_if_eq 39 dX10_readRule_28 rfl (fun q104 => ?_) (fun q104 => ?_)
      · replace H := br1 q104 H
        refine J_iconst (1 : Int32) dX10_readRule_39 kc_1 ?_
        refine J_goto 44 dX10_readRule_40 rfl ?_
        cases H
        exact J_rZ dX10_readRule_44 rfl rfl
      · replace H := br0 q104 H
        refine J_aload_n 0 dX10_readRule_31 rfl rfl ?_
        refine J_iconst (0 : Int32) dX10_readRule_32 kc_0 ?_
        obtain ⟨g106, H⟩ := gd H
        obtain ⟨t108, h107, e105, H⟩ := b2_el H
        refine J_cV (as := [.int (0 : Int32)]) 9 YX10_either 1 dX10_readRule_33 moX10_either mvX10_either mlX10_74 g106 rfl (okX10_either (d := d) e105) rfl rfl [] rfl rfl (st2 := [.int t108]) rfl ?_
        refine J_if_eq 43 dX10_readRule_36 rfl (fun q109 => ?_) (fun q109 => ?_)
        · replace H := br1 q109 H
          refine J_iconst (0 : Int32) dX10_readRule_43 kc_0 ?_
          cases H
          exact J_rZ dX10_readRule_44 rfl rfl
        · replace H := br0 q109 H
          refine J_iconst (1 : Int32) dX10_readRule_39 kc_1 ?_
          refine J_goto 44 dX10_readRule_40 rfl ?_
          cases H
          exact J_rZ dX10_readRule_44 rfl rfl
theorem okX10_readRule {d : Nat} {h : Hp} {v0 : Nat} {r : Int32} {h9 : Hp} (H : MX10_readRule h v0 = some (r, h9)) : CT (d + 36) YX10_readRule [.ref v0] h (oI r) h9 := CT_of (by decide +kernel) (Nat.le_of_ble_eq_true rfl) (eX10_readRule H)
noncomputable def MX10_firstWrong_92 (h : Hp) (v0 : Nat) : Option (Int32 × Hp) :=
  gg (kd h v0 = 9) <|
  some ((gI h v0 3), h)
set_option maxRecDepth 100000 in
set_option maxHeartbeats 8000000 in
theorem kX10_firstWrong_92 {d : Nat} {h : Hp} {v0 : Nat} {r : Int32} {h9 : Hp} (H : MX10_firstWrong_92 h v0 = some (r, h9)) : J (d + 37) YX10_firstWrong 92 [.ref v0, Value.null, Value.null, Value.null] [] h (oI r) h9 := by
  unfold MX10_firstWrong_92 at H
  refine J_aload_n 0 dX10_firstWrong_92 rfl rfl ?_
  obtain ⟨g31, H⟩ := gd H
  refine J_getI 9 3 dX10_firstWrong_93 g31 flX10_18 rfl ?_
  cases H
  exact J_iretI dX10_firstWrong_96 rfl
noncomputable def MX10_firstWrong_85 (h : Hp) (v0 : Nat) (v3 : Int32) (s0 : Int32) : Option ((Int32 × Int32 × Hp) ⊕ (Int32 × Hp)) :=
  some (.inl (s0, (v3 + (1 : Int32)), h))
set_option maxRecDepth 100000 in
set_option maxHeartbeats 8000000 in
theorem kX10_firstWrong_85 {d : Nat} {h : Hp} {v0 : Nat} {v3 : Int32} {s0 : Int32} {r : Int32} {h9 : Hp} {x : ((Int32 × Int32 × Hp) ⊕ (Int32 × Hp))} (H : MX10_firstWrong_85 h v0 v3 s0 = some x) (hb0 : ∀ s : Int32 × Int32 × Hp, x = .inl s → J (d + 37) YX10_firstWrong 56 [.ref v0, Value.null, .int s.1, .int s.2.1] [] s.2.2 (oI r) h9) (hx : ∀ z : (Int32 × Hp), x = .inr (z) → z = (r, h9)) : J (d + 37) YX10_firstWrong 85 [.ref v0, Value.null, Value.null, .int v3] [.int s0] h (oI r) h9 := by
  unfold MX10_firstWrong_85 at H
  refine J_istore_n 2 dX10_firstWrong_85 rfl (by decide) (ls' := [.ref v0, Value.null, .int s0, .int v3]) rfl ?_
  refine J_iinc (v3 + (1 : Int32)) dX10_firstWrong_86 rfl (congrArg (HAdd.hAdd v3) kc_1) (by decide) (ls' := [.ref v0, Value.null, .int s0, .int (v3 + (1 : Int32))]) rfl ?_
  refine J_goto 56 dX10_firstWrong_89 rfl ?_
  cases H
  exact J_dr (hb0 _ rfl) ⟨rfl, ⟨rfl, ⟨rfl, trivial⟩⟩⟩
noncomputable def MX10_firstWrong_84 (h : Hp) (v0 : Nat) (v3 : Int32) : Option ((Int32 × Int32 × Hp) ⊕ (Int32 × Hp)) :=
  MX10_firstWrong_85 h v0 v3 (0 : Int32)
set_option maxRecDepth 100000 in
set_option maxHeartbeats 8000000 in
theorem kX10_firstWrong_84 {d : Nat} {h : Hp} {v0 : Nat} {v3 : Int32} {r : Int32} {h9 : Hp} {x : ((Int32 × Int32 × Hp) ⊕ (Int32 × Hp))} (H : MX10_firstWrong_84 h v0 v3 = some x) (hb0 : ∀ s : Int32 × Int32 × Hp, x = .inl s → J (d + 37) YX10_firstWrong 56 [.ref v0, Value.null, .int s.1, .int s.2.1] [] s.2.2 (oI r) h9) (hx : ∀ z : (Int32 × Hp), x = .inr (z) → z = (r, h9)) : J (d + 37) YX10_firstWrong 84 [.ref v0, Value.null, Value.null, .int v3] [] h (oI r) h9 := by
  unfold MX10_firstWrong_84 at H
  refine J_iconst (0 : Int32) dX10_firstWrong_84 kc_0 ?_
  exact J_dr (kX10_firstWrong_85 H hb0 hx) ⟨rfl, ⟨rfl, trivial⟩⟩
noncomputable def BX10_firstWrong_56 (h : Hp) (v0 : Nat) (v2 : Int32) (v3 : Int32) : Option ((Int32 × Int32 × Hp) ⊕ (Int32 × Hp)) :=
  if v2 = 0 then
    up1 (MX10_firstWrong_92 h v0)
  else
    if (12 : Int32) ≤ v3 then
      up1 (MX10_firstWrong_92 h v0)
    else
      gg (kd h v0 = 9) <|
      b2 (MX10_readRule h v0) fun t36 h35 =>
      if t36 = 0 then
        MX10_firstWrong_84 h35 v0 v3
      else
        gg (kd h35 v0 = 9) <|
        b2 (MX10_anotherFollows h35 v0) fun t41 h40 =>
        if t41 = 0 then
          MX10_firstWrong_84 h40 v0 v3
        else
          MX10_firstWrong_85 h40 v0 v3 (1 : Int32)
set_option maxRecDepth 100000 in
set_option maxHeartbeats 8000000 in
theorem bX10_firstWrong_56 {d : Nat} {h : Hp} {v0 : Nat} {v2 : Int32} {v3 : Int32} {r : Int32} {h9 : Hp} {x : ((Int32 × Int32 × Hp) ⊕ (Int32 × Hp))} (H : BX10_firstWrong_56 h v0 v2 v3 = some x) (hb0 : ∀ s : Int32 × Int32 × Hp, x = .inl s → J (d + 37) YX10_firstWrong 56 [.ref v0, Value.null, .int s.1, .int s.2.1] [] s.2.2 (oI r) h9) (hx : ∀ z : (Int32 × Hp), x = .inr (z) → z = (r, h9)) : J (d + 37) YX10_firstWrong 56 [.ref v0, Value.null, .int v2, .int v3] [] h (oI r) h9 := by
  unfold BX10_firstWrong_56 at H
  refine J_iload_n 2 dX10_firstWrong_56 rfl rfl ?_
  refine J_if_eq 92 dX10_firstWrong_57 rfl (fun q30 => ?_) (fun q30 => ?_)
  · replace H := br1 q30 H
    obtain ⟨y, H9, rfl⟩ := up1_el H
    replace H := H9
    obtain rfl := hx _ rfl
    exact J_dr (kX10_firstWrong_92 H ) ⟨rfl, trivial⟩
  · replace H := br0 q30 H
    refine J_iload_n 3 dX10_firstWrong_60 rfl rfl ?_
    refine J_bipush (12 : Int32) dX10_firstWrong_61 kb_12 ?_
    refine J_icmp_ge 92 dX10_firstWrong_63 rfl (fun q32 => ?_) (fun q32 => ?_)
    · replace H := br1 q32 H
      obtain ⟨y, H9, rfl⟩ := up1_el H
      replace H := H9
      obtain rfl := hx _ rfl
      exact J_dr (kX10_firstWrong_92 H ) ⟨rfl, trivial⟩
    · replace H := br0 q32 H
      refine J_aload_n 0 dX10_firstWrong_66 rfl rfl ?_
      obtain ⟨g34, H⟩ := gd H
      obtain ⟨t36, h35, e33, H⟩ := b2_el H
      refine J_cV (as := []) 9 YX10_readRule 0 dX10_firstWrong_67 moX10_readRule mvX10_readRule mlX10_48 g34 rfl (okX10_readRule (d := d) e33) rfl rfl [] rfl rfl (st2 := [.int t36]) rfl ?_
      refine J_if_eq 84 dX10_firstWrong_70 rfl (fun q37 => ?_) (fun q37 => ?_)
      · replace H := br1 q37 H
        exact J_dr (kX10_firstWrong_84 H hb0 hx) ⟨rfl, ⟨rfl, trivial⟩⟩
      · replace H := br0 q37 H
        refine J_aload_n 0 dX10_firstWrong_73 rfl rfl ?_
        obtain ⟨g39, H⟩ := gd H
        obtain ⟨t41, h40, e38, H⟩ := b2_el H
        refine J_cV (as := []) 9 YX10_anotherFollows 0 dX10_firstWrong_74 moX10_anotherFollows mvX10_anotherFollows mlX10_52 g39 rfl (okX10_anotherFollows (d := d + 35) e38) rfl rfl [] rfl rfl (st2 := [.int t41]) rfl ?_
        refine J_if_eq 84 dX10_firstWrong_77 rfl (fun q42 => ?_) (fun q42 => ?_)
        · replace H := br1 q42 H
          exact J_dr (kX10_firstWrong_84 H hb0 hx) ⟨rfl, ⟨rfl, trivial⟩⟩
        · replace H := br0 q42 H
          refine J_iconst (1 : Int32) dX10_firstWrong_80 kc_1 ?_
          refine J_goto 85 dX10_firstWrong_81 rfl ?_
          exact J_dr (kX10_firstWrong_85 H hb0 hx) ⟨rfl, ⟨rfl, trivial⟩⟩
noncomputable def MX10_firstWrong_56 (h : Hp) (v0 : Nat) (v2 : Int32) (v3 : Int32) : Option (Int32 × Hp) := it (fun q : Int32 × Int32 × Hp => BX10_firstWrong_56 q.2.2 v0 q.1 q.2.1) (v2, v3, h)
set_option maxRecDepth 100000 in
set_option maxHeartbeats 8000000 in
theorem kX10_firstWrong_56 {d : Nat} {h : Hp} {v0 : Nat} {v2 : Int32} {v3 : Int32} {r : Int32} {h9 : Hp} (H : MX10_firstWrong_56 h v0 v2 v3 = some (r, h9)) : J (d + 37) YX10_firstWrong 56 [.ref v0, Value.null, .int v2, .int v3] [] h (oI r) h9 := by
  unfold MX10_firstWrong_56 at H
  refine it_J (G := (fun q : Int32 × Int32 × Hp => J (d + 37) YX10_firstWrong 56 [.ref v0, Value.null, .int q.1, .int q.2.1] [] q.2.2 (oI r) h9)) (Q := (fun y : (Int32 × Hp) => y = (r, h9))) (fun q x Hq hm => ?_) H rfl
  exact bX10_firstWrong_56 Hq (fun s hs => by subst hs; exact hm) (fun z hz => by subst hz; exact hm)
noncomputable def MX10_firstWrong_53 (h : Hp) (v0 : Nat) (s0 : Int32) : Option (Int32 × Hp) :=
  MX10_firstWrong_56 h v0 s0 (0 : Int32)
set_option maxRecDepth 100000 in
set_option maxHeartbeats 8000000 in
theorem kX10_firstWrong_53 {d : Nat} {h : Hp} {v0 : Nat} {s0 : Int32} {r : Int32} {h9 : Hp} (H : MX10_firstWrong_53 h v0 s0 = some (r, h9)) : J (d + 37) YX10_firstWrong 53 [.ref v0, Value.null, Value.null, Value.null] [.int s0] h (oI r) h9 := by
  unfold MX10_firstWrong_53 at H
  refine J_istore_n 2 dX10_firstWrong_53 rfl (by decide) (ls' := [.ref v0, Value.null, .int s0, Value.null]) rfl ?_
  refine J_iconst (0 : Int32) dX10_firstWrong_54 kc_0 ?_
  refine J_istore_n 3 dX10_firstWrong_55 rfl (by decide) (ls' := [.ref v0, Value.null, .int s0, .int (0 : Int32)]) rfl ?_
  exact J_dr (kX10_firstWrong_56 H ) ⟨rfl, ⟨rfl, ⟨rfl, trivial⟩⟩⟩
noncomputable def MX10_firstWrong (h : Hp) (v0 : Nat) (v1 : Int32) : Option (Int32 × Hp) :=
  gg (kd h v0 = 9) <|
  gg (kd h (gP h v0 5) = 8) <|
  lt (sI h (gP h v0 5) 1 (0 : Int32)) fun h3 =>
  gg (kd h (gP h v0 0) = 21) <|
  lt (sI h3 v0 1 (jmin v1 (nI (ln h3 (gP h v0 0))))) fun h9 =>
  lt (sI h9 v0 2 (0 : Int32)) fun h14 =>
  lt (sI h14 v0 3 (-1 : Int32)) fun h19 =>
  Option.bind (MX10_findInk h19 v0) fun h25 =>
  gg (kd h25 v0 = 9) <|
  gg (kd h25 (gP h25 v0 4) = 20) <|
  gg (inB (0 : Int32) (ln h25 (gP h25 v0 4)) = true) <|
  if (gI h25 v0 1) ≤ (gI h25 (gP h25 v0 4) (0 : Int32).toNatClampNeg) then
    MX10_firstWrong_53 h25 v0 (0 : Int32)
  else
    MX10_firstWrong_53 h25 v0 (1 : Int32)
set_option maxRecDepth 100000 in
set_option maxHeartbeats 8000000 in
theorem eX10_firstWrong {d : Nat} {h : Hp} {v0 : Nat} {v1 : Int32} {r : Int32} {h9 : Hp} (H : MX10_firstWrong h v0 v1 = some (r, h9)) : J (d + 37) YX10_firstWrong 0 [.ref v0, .int v1, Value.null, Value.null] [] h (oI r) h9 := by
  unfold MX10_firstWrong at H
  refine J_aload_n 0 dX10_firstWrong_0 rfl rfl ?_
  obtain ⟨g1, H⟩ := gd H
  refine J_gP 9 5 dX10_firstWrong_1 g1 flX10_28 rfl rfl ?_
  refine J_iconst (0 : Int32) dX10_firstWrong_4 kc_0 ?_
  obtain ⟨g2, H⟩ := gd H
  obtain ⟨h3, e4, H⟩ := lt_el H
  refine J_pI 8 1 dX10_firstWrong_5 g2 flX10_36 rfl rfl e4 ?_
  have c5 := ekI e4
  have c6 := elI e4
  have c7 := epI e4
  refine J_aload_n 0 dX10_firstWrong_8 rfl rfl ?_
  refine J_iload_n 1 dX10_firstWrong_9 rfl rfl ?_
  refine J_aload_n 0 dX10_firstWrong_10 rfl rfl ?_
  refine J_gP 9 0 dX10_firstWrong_11 (kq c5 g1) flX10_32 rfl (congrFun (congrFun c7 v0) 0) ?_
  obtain ⟨g8, H⟩ := gd H
  refine J_len 21 dX10_firstWrong_14 (kq c5 g8) rfl ?_
  refine J_mn dX10_firstWrong_15 mlX10_39 rfl ?_
  obtain ⟨h9, e10, H⟩ := lt_el H
  refine J_pI 9 1 dX10_firstWrong_18 (kq c5 g1) flX10_9 rfl rfl e10 ?_
  have c11 := (ekI e10).trans c5
  have c12 := (elI e10).trans c6
  have c13 := (epI e10).trans c7
  refine J_aload_n 0 dX10_firstWrong_21 rfl rfl ?_
  refine J_iconst (0 : Int32) dX10_firstWrong_22 kc_0 ?_
  obtain ⟨h14, e15, H⟩ := lt_el H
  refine J_pI 9 2 dX10_firstWrong_23 (kq c11 g1) flX10_15 rfl rfl e15 ?_
  have c16 := (ekI e15).trans c11
  have c17 := (elI e15).trans c12
  have c18 := (epI e15).trans c13
  refine J_aload_n 0 dX10_firstWrong_26 rfl rfl ?_
  refine J_iconst (-1 : Int32) dX10_firstWrong_27 kc_m1 ?_
  obtain ⟨h19, e20, H⟩ := lt_el H
  refine J_pI 9 3 dX10_firstWrong_28 (kq c16 g1) flX10_18 rfl rfl e20 ?_
  have c21 := (ekI e20).trans c16
  have c22 := (elI e20).trans c17
  have c23 := (epI e20).trans c18
  refine J_aload_n 0 dX10_firstWrong_31 rfl rfl ?_
  obtain ⟨h25, e24, H⟩ := bd H
  refine J_cV (as := []) 9 YX10_findInk 0 dX10_firstWrong_32 moX10_findInk mvX10_findInk mlX10_45 (kq c21 g1) rfl (okX10_findInk (d := d + 36) e24) rfl rfl [] rfl rfl (st2 := []) rfl ?_
  refine J_aload_n 0 dX10_firstWrong_35 rfl rfl ?_
  obtain ⟨g26, H⟩ := gd H
  refine J_gP 9 4 dX10_firstWrong_36 g26 flX10_21 rfl rfl ?_
  refine J_iconst (0 : Int32) dX10_firstWrong_39 kc_0 ?_
  obtain ⟨g27, H⟩ := gd H
  obtain ⟨g28, H⟩ := gd H
  refine J_iald dX10_firstWrong_40 g27 (inB_ok g28) ?_
  refine J_aload_n 0 dX10_firstWrong_41 rfl rfl ?_
  refine J_getI 9 1 dX10_firstWrong_42 g26 flX10_9 rfl ?_
  refine J_icmp_ge 52 dX10_firstWrong_45 rfl (fun q29 => ?_) (fun q29 => ?_)
  · replace H := br1 q29 H
    refine J_iconst (0 : Int32) dX10_firstWrong_52 kc_0 ?_
    exact J_dr (kX10_firstWrong_53 H ) ⟨rfl, trivial⟩
  · replace H := br0 q29 H
    refine J_iconst (1 : Int32) dX10_firstWrong_48 kc_1 ?_
    refine J_goto 53 dX10_firstWrong_49 rfl ?_
    exact J_dr (kX10_firstWrong_53 H ) ⟨rfl, trivial⟩
theorem okX10_firstWrong {d : Nat} {h : Hp} {v0 : Nat} {v1 : Int32} {r : Int32} {h9 : Hp} (H : MX10_firstWrong h v0 v1 = some (r, h9)) : CT (d + 37) YX10_firstWrong [.ref v0, .int v1] h (oI r) h9 := CT_of (by decide +kernel) (Nat.le_of_ble_eq_true rfl) (eX10_firstWrong H)
noncomputable def MX11_style (h : Hp) (v0 : Nat) (v1 : Int32) : Option ((Int32 ⊕ Nat) × Hp) :=
  gg (kd h v0 = 10) <|
  b2 (MX11_useTape h v0) fun t4 h3 =>
  gg (kd h3 v0 = 10) <|
  gg (kd h3 (gP h3 v0 5) = 6) <|
  if v1 < (gI h3 (gP h3 v0 5) 0) then
    some (.inr 2, bmp h3 1 6)
  else
    if v1 ≤ (600 : Int32) then
      gg (kd h3 (gP h3 v0 3) = 9) <|
      b2 (MX10_firstWrong h3 (gP h3 v0 3) t4) fun t12 h11 =>
      gg (kd h11 v0 = 10) <|
      lt (sI h11 v0 2 t12) fun h14 =>
      if (gI h14 v0 2) = (-1 : Int32) then
        gg (kd h11 (gP h11 v0 5) = 6) <|
        if (gI h14 (gP h11 v0 5) 3) < (10 : Int32) then
          gg (kd h11 (gP h11 v0 3) = 9) <|
          Option.bind (MX7_addStyle h14 (gP h11 v0 5) (gP h11 (gP h11 v0 3) 5) v1) fun h24 =>
          gg (kd h24 v0 = 10) <|
          gg (kd h24 (gP h24 v0 3) = 9) <|
          gg (kd h24 (gP h24 (gP h24 v0 3) 5) = 8) <|
          some (.inl (gI h24 (gP h24 (gP h24 v0 3) 5) 1), h24)
        else
          some (.inr 3, bmp h14 1 6)
      else
        some (.inr 2, bmp h14 1 6)
    else
      some (.inr 2, bmp h3 1 6)
set_option maxRecDepth 100000 in
set_option maxHeartbeats 8000000 in
theorem eX11_style {d : Nat} {h : Hp} {v0 : Nat} {v1 : Int32} {r : Int32 ⊕ Nat} {h9 : Hp} (H : MX11_style h v0 v1 = some (r, h9)) : J (d + 38) YX11_style 0 [.ref v0, .int v1, Value.null] [] h (oT r) h9 := by
  unfold MX11_style at H
  refine J_aload_n 0 dX11_style_0 rfl rfl ?_
  obtain ⟨g2, H⟩ := gd H
  obtain ⟨t4, h3, e1, H⟩ := b2_el H
  refine J_cV (as := []) 10 YX11_useTape 0 dX11_style_1 moX11_useTape mvX11_useTape mlX11_94 g2 rfl (okX11_useTape (d := d + 37) e1) rfl rfl [] rfl rfl (st2 := [.int t4]) rfl ?_
  refine J_istore_n 2 dX11_style_4 rfl (by decide) (ls' := [.ref v0, .int v1, .int t4]) rfl ?_
  refine J_iload_n 1 dX11_style_5 rfl rfl ?_
  refine J_aload_n 0 dX11_style_6 rfl rfl ?_
  obtain ⟨g5, H⟩ := gd H
  refine J_gP 10 5 dX11_style_7 g5 flX11_39 rfl rfl ?_
  obtain ⟨g6, H⟩ := gd H
  refine J_getI 6 0 dX11_style_10 g6 flX11_117 rfl ?_
  refine J_icmp_lt 23 dX11_style_13 rfl (fun q7 => ?_) (fun q7 => ?_)
  · replace H := br1 q7 H
    cases H
    exact J_throw 2 ["java/lang/RuntimeException", "java/lang/Exception"] dX11_style_23 dX11_style_26 dX11_style_27 dX11_style_30 th_89 clX11_87 (Nat.le_of_ble_eq_true rfl)
  · replace H := br0 q7 H
    refine J_iload_n 1 dX11_style_16 rfl rfl ?_
    refine J_sipush (600 : Int32) dX11_style_17 ks_600 ?_
    refine J_icmp_le 31 dX11_style_20 rfl (fun q8 => ?_) (fun q8 => ?_)
    · replace H := br1 q8 H
      refine J_aload_n 0 dX11_style_31 rfl rfl ?_
      refine J_aload_n 0 dX11_style_32 rfl rfl ?_
      refine J_gP 10 3 dX11_style_33 g5 flX11_25 rfl rfl ?_
      refine J_iload_n 2 dX11_style_36 rfl rfl ?_
      obtain ⟨g10, H⟩ := gd H
      obtain ⟨t12, h11, e9, H⟩ := b2_el H
      refine J_cV (as := [.int t4]) 9 YX10_firstWrong 1 dX11_style_37 moX10_firstWrong mvX10_firstWrong mlX11_120 g10 rfl (okX10_firstWrong (d := d) e9) rfl rfl [.ref v0] rfl rfl (st2 := [.int t12, .ref v0]) rfl ?_
      obtain ⟨g13, H⟩ := gd H
      obtain ⟨h14, e15, H⟩ := lt_el H
      refine J_pI 10 2 dX11_style_40 g13 flX11_17 rfl rfl e15 ?_
      have c16 := ekI e15
      have c17 := elI e15
      have c18 := epI e15
      refine J_aload_n 0 dX11_style_43 rfl rfl ?_
      refine J_getI 10 2 dX11_style_44 (kq c16 g13) flX11_17 rfl ?_
      refine J_iconst (-1 : Int32) dX11_style_47 kc_m1 ?_
      refine J_icmp_eq 59 dX11_style_48 rfl (fun q19 => ?_) (fun q19 => ?_)
      · replace H := br1 q19 H
        refine J_aload_n 0 dX11_style_59 rfl rfl ?_
        refine J_gP 10 5 dX11_style_60 (kq c16 g13) flX11_39 rfl (congrFun (congrFun c18 v0) 5) ?_
        obtain ⟨g20, H⟩ := gd H
        refine J_getI 6 3 dX11_style_63 (kq c16 g20) flX11_123 rfl ?_
        refine J_bipush (10 : Int32) dX11_style_66 kb_10 ?_
        refine J_icmp_lt 79 dX11_style_68 rfl (fun q21 => ?_) (fun q21 => ?_)
        · replace H := br1 q21 H
          refine J_aload_n 0 dX11_style_79 rfl rfl ?_
          refine J_gP 10 5 dX11_style_80 (kq c16 g13) flX11_39 rfl (congrFun (congrFun c18 v0) 5) ?_
          refine J_aload_n 0 dX11_style_83 rfl rfl ?_
          refine J_gP 10 3 dX11_style_84 (kq c16 g13) flX11_25 rfl (congrFun (congrFun c18 v0) 3) ?_
          obtain ⟨g22, H⟩ := gd H
          refine J_gP 9 5 dX11_style_87 (kq c16 g22) flX11_126 rfl (congrFun (congrFun c18 (gP h11 v0 3)) 5) ?_
          refine J_iload_n 1 dX11_style_90 rfl rfl ?_
          obtain ⟨h24, e23, H⟩ := bd H
          refine J_cV (as := [.ref (gP h11 (gP h11 v0 3) 5), .int v1]) 6 YX7_addStyle 2 dX11_style_91 moX7_addStyle mvX7_addStyle mlX11_130 (kq c16 g20) rfl (okX7_addStyle (d := d + 35) e23) rfl rfl [] rfl rfl (st2 := []) rfl ?_
          refine J_aload_n 0 dX11_style_94 rfl rfl ?_
          obtain ⟨g25, H⟩ := gd H
          refine J_gP 10 3 dX11_style_95 g25 flX11_25 rfl rfl ?_
          obtain ⟨g26, H⟩ := gd H
          refine J_gP 9 5 dX11_style_98 g26 flX11_126 rfl rfl ?_
          obtain ⟨g27, H⟩ := gd H
          refine J_getI 8 1 dX11_style_101 g27 flX11_134 rfl ?_
          cases H
          exact J_iretI dX11_style_104 rfl
        · replace H := br0 q21 H
          cases H
          exact J_throw 3 ["java/lang/RuntimeException", "java/lang/Exception"] dX11_style_71 dX11_style_74 dX11_style_75 dX11_style_78 th_112 clX11_110 (Nat.le_of_ble_eq_true rfl)
      · replace H := br0 q19 H
        cases H
        exact J_throw 2 ["java/lang/RuntimeException", "java/lang/Exception"] dX11_style_51 dX11_style_54 dX11_style_55 dX11_style_58 th_89 clX11_87 (Nat.le_of_ble_eq_true rfl)
    · replace H := br0 q8 H
      cases H
      exact J_throw 2 ["java/lang/RuntimeException", "java/lang/Exception"] dX11_style_23 dX11_style_26 dX11_style_27 dX11_style_30 th_89 clX11_87 (Nat.le_of_ble_eq_true rfl)
theorem okX11_style {d : Nat} {h : Hp} {v0 : Nat} {v1 : Int32} {r : Int32 ⊕ Nat} {h9 : Hp} (H : MX11_style h v0 v1 = some (r, h9)) : CT (d + 38) YX11_style [.ref v0, .int v1] h (oT r) h9 := CT_of (by decide +kernel) (Nat.le_of_ble_eq_true rfl) (eX11_style H)
noncomputable def MX11_tear (h : Hp) (v0 : Nat) (v1 : Int32) (v2 : Int32) (v3 : Int32) : Option ((Int32 ⊕ Nat) × Hp) :=
  gg (kd h v0 = 10) <|
  gg (kd h (gP h v0 5) = 6) <|
  Option.bind (MX7_rowPlace h (gP h v0 5) v1 v2) fun t4 =>
  if t4 = (-1 : Int32) then
    some (.inr 4, bmp h 1 6)
  else
    gg (kd h (gP h (gP h v0 5) 12) = 20) <|
    gg (inB t4 (ln h (gP h (gP h v0 5) 12)) = true) <|
    lt (sI h (gP h (gP h v0 5) 12) t4.toNatClampNeg ((gI h (gP h (gP h v0 5) 12) t4.toNatClampNeg) ^^^ v3)) fun h8 =>
    some (.inl (gI h8 (gP h (gP h v0 5) 12) t4.toNatClampNeg), h8)
set_option maxRecDepth 100000 in
set_option maxHeartbeats 8000000 in
theorem eX11_tear {d : Nat} {h : Hp} {v0 : Nat} {v1 : Int32} {v2 : Int32} {v3 : Int32} {r : Int32 ⊕ Nat} {h9 : Hp} (H : MX11_tear h v0 v1 v2 v3 = some (r, h9)) : J (d + 2) YX11_tear 0 [.ref v0, .int v1, .int v2, .int v3, Value.null] [] h (oT r) h9 := by
  unfold MX11_tear at H
  refine J_aload_n 0 dX11_tear_0 rfl rfl ?_
  obtain ⟨g1, H⟩ := gd H
  refine J_gP 10 5 dX11_tear_1 g1 flX11_39 rfl rfl ?_
  refine J_iload_n 1 dX11_tear_4 rfl rfl ?_
  refine J_iload_n 2 dX11_tear_5 rfl rfl ?_
  obtain ⟨g3, H⟩ := gd H
  obtain ⟨t4, e2, H⟩ := bd H
  refine J_cV (as := [.int v1, .int v2]) 6 YX7_rowPlace 2 dX11_tear_6 moX7_rowPlace mvX7_rowPlace mlX11_483 g3 rfl (okX7_rowPlace (d := d) e2) rfl rfl [] rfl rfl (st2 := [.int t4]) rfl ?_
  refine J_istore dX11_tear_9 (by decide) (ls' := [.ref v0, .int v1, .int v2, .int v3, .int t4]) rfl ?_
  refine J_iload dX11_tear_11 rfl ?_
  refine J_iconst (-1 : Int32) dX11_tear_13 kc_m1 ?_
  refine J_icmp_ne 25 dX11_tear_14 rfl (fun q5 => ?_) (fun q5 => ?_)
  · replace H := br0 q5 H
    refine J_aload_n 0 dX11_tear_25 rfl rfl ?_
    refine J_gP 10 5 dX11_tear_26 g1 flX11_39 rfl rfl ?_
    refine J_gP 6 12 dX11_tear_29 g3 flX11_486 rfl rfl ?_
    refine J_iload dX11_tear_32 rfl ?_
    refine J_dup2 dX11_tear_34 rfl rfl ?_
    obtain ⟨g6, H⟩ := gd H
    obtain ⟨g7, H⟩ := gd H
    refine J_iald dX11_tear_35 g6 (inB_ok g7) ?_
    refine J_iload_n 3 dX11_tear_36 rfl rfl ?_
    refine J_ixor dX11_tear_37 ?_
    obtain ⟨h8, e9, H⟩ := lt_el H
    refine J_sI dX11_tear_38 g6 (inB_ok g7) e9 ?_
    have c10 := ekI e9
    have c11 := elI e9
    have c12 := epI e9
    refine J_aload_n 0 dX11_tear_39 rfl rfl ?_
    refine J_gP 10 5 dX11_tear_40 (kq c10 g1) flX11_39 rfl (congrFun (congrFun c12 v0) 5) ?_
    refine J_gP 6 12 dX11_tear_43 (kq c10 g3) flX11_486 rfl (congrFun (congrFun c12 (gP h v0 5)) 12) ?_
    refine J_iload dX11_tear_46 rfl ?_
    refine J_iald dX11_tear_48 (kq c10 g6) (lq c11 g7) ?_
    cases H
    exact J_iretI dX11_tear_49 rfl
  · replace H := br1 q5 H
    cases H
    exact J_throw 4 ["java/lang/RuntimeException", "java/lang/Exception"] dX11_tear_17 dX11_tear_20 dX11_tear_21 dX11_tear_24 th_174 clX11_172 (Nat.le_of_ble_eq_true rfl)
theorem okX11_tear {d : Nat} {h : Hp} {v0 : Nat} {v1 : Int32} {v2 : Int32} {v3 : Int32} {r : Int32 ⊕ Nat} {h9 : Hp} (H : MX11_tear h v0 v1 v2 v3 = some (r, h9)) : CT (d + 2) YX11_tear [.ref v0, .int v1, .int v2, .int v3] h (oT r) h9 := CT_of (by decide +kernel) (Nat.le_of_ble_eq_true rfl) (eX11_tear H)
