noncomputable def MX7_ownSlug_13 (h : Hp)  : Option (Nat × Hp) :=
  lt (α := Hp) (β := Option (Nat × Hp)) (alc h 7 15) fun (h2 : Hp) =>
  Option.bind (α := Hp) (β := (Nat × Hp)) (MX8_init h2 (sz h + 1)) fun (h5 : Hp) =>
  some ((sz h + 1), h5)
set_option maxRecDepth 100000 in
set_option maxHeartbeats 8000000 in
theorem kX7_ownSlug_13 {d : Nat} {h : Hp}  {r : Nat} {h9 : Hp} (H : MX7_ownSlug_13 h  = some (r, h9)) : J (d + 1) YX7_ownSlug 13 [Value.null, Value.null] [] h (oA r) h9 := by
  unfold MX7_ownSlug_13 at H
  obtain ⟨h2, e3, H⟩ := lt_el H
  refine J_nO 7 15 dX7_ownSlug_13 rfl rfl clX7_54 in7 ini7 e3 ?_
  refine J_dup dX7_ownSlug_16 rfl ?_
  obtain ⟨h5, e4, H⟩ := bd H
  refine J_cIN (as := []) YX8_init "LeadRoom" 0 dX7_ownSlug_17 moX8_init miX8_init mlX7_132 rfl rfl (kn99 (ekN e3) rfl) (okX8_init (d := d) e4) rfl rfl [.ref (sz h + 1)] rfl rfl ?_
  cases H
  exact J_aret dX7_ownSlug_20 rfl (Or.inl ⟨_, rfl⟩)
noncomputable def MX7_ownSlug_43 (h : Hp) (v0 : Nat) (v1 : Int32) : Option (Nat × Hp) :=
  gg (β := (Nat × Hp)) (kd h v0 = 6) <|
  gg (β := (Nat × Hp)) (kd h (gP h v0 10) = 28) <|
  gg (β := (Nat × Hp)) (inB v1 (ln h (gP h v0 10)) = true) <|
  some ((gP h (gP h v0 10) v1.toNatClampNeg), h)
set_option maxRecDepth 100000 in
set_option maxHeartbeats 8000000 in
theorem kX7_ownSlug_43 {d : Nat} {h : Hp} {v0 : Nat} {v1 : Int32} {r : Nat} {h9 : Hp} (H : MX7_ownSlug_43 h v0 v1 = some (r, h9)) : J (d + 1) YX7_ownSlug 43 [.ref v0, .int v1] [] h (oA r) h9 := by
  unfold MX7_ownSlug_43 at H
  refine J_aload_n 0 dX7_ownSlug_43 rfl rfl ?_
  obtain ⟨g11, H⟩ := gd H
  refine J_gP 6 10 dX7_ownSlug_44 g11 flX7_56 rfl rfl ?_
  refine J_iload_n 1 dX7_ownSlug_47 rfl rfl ?_
  obtain ⟨g12, H⟩ := gd H
  obtain ⟨g13, H⟩ := gd H
  refine J_lP 28 dX7_ownSlug_48 g12 rfl (inB_ok g13) rfl ?_
  cases H
  exact J_aret dX7_ownSlug_49 rfl (Or.inl ⟨_, rfl⟩)
noncomputable def MX7_ownSlug (h : Hp) (v0 : Nat) (v1 : Int32) : Option (Nat × Hp) :=
  if v1 < 0 then
    MX7_ownSlug_13 h
  else
    gg (β := (Nat × Hp)) (kd h v0 = 6) <|
    gg (β := (Nat × Hp)) (kd h (gP h v0 10) = 28) <|
    if v1 < (nI (ln h (gP h v0 10))) then
      gg (β := (Nat × Hp)) (inB v1 (ln h (gP h v0 10)) = true) <|
      if (gP h (gP h v0 10) v1.toNatClampNeg) = 0 then
        lt (α := Hp) (β := Option (Nat × Hp)) (alc h 7 15) fun (h14 : Hp) =>
        Option.bind (α := Hp) (β := (Nat × Hp)) (MX8_init h14 (sz h + 1)) fun (h17 : Hp) =>
        gg (β := (Nat × Hp)) (kd h17 (gP h v0 10) = 28) <|
        gg (β := (Nat × Hp)) (kd h17 (sz h + 1) = 7) <|
        gg (β := (Nat × Hp)) (inB v1 (ln h17 (gP h v0 10)) = true) <|
        lt (α := Hp) (β := Option (Nat × Hp)) (sP h17 (gP h v0 10) v1.toNatClampNeg (sz h + 1)) fun (h21 : Hp) =>
        MX7_ownSlug_43 h21 v0 v1
      else
        MX7_ownSlug_43 h v0 v1
    else
      MX7_ownSlug_13 h
set_option maxRecDepth 100000 in
set_option maxHeartbeats 8000000 in
theorem eX7_ownSlug {d : Nat} {h : Hp} {v0 : Nat} {v1 : Int32} {r : Nat} {h9 : Hp} (H : MX7_ownSlug h v0 v1 = some (r, h9)) : J (d + 1) YX7_ownSlug 0 [.ref v0, .int v1] [] h (oA r) h9 := by
  unfold MX7_ownSlug at H
  refine J_iload_n 1 dX7_ownSlug_0 rfl rfl ?_
  refine J_if_lt 13 dX7_ownSlug_1 rfl (fun q1 => ?_) (fun q1 => ?_)
  · replace H := br1 q1 H
    exact J_dr (kX7_ownSlug_13 H ) trivial
  · replace H := br0 q1 H
    refine J_iload_n 1 dX7_ownSlug_4 rfl rfl ?_
    refine J_aload_n 0 dX7_ownSlug_5 rfl rfl ?_
    obtain ⟨g6, H⟩ := gd H
    refine J_gP 6 10 dX7_ownSlug_6 g6 flX7_56 rfl rfl ?_
    obtain ⟨g7, H⟩ := gd H
    refine J_len 28 dX7_ownSlug_9 g7 rfl ?_
    refine J_icmp_lt 21 dX7_ownSlug_10 rfl (fun q8 => ?_) (fun q8 => ?_)
    · replace H := br1 q8 H
      refine J_aload_n 0 dX7_ownSlug_21 rfl rfl ?_
      refine J_gP 6 10 dX7_ownSlug_22 g6 flX7_56 rfl rfl ?_
      refine J_iload_n 1 dX7_ownSlug_25 rfl rfl ?_
      obtain ⟨g9, H⟩ := gd H
      refine J_lP 28 dX7_ownSlug_26 g7 rfl (inB_ok g9) rfl ?_
      refine J_ifnonnull 43 dX7_ownSlug_27 rfl (fun q10 => ?_) (fun q10 => ?_)
      · replace H := br0 q10 H
        exact J_dr (kX7_ownSlug_43 H ) ⟨rfl, ⟨rfl, trivial⟩⟩
      · replace H := br1 q10 H
        refine J_aload_n 0 dX7_ownSlug_30 rfl rfl ?_
        refine J_gP 6 10 dX7_ownSlug_31 g6 flX7_56 rfl rfl ?_
        refine J_iload_n 1 dX7_ownSlug_34 rfl rfl ?_
        obtain ⟨h14, e15, H⟩ := lt_el H
        refine J_nO 7 15 dX7_ownSlug_35 rfl rfl clX7_54 in7 ini7 e15 ?_
        refine J_dup dX7_ownSlug_38 rfl ?_
        obtain ⟨h17, e16, H⟩ := bd H
        refine J_cIN (as := []) YX8_init "LeadRoom" 0 dX7_ownSlug_39 moX8_init miX8_init mlX7_132 rfl rfl (kn99 (ekN e15) rfl) (okX8_init (d := d) e16) rfl rfl [.ref (sz h + 1), .int v1, .ref (gP h v0 10)] rfl rfl ?_
        obtain ⟨g18, H⟩ := gd H
        obtain ⟨g19, H⟩ := gd H
        obtain ⟨g20, H⟩ := gd H
        obtain ⟨h21, e22, H⟩ := lt_el H
        refine J_sA 28 dX7_ownSlug_42 g18 rfl g19 (inB_ok g20) e22 ?_
        have c23 := ekP e22
        have c24 := elP e22
        exact J_dr (kX7_ownSlug_43 H ) ⟨rfl, ⟨rfl, trivial⟩⟩
    · replace H := br0 q8 H
      exact J_dr (kX7_ownSlug_13 H ) trivial
theorem okX7_ownSlug {d : Nat} {h : Hp} {v0 : Nat} {v1 : Int32} {r : Nat} {h9 : Hp} (H : MX7_ownSlug h v0 v1 = some (r, h9)) : CT (d + 1) YX7_ownSlug [.ref v0, .int v1] h (oA r) h9 := CT_of (by decide +kernel) (Nat.le_of_ble_eq_true rfl) (eX7_ownSlug H)
noncomputable def MX7_takeAway_34 (h : Hp) (v1 : Nat) (v2 : Int32) : Option Hp :=
  gg (β := Hp) (kd h v1 = 7) <|
  lt (α := Hp) (β := Option Hp) (sI h v1 10 v2) fun (h7 : Hp) =>
  lt (α := Hp) (β := Option Hp) (sI h7 v1 12 (-1 : Int32)) fun (h12 : Hp) =>
  lt (α := Hp) (β := Option Hp) (sI h12 v1 11 (-1 : Int32)) fun (h17 : Hp) =>
  some h17
set_option maxRecDepth 100000 in
set_option maxHeartbeats 8000000 in
theorem kX7_takeAway_34 {d : Nat} {h : Hp} {v1 : Nat} {v2 : Int32} {h9 : Hp} (H : MX7_takeAway_34 h v1 v2 = some h9) : J (d + 1) YX7_takeAway 34 [Value.null, .ref v1, .int v2, Value.null] [] h oV h9 := by
  unfold MX7_takeAway_34 at H
  refine J_aload_n 1 dX7_takeAway_34 rfl rfl ?_
  refine J_iload_n 2 dX7_takeAway_35 rfl rfl ?_
  obtain ⟨g6, H⟩ := gd H
  obtain ⟨h7, e8, H⟩ := lt_el H
  refine J_pI 7 10 dX7_takeAway_36 g6 flX7_318 rfl rfl e8 ?_
  have c9 := ekI e8
  have c10 := elI e8
  have c11 := epI e8
  refine J_aload_n 1 dX7_takeAway_39 rfl rfl ?_
  refine J_iconst (-1 : Int32) dX7_takeAway_40 kc_m1 ?_
  obtain ⟨h12, e13, H⟩ := lt_el H
  refine J_pI 7 12 dX7_takeAway_41 (kq c9 g6) flX7_321 rfl rfl e13 ?_
  have c14 := (ekI e13).trans c9
  have c15 := (elI e13).trans c10
  have c16 := (epI e13).trans c11
  refine J_aload_n 1 dX7_takeAway_44 rfl rfl ?_
  refine J_iconst (-1 : Int32) dX7_takeAway_45 kc_m1 ?_
  obtain ⟨h17, e18, H⟩ := lt_el H
  refine J_pI 7 11 dX7_takeAway_46 (kq c14 g6) flX7_324 rfl rfl e18 ?_
  have c19 := (ekI e18).trans c14
  have c20 := (elI e18).trans c15
  have c21 := (epI e18).trans c16
  cases H
  exact J_ret dX7_takeAway_49 rfl
noncomputable def MX7_takeAway (h : Hp) (v0 : Nat) (v1 : Nat) (v2 : Int32) : Option Hp :=
  gg (β := Hp) (kd h v1 = 7) <|
  gg (β := Hp) (kd h v0 = 6) <|
  Option.bind (α := Nat) (β := Hp) (MX7_findPart h v0 (gI h v1 12)) fun (t4 : Nat) =>
  if t4 = 0 then
    MX7_takeAway_34 h v1 v2
  else
    gg (β := Hp) (kd h t4 = 4) <|
    Option.bind (α := Int32) (β := Hp) (MX5_hasLine h t4 (gI h v1 11)) fun (t24 : Int32) =>
    if t24 = 0 then
      MX7_takeAway_34 h v1 v2
    else
      gg (β := Hp) (kd h (gP h t4 4) = 20) <|
      gg (β := Hp) (inB (gI h v1 11) (ln h (gP h t4 4)) = true) <|
      lt (α := Hp) (β := Option Hp) (sI h (gP h t4 4) (gI h v1 11).toNatClampNeg (-1 : Int32)) fun (h28 : Hp) =>
      MX7_takeAway_34 h28 v1 v2
set_option maxRecDepth 100000 in
set_option maxHeartbeats 8000000 in
theorem eX7_takeAway {d : Nat} {h : Hp} {v0 : Nat} {v1 : Nat} {v2 : Int32} {h9 : Hp} (H : MX7_takeAway h v0 v1 v2 = some h9) : J (d + 1) YX7_takeAway 0 [.ref v0, .ref v1, .int v2, Value.null] [] h oV h9 := by
  unfold MX7_takeAway at H
  refine J_aload_n 0 dX7_takeAway_0 rfl rfl ?_
  refine J_aload_n 1 dX7_takeAway_1 rfl rfl ?_
  obtain ⟨g1, H⟩ := gd H
  refine J_getI 7 12 dX7_takeAway_2 g1 flX7_321 rfl ?_
  obtain ⟨g3, H⟩ := gd H
  obtain ⟨t4, e2, H⟩ := bd H
  refine J_cV (as := [.int (gI h v1 12)]) 6 YX7_findPart 1 dX7_takeAway_5 moX7_findPart mvX7_findPart mlX7_120 g3 rfl rfl (okX7_findPart (d := d) e2) rfl rfl [] rfl rfl (st2 := [.ref t4]) rfl ?_
  refine J_astore_n 3 dX7_takeAway_8 rfl (by decide) (ls' := [.ref v0, .ref v1, .int v2, .ref t4]) rfl ?_
  refine J_aload_n 3 dX7_takeAway_9 rfl rfl ?_
  refine J_ifnull 34 dX7_takeAway_10 rfl (fun q5 => ?_) (fun q5 => ?_)
  · replace H := br1 q5 H
    exact J_dr (kX7_takeAway_34 H ) ⟨rfl, ⟨rfl, trivial⟩⟩
  · replace H := br0 q5 H
    refine J_aload_n 3 dX7_takeAway_13 rfl rfl ?_
    refine J_aload_n 1 dX7_takeAway_14 rfl rfl ?_
    refine J_getI 7 11 dX7_takeAway_15 g1 flX7_324 rfl ?_
    obtain ⟨g23, H⟩ := gd H
    obtain ⟨t24, e22, H⟩ := bd H
    refine J_cV (as := [.int (gI h v1 11)]) 4 YX5_hasLine 1 dX7_takeAway_18 moX5_hasLine mvX5_hasLine mlX7_284 g23 rfl rfl (okX5_hasLine (d := d) e22) rfl rfl [] rfl rfl (st2 := [.int t24]) rfl ?_
    refine J_if_eq 34 dX7_takeAway_21 rfl (fun q25 => ?_) (fun q25 => ?_)
    · replace H := br1 q25 H
      exact J_dr (kX7_takeAway_34 H ) ⟨rfl, ⟨rfl, trivial⟩⟩
    · replace H := br0 q25 H
      refine J_aload_n 3 dX7_takeAway_24 rfl rfl ?_
      refine J_gP 4 4 dX7_takeAway_25 g23 flX7_327 rfl rfl ?_
      refine J_aload_n 1 dX7_takeAway_28 rfl rfl ?_
      refine J_getI 7 11 dX7_takeAway_29 g1 flX7_324 rfl ?_
      refine J_iconst (-1 : Int32) dX7_takeAway_32 kc_m1 ?_
      obtain ⟨g26, H⟩ := gd H
      obtain ⟨g27, H⟩ := gd H
      obtain ⟨h28, e29, H⟩ := lt_el H
      refine J_sI dX7_takeAway_33 g26 (inB_ok g27) e29 ?_
      have c30 := ekI e29
      have c31 := elI e29
      have c32 := epI e29
      exact J_dr (kX7_takeAway_34 H ) ⟨rfl, ⟨rfl, trivial⟩⟩
theorem okX7_takeAway {d : Nat} {h : Hp} {v0 : Nat} {v1 : Nat} {v2 : Int32} {h9 : Hp} (H : MX7_takeAway h v0 v1 v2 = some h9) : CT (d + 1) YX7_takeAway [.ref v0, .ref v1, .int v2] h oV h9 := CT_of (by decide +kernel) (Nat.le_of_ble_eq_true rfl) (eX7_takeAway H)
noncomputable def MX7_takeAwayAt (h : Hp) (v0 : Nat) (v1 : Nat) (v2 : Int32) : Option Hp :=
  gg (β := Hp) (kd h v1 = 4) <|
  gg (β := Hp) (kd h (gP h v1 4) = 20) <|
  gg (β := Hp) (inB v2 (ln h (gP h v1 4)) = true) <|
  gg (β := Hp) (kd h v0 = 6) <|
  Option.bind (α := Nat) (β := Hp) (MX7_findSlug h v0 (gI h (gP h v1 4) v2.toNatClampNeg)) fun (t6 : Nat) =>
  if t6 = 0 then
    some h
  else
    Option.bind (α := Hp) (β := Hp) (MX7_takeAway h v0 t6 (2 : Int32)) fun (h9 : Hp) =>
    some h9
set_option maxRecDepth 100000 in
set_option maxHeartbeats 8000000 in
theorem eX7_takeAwayAt {d : Nat} {h : Hp} {v0 : Nat} {v1 : Nat} {v2 : Int32} {h9 : Hp} (H : MX7_takeAwayAt h v0 v1 v2 = some h9) : J (d + 2) YX7_takeAwayAt 0 [.ref v0, .ref v1, .int v2, Value.null] [] h oV h9 := by
  unfold MX7_takeAwayAt at H
  refine J_aload_n 0 dX7_takeAwayAt_0 rfl rfl ?_
  refine J_aload_n 1 dX7_takeAwayAt_1 rfl rfl ?_
  obtain ⟨g1, H⟩ := gd H
  refine J_gP 4 4 dX7_takeAwayAt_2 g1 flX7_327 rfl rfl ?_
  refine J_iload_n 2 dX7_takeAwayAt_5 rfl rfl ?_
  obtain ⟨g2, H⟩ := gd H
  obtain ⟨g3, H⟩ := gd H
  refine J_iald dX7_takeAwayAt_6 g2 (inB_ok g3) ?_
  obtain ⟨g5, H⟩ := gd H
  obtain ⟨t6, e4, H⟩ := bd H
  refine J_cV (as := [.int (gI h (gP h v1 4) v2.toNatClampNeg)]) 6 YX7_findSlug 1 dX7_takeAwayAt_7 moX7_findSlug mvX7_findSlug mlX7_315 g5 rfl rfl (okX7_findSlug (d := d + 1) e4) rfl rfl [] rfl rfl (st2 := [.ref t6]) rfl ?_
  refine J_astore_n 3 dX7_takeAwayAt_10 rfl (by decide) (ls' := [.ref v0, .ref v1, .int v2, .ref t6]) rfl ?_
  refine J_aload_n 3 dX7_takeAwayAt_11 rfl rfl ?_
  refine J_ifnull 21 dX7_takeAwayAt_12 rfl (fun q7 => ?_) (fun q7 => ?_)
  · replace H := br1 q7 H
    cases H
    exact J_ret dX7_takeAwayAt_21 rfl
  · replace H := br0 q7 H
    refine J_aload_n 0 dX7_takeAwayAt_15 rfl rfl ?_
    refine J_aload_n 3 dX7_takeAwayAt_16 rfl rfl ?_
    refine J_iconst (2 : Int32) dX7_takeAwayAt_17 kc_2 ?_
    obtain ⟨h9, e8, H⟩ := bd H
    refine J_cV (as := [.ref t6, .int (2 : Int32)]) 6 YX7_takeAway 2 dX7_takeAwayAt_18 moX7_takeAway mvX7_takeAway mlX7_329 g5 rfl rfl (okX7_takeAway (d := d) e8) rfl rfl [] rfl rfl (st2 := []) rfl ?_
    cases H
    exact J_ret dX7_takeAwayAt_21 rfl
theorem okX7_takeAwayAt {d : Nat} {h : Hp} {v0 : Nat} {v1 : Nat} {v2 : Int32} {h9 : Hp} (H : MX7_takeAwayAt h v0 v1 v2 = some h9) : CT (d + 2) YX7_takeAwayAt [.ref v0, .ref v1, .int v2] h oV h9 := CT_of (by decide +kernel) (Nat.le_of_ble_eq_true rfl) (eX7_takeAwayAt H)
noncomputable def MX8_roomFor_22 (h : Hp) (v0 : Int32) (v1 : Int32) : Option Int32 :=
  some (jmax v1 v0)
set_option maxRecDepth 100000 in
set_option maxHeartbeats 8000000 in
theorem kX8_roomFor_22 {d : Nat} {h : Hp} {v0 : Int32} {v1 : Int32} {r : Int32} (H : MX8_roomFor_22 h v0 v1 = some r) : J (d) YX8_roomFor 22 [.int v0, .int v1] [] h (oI r) h := by
  unfold MX8_roomFor_22 at H
  refine J_iload_n 1 dX8_roomFor_22 rfl rfl ?_
  refine J_iload_n 0 dX8_roomFor_23 rfl rfl ?_
  refine J_mx dX8_roomFor_24 mlX8_75 rfl ?_
  cases H
  exact J_iretI dX8_roomFor_27 rfl
noncomputable def BX8_roomFor_3 (h : Hp) (v0 : Int32) (v1 : Int32) : Option ((Int32) ⊕ Int32) :=
  if v0 ≤ v1 then
    up1 (MX8_roomFor_22 h v0 v1)
  else
    if (512 : Int32) ≤ v1 then
      up1 (MX8_roomFor_22 h v0 v1)
    else
      some (.inl (v1 * (2 : Int32)))
set_option maxRecDepth 100000 in
set_option maxHeartbeats 8000000 in
theorem bX8_roomFor_3 {d : Nat} {h : Hp} {v0 : Int32} {v1 : Int32} {r : Int32} {x : ((Int32) ⊕ Int32)} (H : BX8_roomFor_3 h v0 v1 = some x) (hb0 : ∀ s : Int32, x = .inl s → J (d) YX8_roomFor 3 [.int v0, .int s] [] h (oI r) h) (hx : ∀ z : Int32, x = .inr (z) → z = r) : J (d) YX8_roomFor 3 [.int v0, .int v1] [] h (oI r) h := by
  unfold BX8_roomFor_3 at H
  refine J_iload_n 1 dX8_roomFor_3 rfl rfl ?_
  refine J_iload_n 0 dX8_roomFor_4 rfl rfl ?_
  refine J_icmp_ge 22 dX8_roomFor_5 rfl (fun q1 => ?_) (fun q1 => ?_)
  · replace H := br1 q1 H
    obtain ⟨y0, H90, rfl⟩ := up1_el H
    replace H := H90
    obtain rfl := hx _ rfl
    exact J_dr (kX8_roomFor_22 H ) ⟨rfl, ⟨rfl, trivial⟩⟩
  · replace H := br0 q1 H
    refine J_iload_n 1 dX8_roomFor_8 rfl rfl ?_
    refine J_sipush (512 : Int32) dX8_roomFor_9 ks_512 ?_
    refine J_icmp_ge 22 dX8_roomFor_12 rfl (fun q2 => ?_) (fun q2 => ?_)
    · replace H := br1 q2 H
      obtain ⟨y0, H90, rfl⟩ := up1_el H
      replace H := H90
      obtain rfl := hx _ rfl
      exact J_dr (kX8_roomFor_22 H ) ⟨rfl, ⟨rfl, trivial⟩⟩
    · replace H := br0 q2 H
      refine J_iload_n 1 dX8_roomFor_15 rfl rfl ?_
      refine J_iconst (2 : Int32) dX8_roomFor_16 kc_2 ?_
      refine J_imul dX8_roomFor_17 ?_
      refine J_istore_n 1 dX8_roomFor_18 rfl (by decide) (ls' := [.int v0, .int (v1 * (2 : Int32))]) rfl ?_
      refine J_goto 3 dX8_roomFor_19 rfl ?_
      cases H
      exact J_dr (hb0 _ rfl) ⟨rfl, ⟨rfl, trivial⟩⟩
noncomputable def MX8_roomFor_3 (h : Hp) (v0 : Int32) (v1 : Int32) : Option Int32 := it (fun q : Int32 => BX8_roomFor_3 h v0 q) (v1)
set_option maxRecDepth 100000 in
set_option maxHeartbeats 8000000 in
theorem kX8_roomFor_3 {d : Nat} {h : Hp} {v0 : Int32} {v1 : Int32} {r : Int32} (H : MX8_roomFor_3 h v0 v1 = some r) : J (d) YX8_roomFor 3 [.int v0, .int v1] [] h (oI r) h := by
  unfold MX8_roomFor_3 at H
  refine it_J (G := (fun q : Int32 => J (d) YX8_roomFor 3 [.int v0, .int q] [] h (oI r) h)) (Q := (fun y : Int32 => y = r)) (fun q x Hq hm => ?_) H rfl
  exact bX8_roomFor_3 Hq (fun s hs => by subst hs; exact hm) (fun z hz => by subst hz; exact hm)
noncomputable def MX8_roomFor (h : Hp) (v0 : Int32) : Option Int32 :=
  MX8_roomFor_3 h v0 (32 : Int32)
set_option maxRecDepth 100000 in
set_option maxHeartbeats 8000000 in
theorem eX8_roomFor {d : Nat} {h : Hp} {v0 : Int32} {r : Int32} (H : MX8_roomFor h v0 = some r) : J (d) YX8_roomFor 0 [.int v0, Value.null] [] h (oI r) h := by
  unfold MX8_roomFor at H
  refine J_bipush (32 : Int32) dX8_roomFor_0 kb_32 ?_
  refine J_istore_n 1 dX8_roomFor_2 rfl (by decide) (ls' := [.int v0, .int (32 : Int32)]) rfl ?_
  exact J_dr (kX8_roomFor_3 H ) ⟨rfl, ⟨rfl, trivial⟩⟩
theorem okX8_roomFor {d : Nat} {h : Hp} {v0 : Int32} {r : Int32} (H : MX8_roomFor h v0 = some r) : CT (d) YX8_roomFor [.int v0] h (oI r) h := CT_of (by decide +kernel) (Nat.le_of_ble_eq_true rfl) (eX8_roomFor H)
noncomputable def MX8_takeText_138 (h : Hp) (v0 : Nat) : Option Hp :=
  gg (β := Hp) (kd h v0 = 7) <|
  lt (α := Hp) (β := Option Hp) (sI h v0 4 (0 : Int32)) fun (h55 : Hp) =>
  lt (α := Hp) (β := Option Hp) (sI h55 v0 13 (0 : Int32)) fun (h60 : Hp) =>
  some h60
set_option maxRecDepth 100000 in
set_option maxHeartbeats 8000000 in
theorem kX8_takeText_138 {d : Nat} {h : Hp} {v0 : Nat} {h9 : Hp} (H : MX8_takeText_138 h v0 = some h9) : J (d + 1) YX8_takeText 138 [.ref v0, Value.null, Value.null, Value.null] [] h oV h9 := by
  unfold MX8_takeText_138 at H
  refine J_aload_n 0 dX8_takeText_138 rfl rfl ?_
  refine J_iconst (0 : Int32) dX8_takeText_139 kc_0 ?_
  obtain ⟨g54, H⟩ := gd H
  obtain ⟨h55, e56, H⟩ := lt_el H
  refine J_pI 7 4 dX8_takeText_140 g54 flX8_25 rfl rfl e56 ?_
  have c57 := ekI e56
  have c58 := elI e56
  have c59 := epI e56
  refine J_aload_n 0 dX8_takeText_143 rfl rfl ?_
  refine J_iconst (0 : Int32) dX8_takeText_144 kc_0 ?_
  obtain ⟨h60, e61, H⟩ := lt_el H
  refine J_pI 7 13 dX8_takeText_145 (kq c57 g54) flX8_52 rfl rfl e61 ?_
  have c62 := (ekI e61).trans c57
  have c63 := (elI e61).trans c58
  have c64 := (epI e61).trans c59
  cases H
  exact J_ret dX8_takeText_148 rfl
noncomputable def MX8_takeText_128 (h : Hp) (v0 : Nat) (v3 : Int32) (s0 : Nat) (s1 : Int32) (s2 : Int32) : Option ((Int32 × Hp) ⊕ Hp) :=
  gg (β := ((Int32 × Hp) ⊕ Hp)) (kd h s0 = 7) <|
  lt (α := Hp) (β := Option ((Int32 × Hp) ⊕ Hp)) (sI h s0 3 (s1 + s2)) fun (h69 : Hp) =>
  some (.inl ((v3 + (1 : Int32)), h69))
set_option maxRecDepth 100000 in
set_option maxHeartbeats 8000000 in
theorem kX8_takeText_128 {d : Nat} {h : Hp} {v0 : Nat} {v3 : Int32} {s0 : Nat} {s1 : Int32} {s2 : Int32} {h9 : Hp} {x : ((Int32 × Hp) ⊕ Hp)} (H : MX8_takeText_128 h v0 v3 s0 s1 s2 = some x) (hb0 : ∀ s : Int32 × Hp, x = .inl s → J (d + 1) YX8_takeText 99 [.ref v0, Value.null, Value.null, .int s.1] [] s.2 oV h9) (hx : ∀ z : Hp, x = .inr (z) → z = h9) : J (d + 1) YX8_takeText 128 [.ref v0, Value.null, Value.null, .int v3] [.int s2, .int s1, .ref s0] h oV h9 := by
  unfold MX8_takeText_128 at H
  refine J_iadd dX8_takeText_128 ?_
  obtain ⟨g68, H⟩ := gd H
  obtain ⟨h69, e70, H⟩ := lt_el H
  refine J_pI 7 3 dX8_takeText_129 g68 flX8_22 rfl rfl e70 ?_
  have c71 := ekI e70
  have c72 := elI e70
  have c73 := epI e70
  refine J_iinc (v3 + (1 : Int32)) dX8_takeText_132 rfl (congrArg (HAdd.hAdd v3) kc_1) (by decide) (ls' := [.ref v0, Value.null, Value.null, .int (v3 + (1 : Int32))]) rfl ?_
  refine J_goto 99 dX8_takeText_135 rfl ?_
  cases H
  exact J_dr (hb0 _ rfl) ⟨rfl, ⟨rfl, trivial⟩⟩
noncomputable def BX8_takeText_99 (h : Hp) (v0 : Nat) (v3 : Int32) : Option ((Int32 × Hp) ⊕ Hp) :=
  gg (β := ((Int32 × Hp) ⊕ Hp)) (kd h v0 = 7) <|
  if (gI h v0 2) ≤ v3 then
    up1 (MX8_takeText_138 h v0)
  else
    gg (β := ((Int32 × Hp) ⊕ Hp)) (kd h (gP h v0 0) = 21) <|
    gg (β := ((Int32 × Hp) ⊕ Hp)) (inB v3 (ln h (gP h v0 0)) = true) <|
    if (gI h (gP h v0 0) v3.toNatClampNeg) = (32 : Int32) then
      MX8_takeText_128 h v0 v3 v0 (gI h v0 3) (0 : Int32)
    else
      MX8_takeText_128 h v0 v3 v0 (gI h v0 3) (1 : Int32)
set_option maxRecDepth 100000 in
set_option maxHeartbeats 8000000 in
theorem bX8_takeText_99 {d : Nat} {h : Hp} {v0 : Nat} {v3 : Int32} {h9 : Hp} {x : ((Int32 × Hp) ⊕ Hp)} (H : BX8_takeText_99 h v0 v3 = some x) (hb0 : ∀ s : Int32 × Hp, x = .inl s → J (d + 1) YX8_takeText 99 [.ref v0, Value.null, Value.null, .int s.1] [] s.2 oV h9) (hx : ∀ z : Hp, x = .inr (z) → z = h9) : J (d + 1) YX8_takeText 99 [.ref v0, Value.null, Value.null, .int v3] [] h oV h9 := by
  unfold BX8_takeText_99 at H
  refine J_iload_n 3 dX8_takeText_99 rfl rfl ?_
  refine J_aload_n 0 dX8_takeText_100 rfl rfl ?_
  obtain ⟨g52, H⟩ := gd H
  refine J_getI 7 2 dX8_takeText_101 g52 flX8_18 rfl ?_
  refine J_icmp_ge 138 dX8_takeText_104 rfl (fun q53 => ?_) (fun q53 => ?_)
  · replace H := br1 q53 H
    obtain ⟨y0, H90, rfl⟩ := up1_el H
    replace H := H90
    obtain rfl := hx _ rfl
    exact J_dr (kX8_takeText_138 H ) ⟨rfl, trivial⟩
  · replace H := br0 q53 H
    refine J_aload_n 0 dX8_takeText_107 rfl rfl ?_
    refine J_dup dX8_takeText_108 rfl ?_
    refine J_getI 7 3 dX8_takeText_109 g52 flX8_22 rfl ?_
    refine J_aload_n 0 dX8_takeText_112 rfl rfl ?_
    refine J_gP 7 0 dX8_takeText_113 g52 flX8_9 rfl rfl ?_
    refine J_iload_n 3 dX8_takeText_116 rfl rfl ?_
    obtain ⟨g65, H⟩ := gd H
    obtain ⟨g66, H⟩ := gd H
    refine J_bald dX8_takeText_117 g65 (inB_ok g66) ?_
    refine J_bipush (32 : Int32) dX8_takeText_118 kb_32 ?_
    refine J_icmp_ne 127 dX8_takeText_120 rfl (fun q67 => ?_) (fun q67 => ?_)
    · replace H := br0 q67 H
      refine J_iconst (1 : Int32) dX8_takeText_127 kc_1 ?_
      exact J_dr (kX8_takeText_128 H hb0 hx) ⟨rfl, ⟨rfl, trivial⟩⟩
    · replace H := br1 q67 H
      refine J_iconst (0 : Int32) dX8_takeText_123 kc_0 ?_
      refine J_goto 128 dX8_takeText_124 rfl ?_
      exact J_dr (kX8_takeText_128 H hb0 hx) ⟨rfl, ⟨rfl, trivial⟩⟩
noncomputable def MX8_takeText_99 (h : Hp) (v0 : Nat) (v3 : Int32) : Option Hp := it (fun q : Int32 × Hp => BX8_takeText_99 q.2 v0 q.1) (v3, h)
set_option maxRecDepth 100000 in
set_option maxHeartbeats 8000000 in
theorem kX8_takeText_99 {d : Nat} {h : Hp} {v0 : Nat} {v3 : Int32} {h9 : Hp} (H : MX8_takeText_99 h v0 v3 = some h9) : J (d + 1) YX8_takeText 99 [.ref v0, Value.null, Value.null, .int v3] [] h oV h9 := by
  unfold MX8_takeText_99 at H
  refine it_J (G := (fun q : Int32 × Hp => J (d + 1) YX8_takeText 99 [.ref v0, Value.null, Value.null, .int q.1] [] q.2 oV h9)) (Q := (fun y : Hp => y = h9)) (fun q x Hq hm => ?_) H rfl
  exact bX8_takeText_99 Hq (fun s hs => by subst hs; exact hm) (fun z hz => by subst hz; exact hm)
noncomputable def MX8_takeText_64 (h : Hp) (v0 : Nat) (v1 : Nat) : Option Hp :=
  gg (β := Hp) (kd h v0 = 7) <|
  gg (β := Hp) (kd h v1 = 21) <|
  gg (β := Hp) (kd h (gP h v0 0) = 21) <|
  gg (β := Hp) (cpB (0 : Int32) (0 : Int32) (gI h v0 2) (ln h v1) (ln h (gP h v0 0)) = true) <|
  lt (α := Hp) (β := Option Hp) (rI h (gP h v0 0) (va_cpy (gI h v1) (gI h (gP h v0 0)) (0 : Int32).toNatClampNeg (0 : Int32).toNatClampNeg (gI h v0 2).toNatClampNeg)) fun (h35 : Hp) =>
  gg (β := Hp) (kd h (gP h v0 1) = 21) <|
  gg (β := Hp) (cpB (0 : Int32) (0 : Int32) (gI h35 v0 2) (ln h35 v1) (ln h35 (gP h v0 1)) = true) <|
  lt (α := Hp) (β := Option Hp) (rI h35 (gP h v0 1) (va_cpy (gI h35 v1) (gI h35 (gP h v0 1)) (0 : Int32).toNatClampNeg (0 : Int32).toNatClampNeg (gI h35 v0 2).toNatClampNeg)) fun (h42 : Hp) =>
  lt (α := Hp) (β := Option Hp) (sI h42 v0 3 (0 : Int32)) fun (h47 : Hp) =>
  MX8_takeText_99 h47 v0 (0 : Int32)
set_option maxRecDepth 100000 in
set_option maxHeartbeats 8000000 in
theorem kX8_takeText_64 {d : Nat} {h : Hp} {v0 : Nat} {v1 : Nat} {h9 : Hp} (H : MX8_takeText_64 h v0 v1 = some h9) : J (d + 1) YX8_takeText 64 [.ref v0, .ref v1, Value.null, Value.null] [] h oV h9 := by
  unfold MX8_takeText_64 at H
  refine J_aload_n 1 dX8_takeText_64 rfl rfl ?_
  refine J_iconst (0 : Int32) dX8_takeText_65 kc_0 ?_
  refine J_aload_n 0 dX8_takeText_66 rfl rfl ?_
  obtain ⟨g31, H⟩ := gd H
  refine J_gP 7 0 dX8_takeText_67 g31 flX8_9 rfl rfl ?_
  refine J_iconst (0 : Int32) dX8_takeText_70 kc_0 ?_
  refine J_aload_n 0 dX8_takeText_71 rfl rfl ?_
  refine J_getI 7 2 dX8_takeText_72 g31 flX8_18 rfl ?_
  obtain ⟨g32, H⟩ := gd H
  obtain ⟨g33, H⟩ := gd H
  obtain ⟨g34, H⟩ := gd H
  obtain ⟨h35, e36, H⟩ := lt_el H
  refine J_cp 21 dX8_takeText_75 mlX8_63 (Or.inr rfl) g32 g33 g34 rfl e36 ?_
  have c37 := ekR e36
  have c38 := elR e36
  have c39 := epR e36
  refine J_aload_n 1 dX8_takeText_78 rfl rfl ?_
  refine J_iconst (0 : Int32) dX8_takeText_79 kc_0 ?_
  refine J_aload_n 0 dX8_takeText_80 rfl rfl ?_
  refine J_gP 7 1 dX8_takeText_81 (kq c37 g31) flX8_15 rfl (congrFun (congrFun c39 v0) 1) ?_
  refine J_iconst (0 : Int32) dX8_takeText_84 kc_0 ?_
  refine J_aload_n 0 dX8_takeText_85 rfl rfl ?_
  refine J_getI 7 2 dX8_takeText_86 (kq c37 g31) flX8_18 rfl ?_
  obtain ⟨g40, H⟩ := gd H
  obtain ⟨g41, H⟩ := gd H
  obtain ⟨h42, e43, H⟩ := lt_el H
  refine J_cp 21 dX8_takeText_89 mlX8_63 (Or.inr rfl) (kq c37 g32) (kq c37 g40) g41 rfl e43 ?_
  have c44 := (ekR e43).trans c37
  have c45 := (elR e43).trans c38
  have c46 := (epR e43).trans c39
  refine J_aload_n 0 dX8_takeText_92 rfl rfl ?_
  refine J_iconst (0 : Int32) dX8_takeText_93 kc_0 ?_
  obtain ⟨h47, e48, H⟩ := lt_el H
  refine J_pI 7 3 dX8_takeText_94 (kq c44 g31) flX8_22 rfl rfl e48 ?_
  have c49 := (ekI e48).trans c44
  have c50 := (elI e48).trans c45
  have c51 := (epI e48).trans c46
  refine J_iconst (0 : Int32) dX8_takeText_97 kc_0 ?_
  refine J_istore_n 3 dX8_takeText_98 rfl (by decide) (ls' := [.ref v0, .ref v1, Value.null, .int (0 : Int32)]) rfl ?_
  exact J_dr (kX8_takeText_99 H ) ⟨rfl, ⟨rfl, trivial⟩⟩
noncomputable def MX8_takeText_38 (h : Hp) (v0 : Nat) (v1 : Nat) : Option Hp :=
  gg (β := Hp) (kd h v0 = 7) <|
  Option.bind (α := Int32) (β := Hp) (MX8_roomFor h (gI h v0 2)) fun (t12 : Int32) =>
  gg (β := Hp) (nOk t12 = true) <|
  lt (α := Hp) (β := Option Hp) (alc h 21 (t12.toNatClampNeg)) fun (h13 : Hp) =>
  gg (β := Hp) (kd h13 v0 = 7) <|
  lt (α := Hp) (β := Option Hp) (sP h13 v0 0 (sz h + 1)) fun (h17 : Hp) =>
  Option.bind (α := Int32) (β := Hp) (MX8_roomFor h17 (gI h17 v0 2)) fun (t22 : Int32) =>
  gg (β := Hp) (nOk t22 = true) <|
  lt (α := Hp) (β := Option Hp) (alc h17 21 (t22.toNatClampNeg)) fun (h23 : Hp) =>
  gg (β := Hp) (kd h23 v0 = 7) <|
  lt (α := Hp) (β := Option Hp) (sP h23 v0 1 (sz h17 + 1)) fun (h27 : Hp) =>
  MX8_takeText_64 h27 v0 v1
set_option maxRecDepth 100000 in
set_option maxHeartbeats 8000000 in
theorem kX8_takeText_38 {d : Nat} {h : Hp} {v0 : Nat} {v1 : Nat} {h9 : Hp} (H : MX8_takeText_38 h v0 v1 = some h9) : J (d + 1) YX8_takeText 38 [.ref v0, .ref v1, Value.null, Value.null] [] h oV h9 := by
  unfold MX8_takeText_38 at H
  refine J_aload_n 0 dX8_takeText_38 rfl rfl ?_
  refine J_aload_n 0 dX8_takeText_39 rfl rfl ?_
  obtain ⟨g10, H⟩ := gd H
  refine J_getI 7 2 dX8_takeText_40 g10 flX8_18 rfl ?_
  obtain ⟨t12, e11, H⟩ := bd H
  refine J_cS (as := [.int (gI h v0 2)]) YX8_roomFor 1 dX8_takeText_43 moX8_roomFor msX8_roomFor mlX8_78 (okX8_roomFor (d := d) e11) rfl rfl [.ref v0] rfl rfl (st2 := [.int t12, .ref v0]) rfl ?_
  obtain ⟨g15, H⟩ := gd H
  obtain ⟨h13, e14, H⟩ := lt_el H
  refine J_nB (t12.toNatClampNeg) dX8_takeText_46 (nOk_ok g15).1 rfl (nOk_ok g15).2 e14 ?_
  obtain ⟨g16, H⟩ := gd H
  obtain ⟨h17, e18, H⟩ := lt_el H
  refine J_pP 7 0 dX8_takeText_48 g16 flX8_9 rfl rfl e18 ?_
  have c19 := ekP e18
  have c20 := elP e18
  refine J_aload_n 0 dX8_takeText_51 rfl rfl ?_
  refine J_aload_n 0 dX8_takeText_52 rfl rfl ?_
  refine J_getI 7 2 dX8_takeText_53 (kq c19 g16) flX8_18 rfl ?_
  obtain ⟨t22, e21, H⟩ := bd H
  refine J_cS (as := [.int (gI h17 v0 2)]) YX8_roomFor 1 dX8_takeText_56 moX8_roomFor msX8_roomFor mlX8_78 (okX8_roomFor (d := d) e21) rfl rfl [.ref v0] rfl rfl (st2 := [.int t22, .ref v0]) rfl ?_
  obtain ⟨g25, H⟩ := gd H
  obtain ⟨h23, e24, H⟩ := lt_el H
  refine J_nB (t22.toNatClampNeg) dX8_takeText_59 (nOk_ok g25).1 rfl (nOk_ok g25).2 e24 ?_
  obtain ⟨g26, H⟩ := gd H
  obtain ⟨h27, e28, H⟩ := lt_el H
  refine J_pP 7 1 dX8_takeText_61 g26 flX8_15 rfl rfl e28 ?_
  have c29 := ekP e28
  have c30 := elP e28
  exact J_dr (kX8_takeText_64 H ) ⟨rfl, ⟨rfl, trivial⟩⟩
noncomputable def MX8_takeText (h : Hp) (v0 : Nat) (v1 : Nat) (v2 : Int32) : Option Hp :=
  gg (β := Hp) (kd h v1 = 21) <|
  gg (β := Hp) (kd h v0 = 7) <|
  lt (α := Hp) (β := Option Hp) (sI h v0 2 (jmax (0 : Int32) (jmin v2 (nI (ln h v1))))) fun (h3 : Hp) =>
  gg (β := Hp) (kd h (gP h v0 0) = 21) <|
  if (nI (ln h3 (gP h v0 0))) < (gI h3 v0 2) then
    MX8_takeText_38 h3 v0 v1
  else
    gg (β := Hp) (kd h (gP h v0 1) = 21) <|
    if (gI h3 v0 2) ≤ (nI (ln h3 (gP h v0 1))) then
      MX8_takeText_64 h3 v0 v1
    else
      MX8_takeText_38 h3 v0 v1
set_option maxRecDepth 100000 in
set_option maxHeartbeats 8000000 in
theorem eX8_takeText {d : Nat} {h : Hp} {v0 : Nat} {v1 : Nat} {v2 : Int32} {h9 : Hp} (H : MX8_takeText h v0 v1 v2 = some h9) : J (d + 1) YX8_takeText 0 [.ref v0, .ref v1, .int v2, Value.null] [] h oV h9 := by
  unfold MX8_takeText at H
  refine J_aload_n 0 dX8_takeText_0 rfl rfl ?_
  refine J_iconst (0 : Int32) dX8_takeText_1 kc_0 ?_
  refine J_iload_n 2 dX8_takeText_2 rfl rfl ?_
  refine J_aload_n 1 dX8_takeText_3 rfl rfl ?_
  obtain ⟨g1, H⟩ := gd H
  refine J_len 21 dX8_takeText_4 g1 rfl ?_
  refine J_mn dX8_takeText_5 mlX8_69 rfl ?_
  refine J_mx dX8_takeText_8 mlX8_75 rfl ?_
  obtain ⟨g2, H⟩ := gd H
  obtain ⟨h3, e4, H⟩ := lt_el H
  refine J_pI 7 2 dX8_takeText_11 g2 flX8_18 rfl rfl e4 ?_
  have c5 := ekI e4
  have c6 := elI e4
  have c7 := epI e4
  refine J_aload_n 0 dX8_takeText_14 rfl rfl ?_
  refine J_gP 7 0 dX8_takeText_15 (kq c5 g2) flX8_9 rfl (congrFun (congrFun c7 v0) 0) ?_
  obtain ⟨g8, H⟩ := gd H
  refine J_len 21 dX8_takeText_18 (kq c5 g8) rfl ?_
  refine J_aload_n 0 dX8_takeText_19 rfl rfl ?_
  refine J_getI 7 2 dX8_takeText_20 (kq c5 g2) flX8_18 rfl ?_
  refine J_icmp_lt 38 dX8_takeText_23 rfl (fun q9 => ?_) (fun q9 => ?_)
  · replace H := br1 q9 H
    exact J_dr (kX8_takeText_38 H ) ⟨rfl, ⟨rfl, trivial⟩⟩
  · replace H := br0 q9 H
    refine J_aload_n 0 dX8_takeText_26 rfl rfl ?_
    refine J_gP 7 1 dX8_takeText_27 (kq c5 g2) flX8_15 rfl (congrFun (congrFun c7 v0) 1) ?_
    obtain ⟨g74, H⟩ := gd H
    refine J_len 21 dX8_takeText_30 (kq c5 g74) rfl ?_
    refine J_aload_n 0 dX8_takeText_31 rfl rfl ?_
    refine J_getI 7 2 dX8_takeText_32 (kq c5 g2) flX8_18 rfl ?_
    refine J_icmp_ge 64 dX8_takeText_35 rfl (fun q75 => ?_) (fun q75 => ?_)
    · replace H := br1 q75 H
      exact J_dr (kX8_takeText_64 H ) ⟨rfl, ⟨rfl, trivial⟩⟩
    · replace H := br0 q75 H
      exact J_dr (kX8_takeText_38 H ) ⟨rfl, ⟨rfl, trivial⟩⟩
theorem okX8_takeText {d : Nat} {h : Hp} {v0 : Nat} {v1 : Nat} {v2 : Int32} {h9 : Hp} (H : MX8_takeText h v0 v1 v2 = some h9) : CT (d + 1) YX8_takeText [.ref v0, .ref v1, .int v2] h oV h9 := CT_of (by decide +kernel) (Nat.le_of_ble_eq_true rfl) (eX8_takeText H)
noncomputable def MX7_castLine_184 (h : Hp) (v2 : Nat) : Option Hp :=
  gg (β := Hp) (kd h v2 = 3) <|
  gg (β := Hp) (kd h (gP h v2 8) = 20) <|
  gg (β := Hp) (inB (0 : Int32) (ln h (gP h v2 8)) = true) <|
  lt (α := Hp) (β := Option Hp) (sI h (gP h v2 8) (0 : Int32).toNatClampNeg ((gI h (gP h v2 8) (0 : Int32).toNatClampNeg) + (1 : Int32))) fun (h11 : Hp) =>
  gg (β := Hp) (kd h (gP h v2 9) = 20) <|
  gg (β := Hp) (inB (0 : Int32) (ln h (gP h v2 9)) = true) <|
  if (gI h11 (gP h v2 8) (0 : Int32).toNatClampNeg) < (gI h11 (gP h v2 9) (0 : Int32).toNatClampNeg) then
    some h11
  else
    Option.bind (α := Hp) (β := Hp) (MX4_dropJob h11 v2) fun (h20 : Hp) =>
    some h20
set_option maxRecDepth 100000 in
set_option maxHeartbeats 8000000 in
theorem kX7_castLine_184 {d : Nat} {h : Hp} {v2 : Nat} {h9 : Hp} (H : MX7_castLine_184 h v2 = some h9) : J (d + 3) YX7_castLine 184 [Value.null, Value.null, .ref v2, Value.null, Value.null, Value.null, Value.null] [] h oV h9 := by
  unfold MX7_castLine_184 at H
  refine J_aload_n 2 dX7_castLine_184 rfl rfl ?_
  obtain ⟨g8, H⟩ := gd H
  refine J_gP 3 8 dX7_castLine_185 g8 flX7_228 rfl rfl ?_
  refine J_iconst (0 : Int32) dX7_castLine_188 kc_0 ?_
  refine J_dup2 dX7_castLine_189 rfl rfl ?_
  obtain ⟨g9, H⟩ := gd H
  obtain ⟨g10, H⟩ := gd H
  refine J_iald dX7_castLine_190 g9 (inB_ok g10) ?_
  refine J_iconst (1 : Int32) dX7_castLine_191 kc_1 ?_
  refine J_iadd dX7_castLine_192 ?_
  obtain ⟨h11, e12, H⟩ := lt_el H
  refine J_sI dX7_castLine_193 g9 (inB_ok g10) e12 ?_
  have c13 := ekI e12
  have c14 := elI e12
  have c15 := epI e12
  refine J_aload_n 2 dX7_castLine_194 rfl rfl ?_
  refine J_gP 3 8 dX7_castLine_195 (kq c13 g8) flX7_228 rfl (congrFun (congrFun c15 v2) 8) ?_
  refine J_iconst (0 : Int32) dX7_castLine_198 kc_0 ?_
  refine J_iald dX7_castLine_199 (kq c13 g9) (lq c14 g10) ?_
  refine J_aload_n 2 dX7_castLine_200 rfl rfl ?_
  refine J_gP 3 9 dX7_castLine_201 (kq c13 g8) flX7_222 rfl (congrFun (congrFun c15 v2) 9) ?_
  refine J_iconst (0 : Int32) dX7_castLine_204 kc_0 ?_
  obtain ⟨g16, H⟩ := gd H
  obtain ⟨g17, H⟩ := gd H
  refine J_iald dX7_castLine_205 (kq c13 g16) (lq c14 g17) ?_
  refine J_icmp_lt 213 dX7_castLine_206 rfl (fun q18 => ?_) (fun q18 => ?_)
  · replace H := br1 q18 H
    cases H
    exact J_ret dX7_castLine_213 rfl
  · replace H := br0 q18 H
    refine J_aload_n 2 dX7_castLine_209 rfl rfl ?_
    obtain ⟨h20, e19, H⟩ := bd H
    refine J_cV (as := []) 3 YX4_dropJob 0 dX7_castLine_210 moX4_dropJob mvX4_dropJob mlX7_312 (kq c13 g8) rfl rfl (okX4_dropJob (d := d + 2) e19) rfl rfl [] rfl rfl (st2 := []) rfl ?_
    cases H
    exact J_ret dX7_castLine_213 rfl
noncomputable def MX7_castLine (h : Hp) (v0 : Nat) (v1 : Int32) (v2 : Nat) (v3 : Nat) : Option Hp :=
  gg (β := Hp) (kd h v2 = 3) <|
  gg (β := Hp) (kd h (gP h v2 8) = 20) <|
  gg (β := Hp) (inB (0 : Int32) (ln h (gP h v2 8)) = true) <|
  gg (β := Hp) (kd h v3 = 4) <|
  Option.bind (α := Int32) (β := Hp) (MX5_hasLine h v3 (gI h (gP h v2 8) (0 : Int32).toNatClampNeg)) fun (t6 : Int32) =>
  if t6 = 0 then
    MX7_castLine_184 h v2
  else
    gg (β := Hp) (kd h v0 = 6) <|
    b2 (α := Nat) (β := Hp) (γ := Hp) (MX7_ownSlug h v0 (gI h v0 11)) fun (t24 : Nat) (h23 : Hp) =>
    gg (β := Hp) (kd h23 v0 = 6) <|
    gg (β := Hp) (kd h23 v3 = 4) <|
    b2 (α := Int32) (β := Hp) (γ := Hp) (MX5_spell h23 v3 (gI h (gP h v2 8) (0 : Int32).toNatClampNeg) (gP h23 v0 18)) fun (t29 : Int32) (h28 : Hp) =>
    gg (β := Hp) (kd h28 t24 = 7) <|
    Option.bind (α := Hp) (β := Hp) (MX8_takeText h28 t24 (gP h23 v0 18) t29) fun (h32 : Hp) =>
    gg (β := Hp) (kd h32 v2 = 3) <|
    gg (β := Hp) (kd h32 (gP h32 v2 7) = 20) <|
    gg (β := Hp) (inB (0 : Int32) (ln h32 (gP h32 v2 7)) = true) <|
    gg (β := Hp) (kd h32 t24 = 7) <|
    lt (α := Hp) (β := Option Hp) (sI h32 t24 5 (gI h32 (gP h32 v2 7) (0 : Int32).toNatClampNeg)) fun (h37 : Hp) =>
    gg (β := Hp) (kd h32 v3 = 4) <|
    lt (α := Hp) (β := Option Hp) (sI h37 t24 6 (gI h37 v3 7)) fun (h43 : Hp) =>
    lt (α := Hp) (β := Option Hp) (sI h43 t24 7 (gI h (gP h v2 8) (0 : Int32).toNatClampNeg)) fun (h48 : Hp) =>
    lt (α := Hp) (β := Option Hp) (sI h48 t24 8 v1) fun (h53 : Hp) =>
    gg (β := Hp) (kd h32 v0 = 6) <|
    lt (α := Hp) (β := Option Hp) (sI h53 t24 9 (gI h53 v0 0)) fun (h59 : Hp) =>
    gg (β := Hp) (kd h32 (gP h32 v2 10) = 22) <|
    gg (β := Hp) (inB (0 : Int32) (ln h32 (gP h32 v2 10)) = true) <|
    gg (β := Hp) (zOk (gI h59 (gP h32 v2 10) (0 : Int32).toNatClampNeg) = true) <|
    lt (α := Hp) (β := Option Hp) (sI h59 t24 14 (gI h59 (gP h32 v2 10) (0 : Int32).toNatClampNeg)) fun (h66 : Hp) =>
    Option.bind (α := Hp) (β := Hp) (MX7_takeAwayAt h66 v0 v3 (gI h (gP h v2 8) (0 : Int32).toNatClampNeg)) fun (h73 : Hp) =>
    gg (β := Hp) (kd h73 v0 = 6) <|
    lt (α := Hp) (β := Option Hp) (sI h73 v0 11 ((gI h73 v0 11) + (1 : Int32))) fun (h75 : Hp) =>
    gg (β := Hp) (kd h73 t24 = 7) <|
    Option.bind (α := Hp) (β := Hp) (MX7_layAt h75 v0 ((gI h75 v0 11) - (1 : Int32)) (gI h75 t24 5) (gI h (gP h v2 8) (0 : Int32).toNatClampNeg)) fun (h82 : Hp) =>
    gg (β := Hp) (kd h82 v0 = 6) <|
    lt (α := Int32) (β := Option Hp) (((((gI h82 v0 0) - (1 : Int32)) - ((gI h82 v0 0) - (1 : Int32)) / (8 : Int32) * (8 : Int32)) * (4 : Int32)) + v1) fun (w84 : Int32) =>
    gg (β := Hp) (kd h82 (gP h82 v0 12) = 20) <|
    gg (β := Hp) (inB w84 (ln h82 (gP h82 v0 12)) = true) <|
    lt (α := Hp) (β := Option Hp) (sI h82 (gP h82 v0 12) w84.toNatClampNeg ((gI h82 v0 11) - (1 : Int32))) fun (h88 : Hp) =>
    gg (β := Hp) (kd h82 (gP h82 v0 13) = 20) <|
    gg (β := Hp) (inB w84 (ln h82 (gP h82 v0 13)) = true) <|
    lt (α := Hp) (β := Option Hp) (sI h88 (gP h82 v0 13) w84.toNatClampNeg ((gI h88 v0 11) - (1 : Int32))) fun (h95 : Hp) =>
    gg (β := Hp) (kd h82 v2 = 3) <|
    lt (α := Hp) (β := Option Hp) (sI h95 v2 4 ((gI h95 v2 4) + (1 : Int32))) fun (h101 : Hp) =>
    MX7_castLine_184 h101 v2
set_option maxRecDepth 100000 in
set_option maxHeartbeats 8000000 in
theorem eX7_castLine {d : Nat} {h : Hp} {v0 : Nat} {v1 : Int32} {v2 : Nat} {v3 : Nat} {h9 : Hp} (H : MX7_castLine h v0 v1 v2 v3 = some h9) : J (d + 3) YX7_castLine 0 [.ref v0, .int v1, .ref v2, .ref v3, Value.null, Value.null, Value.null] [] h oV h9 := by
  unfold MX7_castLine at H
  refine J_aload_n 2 dX7_castLine_0 rfl rfl ?_
  obtain ⟨g1, H⟩ := gd H
  refine J_gP 3 8 dX7_castLine_1 g1 flX7_228 rfl rfl ?_
  refine J_iconst (0 : Int32) dX7_castLine_4 kc_0 ?_
  obtain ⟨g2, H⟩ := gd H
  obtain ⟨g3, H⟩ := gd H
  refine J_iald dX7_castLine_5 g2 (inB_ok g3) ?_
  refine J_istore dX7_castLine_6 (by decide) (ls' := [.ref v0, .int v1, .ref v2, .ref v3, .int (gI h (gP h v2 8) (0 : Int32).toNatClampNeg), Value.null, Value.null]) rfl ?_
  refine J_aload_n 3 dX7_castLine_8 rfl rfl ?_
  refine J_iload dX7_castLine_9 rfl ?_
  obtain ⟨g5, H⟩ := gd H
  obtain ⟨t6, e4, H⟩ := bd H
  refine J_cV (as := [.int (gI h (gP h v2 8) (0 : Int32).toNatClampNeg)]) 4 YX5_hasLine 1 dX7_castLine_11 moX5_hasLine mvX5_hasLine mlX7_284 g5 rfl rfl (okX5_hasLine (d := d + 2) e4) rfl rfl [] rfl rfl (st2 := [.int t6]) rfl ?_
  refine J_if_eq 184 dX7_castLine_14 rfl (fun q7 => ?_) (fun q7 => ?_)
  · replace H := br1 q7 H
    exact J_dr (kX7_castLine_184 H ) ⟨rfl, trivial⟩
  · replace H := br0 q7 H
    refine J_aload_n 0 dX7_castLine_17 rfl rfl ?_
    refine J_aload_n 0 dX7_castLine_18 rfl rfl ?_
    obtain ⟨g21, H⟩ := gd H
    refine J_getI 6 11 dX7_castLine_19 g21 flX7_60 rfl ?_
    obtain ⟨t24, h23, e22, H⟩ := b2_el H
    refine J_cV (as := [.int (gI h v0 11)]) 6 YX7_ownSlug 1 dX7_castLine_22 moX7_ownSlug mvX7_ownSlug mlX7_113 g21 rfl rfl (okX7_ownSlug (d := d + 1) e22) rfl rfl [] rfl rfl (st2 := [.ref t24]) rfl ?_
    refine J_astore dX7_castLine_25 (by decide) (ls' := [.ref v0, .int v1, .ref v2, .ref v3, .int (gI h (gP h v2 8) (0 : Int32).toNatClampNeg), .ref t24, Value.null]) rfl ?_
    refine J_aload dX7_castLine_27 rfl ?_
    refine J_aload_n 0 dX7_castLine_29 rfl rfl ?_
    obtain ⟨g25, H⟩ := gd H
    refine J_gP 6 18 dX7_castLine_30 g25 flX7_85 rfl rfl ?_
    refine J_aload_n 3 dX7_castLine_33 rfl rfl ?_
    refine J_iload dX7_castLine_34 rfl ?_
    refine J_aload_n 0 dX7_castLine_36 rfl rfl ?_
    refine J_gP 6 18 dX7_castLine_37 g25 flX7_85 rfl rfl ?_
    obtain ⟨g27, H⟩ := gd H
    obtain ⟨t29, h28, e26, H⟩ := b2_el H
    refine J_cV (as := [.int (gI h (gP h v2 8) (0 : Int32).toNatClampNeg), .ref (gP h23 v0 18)]) 4 YX5_spell 2 dX7_castLine_40 moX5_spell mvX5_spell mlX7_270 g27 rfl rfl (okX5_spell (d := d + 1) e26) rfl rfl [.ref (gP h23 v0 18), .ref t24] rfl rfl (st2 := [.int t29, .ref (gP h23 v0 18), .ref t24]) rfl ?_
    obtain ⟨g31, H⟩ := gd H
    obtain ⟨h32, e30, H⟩ := bd H
    refine J_cV (as := [.ref (gP h23 v0 18), .int t29]) 7 YX8_takeText 2 dX7_castLine_43 moX8_takeText mvX8_takeText mlX7_288 g31 rfl rfl (okX8_takeText (d := d + 1) e30) rfl rfl [] rfl rfl (st2 := []) rfl ?_
    refine J_aload dX7_castLine_46 rfl ?_
    refine J_aload_n 2 dX7_castLine_48 rfl rfl ?_
    obtain ⟨g33, H⟩ := gd H
    refine J_gP 3 7 dX7_castLine_49 g33 flX7_209 rfl rfl ?_
    refine J_iconst (0 : Int32) dX7_castLine_52 kc_0 ?_
    obtain ⟨g34, H⟩ := gd H
    obtain ⟨g35, H⟩ := gd H
    refine J_iald dX7_castLine_53 g34 (inB_ok g35) ?_
    obtain ⟨g36, H⟩ := gd H
    obtain ⟨h37, e38, H⟩ := lt_el H
    refine J_pI 7 5 dX7_castLine_54 g36 flX7_292 rfl rfl e38 ?_
    have c39 := ekI e38
    have c40 := elI e38
    have c41 := epI e38
    refine J_aload dX7_castLine_57 rfl ?_
    refine J_aload_n 3 dX7_castLine_59 rfl rfl ?_
    obtain ⟨g42, H⟩ := gd H
    refine J_getI 4 7 dX7_castLine_60 (kq c39 g42) flX7_151 rfl ?_
    obtain ⟨h43, e44, H⟩ := lt_el H
    refine J_pI 7 6 dX7_castLine_63 (kq c39 g36) flX7_295 rfl rfl e44 ?_
    have c45 := (ekI e44).trans c39
    have c46 := (elI e44).trans c40
    have c47 := (epI e44).trans c41
    refine J_aload dX7_castLine_66 rfl ?_
    refine J_iload dX7_castLine_68 rfl ?_
    obtain ⟨h48, e49, H⟩ := lt_el H
    refine J_pI 7 7 dX7_castLine_70 (kq c45 g36) flX7_296 rfl rfl e49 ?_
    have c50 := (ekI e49).trans c45
    have c51 := (elI e49).trans c46
    have c52 := (epI e49).trans c47
    refine J_aload dX7_castLine_73 rfl ?_
    refine J_iload_n 1 dX7_castLine_75 rfl rfl ?_
    obtain ⟨h53, e54, H⟩ := lt_el H
    refine J_pI 7 8 dX7_castLine_76 (kq c50 g36) flX7_175 rfl rfl e54 ?_
    have c55 := (ekI e54).trans c50
    have c56 := (elI e54).trans c51
    have c57 := (epI e54).trans c52
    refine J_aload dX7_castLine_79 rfl ?_
    refine J_aload_n 0 dX7_castLine_81 rfl rfl ?_
    obtain ⟨g58, H⟩ := gd H
    refine J_getI 6 0 dX7_castLine_82 (kq c55 g58) flX7_9 rfl ?_
    obtain ⟨h59, e60, H⟩ := lt_el H
    refine J_pI 7 9 dX7_castLine_85 (kq c55 g36) flX7_163 rfl rfl e60 ?_
    have c61 := (ekI e60).trans c55
    have c62 := (elI e60).trans c56
    have c63 := (epI e60).trans c57
    refine J_aload dX7_castLine_88 rfl ?_
    refine J_aload_n 2 dX7_castLine_90 rfl rfl ?_
    refine J_gP 3 10 dX7_castLine_91 (kq c61 g33) flX7_299 rfl (congrFun (congrFun c63 v2) 10) ?_
    refine J_iconst (0 : Int32) dX7_castLine_94 kc_0 ?_
    obtain ⟨g64, H⟩ := gd H
    obtain ⟨g65, H⟩ := gd H
    refine J_zald dX7_castLine_95 (kq c61 g64) (lq c62 g65) ?_
    obtain ⟨g68, H⟩ := gd H
    obtain ⟨h66, e67, H⟩ := lt_el H
    refine J_pZ 7 14 dX7_castLine_96 (kq c61 g36) flX7_168 rfl rfl g68 e67 ?_
    have c69 := (ekI e67).trans c61
    have c70 := (elI e67).trans c62
    have c71 := (epI e67).trans c63
    refine J_aload_n 0 dX7_castLine_99 rfl rfl ?_
    refine J_aload_n 3 dX7_castLine_100 rfl rfl ?_
    refine J_iload dX7_castLine_101 rfl ?_
    obtain ⟨h73, e72, H⟩ := bd H
    refine J_cV (as := [.ref v3, .int (gI h (gP h v2 8) (0 : Int32).toNatClampNeg)]) 6 YX7_takeAwayAt 2 dX7_castLine_103 moX7_takeAwayAt mvX7_takeAwayAt mlX7_303 (kq c69 g58) rfl rfl (okX7_takeAwayAt (d := d) e72) rfl rfl [] rfl rfl (st2 := []) rfl ?_
    refine J_aload_n 0 dX7_castLine_106 rfl rfl ?_
    refine J_dup dX7_castLine_107 rfl ?_
    obtain ⟨g74, H⟩ := gd H
    refine J_getI 6 11 dX7_castLine_108 g74 flX7_60 rfl ?_
    refine J_iconst (1 : Int32) dX7_castLine_111 kc_1 ?_
    refine J_iadd dX7_castLine_112 ?_
    obtain ⟨h75, e76, H⟩ := lt_el H
    refine J_pI 6 11 dX7_castLine_113 g74 flX7_60 rfl rfl e76 ?_
    have c77 := ekI e76
    have c78 := elI e76
    have c79 := epI e76
    refine J_aload_n 0 dX7_castLine_116 rfl rfl ?_
    refine J_aload_n 0 dX7_castLine_117 rfl rfl ?_
    refine J_getI 6 11 dX7_castLine_118 (kq c77 g74) flX7_60 rfl ?_
    refine J_iconst (1 : Int32) dX7_castLine_121 kc_1 ?_
    refine J_isub dX7_castLine_122 ?_
    refine J_aload dX7_castLine_123 rfl ?_
    obtain ⟨g80, H⟩ := gd H
    refine J_getI 7 5 dX7_castLine_125 (kq c77 g80) flX7_292 rfl ?_
    refine J_iload dX7_castLine_128 rfl ?_
    obtain ⟨h82, e81, H⟩ := bd H
    refine J_cV (as := [.int ((gI h75 v0 11) - (1 : Int32)), .int (gI h75 t24 5), .int (gI h (gP h v2 8) (0 : Int32).toNatClampNeg)]) 6 YX7_layAt 3 dX7_castLine_130 moX7_layAt mvX7_layAt mlX7_306 (kq c77 g74) rfl rfl (okX7_layAt (d := d + 1) e81) rfl rfl [] rfl rfl (st2 := []) rfl ?_
    refine J_aload_n 0 dX7_castLine_133 rfl rfl ?_
    obtain ⟨g83, H⟩ := gd H
    refine J_getI 6 0 dX7_castLine_134 g83 flX7_9 rfl ?_
    refine J_iconst (1 : Int32) dX7_castLine_137 kc_1 ?_
    refine J_isub dX7_castLine_138 ?_
    refine J_bipush (8 : Int32) dX7_castLine_139 kb_8 ?_
    refine J_irem dX7_castLine_141 (by decide) ?_
    refine J_iconst (4 : Int32) dX7_castLine_142 kc_4 ?_
    refine J_imul dX7_castLine_143 ?_
    refine J_iload_n 1 dX7_castLine_144 rfl rfl ?_
    refine J_iadd dX7_castLine_145 ?_
    obtain ⟨w84, e85, H⟩ := lt_el H
    refine J_nmI e85 ?_
    refine J_istore dX7_castLine_146 (by decide) (ls' := [.ref v0, .int v1, .ref v2, .ref v3, .int (gI h (gP h v2 8) (0 : Int32).toNatClampNeg), .ref t24, .int w84]) rfl ?_
    refine J_aload_n 0 dX7_castLine_148 rfl rfl ?_
    refine J_gP 6 12 dX7_castLine_149 g83 flX7_63 rfl rfl ?_
    refine J_iload dX7_castLine_152 rfl ?_
    refine J_aload_n 0 dX7_castLine_154 rfl rfl ?_
    refine J_getI 6 11 dX7_castLine_155 g83 flX7_60 rfl ?_
    refine J_iconst (1 : Int32) dX7_castLine_158 kc_1 ?_
    refine J_isub dX7_castLine_159 ?_
    obtain ⟨g86, H⟩ := gd H
    obtain ⟨g87, H⟩ := gd H
    obtain ⟨h88, e89, H⟩ := lt_el H
    refine J_sI dX7_castLine_160 g86 (inB_ok g87) e89 ?_
    have c90 := ekI e89
    have c91 := elI e89
    have c92 := epI e89
    refine J_aload_n 0 dX7_castLine_161 rfl rfl ?_
    refine J_gP 6 13 dX7_castLine_162 (kq c90 g83) flX7_66 rfl (congrFun (congrFun c92 v0) 13) ?_
    refine J_iload dX7_castLine_165 rfl ?_
    refine J_aload_n 0 dX7_castLine_167 rfl rfl ?_
    refine J_getI 6 11 dX7_castLine_168 (kq c90 g83) flX7_60 rfl ?_
    refine J_iconst (1 : Int32) dX7_castLine_171 kc_1 ?_
    refine J_isub dX7_castLine_172 ?_
    obtain ⟨g93, H⟩ := gd H
    obtain ⟨g94, H⟩ := gd H
    obtain ⟨h95, e96, H⟩ := lt_el H
    refine J_sI dX7_castLine_173 (kq c90 g93) (lq c91 g94) e96 ?_
    have c97 := (ekI e96).trans c90
    have c98 := (elI e96).trans c91
    have c99 := (epI e96).trans c92
    refine J_aload_n 2 dX7_castLine_174 rfl rfl ?_
    refine J_dup dX7_castLine_175 rfl ?_
    obtain ⟨g100, H⟩ := gd H
    refine J_getI 3 4 dX7_castLine_176 (kq c97 g100) flX7_309 rfl ?_
    refine J_iconst (1 : Int32) dX7_castLine_179 kc_1 ?_
    refine J_iadd dX7_castLine_180 ?_
    obtain ⟨h101, e102, H⟩ := lt_el H
    refine J_pI 3 4 dX7_castLine_181 (kq c97 g100) flX7_309 rfl rfl e102 ?_
    have c103 := (ekI e102).trans c97
    have c104 := (elI e102).trans c98
    have c105 := (epI e102).trans c99
    exact J_dr (kX7_castLine_184 H ) ⟨rfl, trivial⟩
theorem okX7_castLine {d : Nat} {h : Hp} {v0 : Nat} {v1 : Int32} {v2 : Nat} {v3 : Nat} {h9 : Hp} (H : MX7_castLine h v0 v1 v2 v3 = some h9) : CT (d + 3) YX7_castLine [.ref v0, .int v1, .ref v2, .ref v3] h oV h9 := CT_of (by decide +kernel) (Nat.le_of_ble_eq_true rfl) (eX7_castLine H)
noncomputable def MX7_addSign_15 (h : Hp) (v0 : Nat) (s0 : Int32) : Option Hp :=
  if s0 < 0 then
    some h
  else
    gg (β := Hp) (kd h v0 = 20) <|
    if (nI (ln h v0)) ≤ s0 then
      some h
    else
      gg (β := Hp) (inB s0 (ln h v0) = true) <|
      lt (α := Hp) (β := Option Hp) (sI h v0 s0.toNatClampNeg ((gI h v0 s0.toNatClampNeg) + (1 : Int32))) fun (h6 : Hp) =>
      some h6
set_option maxRecDepth 100000 in
set_option maxHeartbeats 8000000 in
theorem kX7_addSign_15 {d : Nat} {h : Hp} {v0 : Nat} {s0 : Int32} {h9 : Hp} (H : MX7_addSign_15 h v0 s0 = some h9) : J (d) YX7_addSign 15 [.ref v0, Value.null, Value.null] [.int s0] h oV h9 := by
  unfold MX7_addSign_15 at H
  refine J_istore_n 2 dX7_addSign_15 rfl (by decide) (ls' := [.ref v0, Value.null, .int s0]) rfl ?_
  refine J_iload_n 2 dX7_addSign_16 rfl rfl ?_
  refine J_if_lt 33 dX7_addSign_17 rfl (fun q2 => ?_) (fun q2 => ?_)
  · replace H := br1 q2 H
    cases H
    exact J_ret dX7_addSign_33 rfl
  · replace H := br0 q2 H
    refine J_iload_n 2 dX7_addSign_20 rfl rfl ?_
    refine J_aload_n 0 dX7_addSign_21 rfl rfl ?_
    obtain ⟨g3, H⟩ := gd H
    refine J_len 20 dX7_addSign_22 g3 rfl ?_
    refine J_icmp_ge 33 dX7_addSign_23 rfl (fun q4 => ?_) (fun q4 => ?_)
    · replace H := br1 q4 H
      cases H
      exact J_ret dX7_addSign_33 rfl
    · replace H := br0 q4 H
      refine J_aload_n 0 dX7_addSign_26 rfl rfl ?_
      refine J_iload_n 2 dX7_addSign_27 rfl rfl ?_
      refine J_dup2 dX7_addSign_28 rfl rfl ?_
      obtain ⟨g5, H⟩ := gd H
      refine J_iald dX7_addSign_29 g3 (inB_ok g5) ?_
      refine J_iconst (1 : Int32) dX7_addSign_30 kc_1 ?_
      refine J_iadd dX7_addSign_31 ?_
      obtain ⟨h6, e7, H⟩ := lt_el H
      refine J_sI dX7_addSign_32 g3 (inB_ok g5) e7 ?_
      have c8 := ekI e7
      have c9 := elI e7
      have c10 := epI e7
      cases H
      exact J_ret dX7_addSign_33 rfl
noncomputable def MX7_addSign (h : Hp) (v0 : Nat) (v1 : Int32) : Option Hp :=
  if v1 = (45 : Int32) then
    MX7_addSign_15 h v0 (26 : Int32)
  else
    MX7_addSign_15 h v0 (v1 - (97 : Int32))
set_option maxRecDepth 100000 in
set_option maxHeartbeats 8000000 in
theorem eX7_addSign {d : Nat} {h : Hp} {v0 : Nat} {v1 : Int32} {h9 : Hp} (H : MX7_addSign h v0 v1 = some h9) : J (d) YX7_addSign 0 [.ref v0, .int v1, Value.null] [] h oV h9 := by
  unfold MX7_addSign at H
  refine J_iload_n 1 dX7_addSign_0 rfl rfl ?_
  refine J_bipush (45 : Int32) dX7_addSign_1 kb_45 ?_
  refine J_icmp_ne 11 dX7_addSign_3 rfl (fun q1 => ?_) (fun q1 => ?_)
  · replace H := br0 q1 H
    refine J_iload_n 1 dX7_addSign_11 rfl rfl ?_
    refine J_bipush (97 : Int32) dX7_addSign_12 kb_97 ?_
    refine J_isub dX7_addSign_14 ?_
    exact J_dr (kX7_addSign_15 H ) ⟨rfl, trivial⟩
  · replace H := br1 q1 H
    refine J_bipush (26 : Int32) dX7_addSign_6 kb_26 ?_
    refine J_goto 15 dX7_addSign_8 rfl ?_
    exact J_dr (kX7_addSign_15 H ) ⟨rfl, trivial⟩
theorem okX7_addSign {d : Nat} {h : Hp} {v0 : Nat} {v1 : Int32} {h9 : Hp} (H : MX7_addSign h v0 v1 = some h9) : CT (d) YX7_addSign [.ref v0, .int v1] h oV h9 := CT_of (by decide +kernel) (Nat.le_of_ble_eq_true rfl) (eX7_addSign H)
noncomputable def BX7_clear_2 (h : Hp) (v0 : Nat) (v1 : Int32) : Option ((Int32 × Hp) ⊕ Hp) :=
  gg (β := ((Int32 × Hp) ⊕ Hp)) (kd h v0 = 20) <|
  if (nI (ln h v0)) ≤ v1 then
    some (.inr (h))
  else
    gg (β := ((Int32 × Hp) ⊕ Hp)) (inB v1 (ln h v0) = true) <|
    lt (α := Hp) (β := Option ((Int32 × Hp) ⊕ Hp)) (sI h v0 v1.toNatClampNeg (0 : Int32)) fun (h4 : Hp) =>
    some (.inl ((v1 + (1 : Int32)), h4))
set_option maxRecDepth 100000 in
set_option maxHeartbeats 8000000 in
theorem bX7_clear_2 {d : Nat} {h : Hp} {v0 : Nat} {v1 : Int32} {h9 : Hp} {x : ((Int32 × Hp) ⊕ Hp)} (H : BX7_clear_2 h v0 v1 = some x) (hb0 : ∀ s : Int32 × Hp, x = .inl s → J (d) YX7_clear 2 [.ref v0, .int s.1] [] s.2 oV h9) (hx : ∀ z : Hp, x = .inr (z) → z = h9) : J (d) YX7_clear 2 [.ref v0, .int v1] [] h oV h9 := by
  unfold BX7_clear_2 at H
  refine J_iload_n 1 dX7_clear_2 rfl rfl ?_
  refine J_aload_n 0 dX7_clear_3 rfl rfl ?_
  obtain ⟨g1, H⟩ := gd H
  refine J_len 20 dX7_clear_4 g1 rfl ?_
  refine J_icmp_ge 18 dX7_clear_5 rfl (fun q2 => ?_) (fun q2 => ?_)
  · replace H := br1 q2 H
    cases H
    cases hx _ rfl
    exact J_ret dX7_clear_18 rfl
  · replace H := br0 q2 H
    refine J_aload_n 0 dX7_clear_8 rfl rfl ?_
    refine J_iload_n 1 dX7_clear_9 rfl rfl ?_
    refine J_iconst (0 : Int32) dX7_clear_10 kc_0 ?_
    obtain ⟨g3, H⟩ := gd H
    obtain ⟨h4, e5, H⟩ := lt_el H
    refine J_sI dX7_clear_11 g1 (inB_ok g3) e5 ?_
    have c6 := ekI e5
    have c7 := elI e5
    have c8 := epI e5
    refine J_iinc (v1 + (1 : Int32)) dX7_clear_12 rfl (congrArg (HAdd.hAdd v1) kc_1) (by decide) (ls' := [.ref v0, .int (v1 + (1 : Int32))]) rfl ?_
    refine J_goto 2 dX7_clear_15 rfl ?_
    cases H
    exact J_dr (hb0 _ rfl) ⟨rfl, ⟨rfl, trivial⟩⟩
noncomputable def MX7_clear_2 (h : Hp) (v0 : Nat) (v1 : Int32) : Option Hp := it (fun q : Int32 × Hp => BX7_clear_2 q.2 v0 q.1) (v1, h)
set_option maxRecDepth 100000 in
set_option maxHeartbeats 8000000 in
theorem kX7_clear_2 {d : Nat} {h : Hp} {v0 : Nat} {v1 : Int32} {h9 : Hp} (H : MX7_clear_2 h v0 v1 = some h9) : J (d) YX7_clear 2 [.ref v0, .int v1] [] h oV h9 := by
  unfold MX7_clear_2 at H
  refine it_J (G := (fun q : Int32 × Hp => J (d) YX7_clear 2 [.ref v0, .int q.1] [] q.2 oV h9)) (Q := (fun y : Hp => y = h9)) (fun q x Hq hm => ?_) H rfl
  exact bX7_clear_2 Hq (fun s hs => by subst hs; exact hm) (fun z hz => by subst hz; exact hm)
noncomputable def MX7_clear (h : Hp) (v0 : Nat) : Option Hp :=
  MX7_clear_2 h v0 (0 : Int32)
set_option maxRecDepth 100000 in
set_option maxHeartbeats 8000000 in
theorem eX7_clear {d : Nat} {h : Hp} {v0 : Nat} {h9 : Hp} (H : MX7_clear h v0 = some h9) : J (d) YX7_clear 0 [.ref v0, Value.null] [] h oV h9 := by
  unfold MX7_clear at H
  refine J_iconst (0 : Int32) dX7_clear_0 kc_0 ?_
  refine J_istore_n 1 dX7_clear_1 rfl (by decide) (ls' := [.ref v0, .int (0 : Int32)]) rfl ?_
  exact J_dr (kX7_clear_2 H ) ⟨rfl, ⟨rfl, trivial⟩⟩
theorem okX7_clear {d : Nat} {h : Hp} {v0 : Nat} {h9 : Hp} (H : MX7_clear h v0 = some h9) : CT (d) YX7_clear [.ref v0] h oV h9 := CT_of (by decide +kernel) (Nat.le_of_ble_eq_true rfl) (eX7_clear H)
noncomputable def BX7_countNeed_20 (h : Hp) (v0 : Nat) (v3 : Int32) (v4 : Int32) : Option ((Int32 × Hp) ⊕ Hp) :=
  if v3 ≤ v4 then
    some (.inr (h))
  else
    gg (β := ((Int32 × Hp) ⊕ Hp)) (kd h v0 = 6) <|
    gg (β := ((Int32 × Hp) ⊕ Hp)) (kd h (gP h v0 18) = 21) <|
    if (nI (ln h (gP h v0 18))) ≤ v4 then
      some (.inr (h))
    else
      gg (β := ((Int32 × Hp) ⊕ Hp)) (inB v4 (ln h (gP h v0 18)) = true) <|
      Option.bind (α := Hp) (β := ((Int32 × Hp) ⊕ Hp)) (MX7_addSign h (gP h v0 17) (gI h (gP h v0 18) v4.toNatClampNeg)) fun (h15 : Hp) =>
      some (.inl ((v4 + (1 : Int32)), h15))
set_option maxRecDepth 100000 in
set_option maxHeartbeats 8000000 in
theorem bX7_countNeed_20 {d : Nat} {h : Hp} {v0 : Nat} {v3 : Int32} {v4 : Int32} {h9 : Hp} {x : ((Int32 × Hp) ⊕ Hp)} (H : BX7_countNeed_20 h v0 v3 v4 = some x) (hb0 : ∀ s : Int32 × Hp, x = .inl s → J (d + 2) YX7_countNeed 20 [.ref v0, Value.null, Value.null, .int v3, .int s.1] [] s.2 oV h9) (hx : ∀ z : Hp, x = .inr (z) → z = h9) : J (d + 2) YX7_countNeed 20 [.ref v0, Value.null, Value.null, .int v3, .int v4] [] h oV h9 := by
  unfold BX7_countNeed_20 at H
  refine J_iload dX7_countNeed_20 rfl ?_
  refine J_iload_n 3 dX7_countNeed_22 rfl rfl ?_
  refine J_icmp_ge 56 dX7_countNeed_23 rfl (fun q9 => ?_) (fun q9 => ?_)
  · replace H := br1 q9 H
    cases H
    cases hx _ rfl
    exact J_ret dX7_countNeed_56 rfl
  · replace H := br0 q9 H
    refine J_iload dX7_countNeed_26 rfl ?_
    refine J_aload_n 0 dX7_countNeed_28 rfl rfl ?_
    obtain ⟨g10, H⟩ := gd H
    refine J_gP 6 18 dX7_countNeed_29 g10 flX7_85 rfl rfl ?_
    obtain ⟨g11, H⟩ := gd H
    refine J_len 21 dX7_countNeed_32 g11 rfl ?_
    refine J_icmp_ge 56 dX7_countNeed_33 rfl (fun q12 => ?_) (fun q12 => ?_)
    · replace H := br1 q12 H
      cases H
      cases hx _ rfl
      exact J_ret dX7_countNeed_56 rfl
    · replace H := br0 q12 H
      refine J_aload_n 0 dX7_countNeed_36 rfl rfl ?_
      refine J_gP 6 17 dX7_countNeed_37 g10 flX7_82 rfl rfl ?_
      refine J_aload_n 0 dX7_countNeed_40 rfl rfl ?_
      refine J_gP 6 18 dX7_countNeed_41 g10 flX7_85 rfl rfl ?_
      refine J_iload dX7_countNeed_44 rfl ?_
      obtain ⟨g13, H⟩ := gd H
      refine J_bald dX7_countNeed_46 g11 (inB_ok g13) ?_
      obtain ⟨h15, e14, H⟩ := bd H
      refine J_cS (as := [.ref (gP h v0 17), .int (gI h (gP h v0 18) v4.toNatClampNeg)]) YX7_addSign 2 dX7_countNeed_47 moX7_addSign msX7_addSign mlX7_274 (okX7_addSign (d := d + 1) e14) rfl rfl [] rfl rfl (st2 := []) rfl ?_
      refine J_iinc (v4 + (1 : Int32)) dX7_countNeed_50 rfl (congrArg (HAdd.hAdd v4) kc_1) (by decide) (ls' := [.ref v0, Value.null, Value.null, .int v3, .int (v4 + (1 : Int32))]) rfl ?_
      refine J_goto 20 dX7_countNeed_53 rfl ?_
      cases H
      exact J_dr (hb0 _ rfl) ⟨rfl, ⟨rfl, ⟨rfl, trivial⟩⟩⟩
noncomputable def MX7_countNeed_20 (h : Hp) (v0 : Nat) (v3 : Int32) (v4 : Int32) : Option Hp := it (fun q : Int32 × Hp => BX7_countNeed_20 q.2 v0 v3 q.1) (v4, h)
set_option maxRecDepth 100000 in
set_option maxHeartbeats 8000000 in
theorem kX7_countNeed_20 {d : Nat} {h : Hp} {v0 : Nat} {v3 : Int32} {v4 : Int32} {h9 : Hp} (H : MX7_countNeed_20 h v0 v3 v4 = some h9) : J (d + 2) YX7_countNeed 20 [.ref v0, Value.null, Value.null, .int v3, .int v4] [] h oV h9 := by
  unfold MX7_countNeed_20 at H
  refine it_J (G := (fun q : Int32 × Hp => J (d + 2) YX7_countNeed 20 [.ref v0, Value.null, Value.null, .int v3, .int q.1] [] q.2 oV h9)) (Q := (fun y : Hp => y = h9)) (fun q x Hq hm => ?_) H rfl
  exact bX7_countNeed_20 Hq (fun s hs => by subst hs; exact hm) (fun z hz => by subst hz; exact hm)
noncomputable def MX7_countNeed (h : Hp) (v0 : Nat) (v1 : Nat) (v2 : Int32) : Option Hp :=
  gg (β := Hp) (kd h v0 = 6) <|
  Option.bind (α := Hp) (β := Hp) (MX7_clear h (gP h v0 17)) fun (h3 : Hp) =>
  gg (β := Hp) (kd h3 v0 = 6) <|
  gg (β := Hp) (kd h3 v1 = 4) <|
  b2 (α := Int32) (β := Hp) (γ := Hp) (MX5_spell h3 v1 v2 (gP h3 v0 18)) fun (t8 : Int32) (h7 : Hp) =>
  MX7_countNeed_20 h7 v0 t8 (0 : Int32)
set_option maxRecDepth 100000 in
set_option maxHeartbeats 8000000 in
theorem eX7_countNeed {d : Nat} {h : Hp} {v0 : Nat} {v1 : Nat} {v2 : Int32} {h9 : Hp} (H : MX7_countNeed h v0 v1 v2 = some h9) : J (d + 2) YX7_countNeed 0 [.ref v0, .ref v1, .int v2, Value.null, Value.null] [] h oV h9 := by
  unfold MX7_countNeed at H
  refine J_aload_n 0 dX7_countNeed_0 rfl rfl ?_
  obtain ⟨g1, H⟩ := gd H
  refine J_gP 6 17 dX7_countNeed_1 g1 flX7_82 rfl rfl ?_
  obtain ⟨h3, e2, H⟩ := bd H
  refine J_cS (as := [.ref (gP h v0 17)]) YX7_clear 1 dX7_countNeed_4 moX7_clear msX7_clear mlX7_267 (okX7_clear (d := d + 1) e2) rfl rfl [] rfl rfl (st2 := []) rfl ?_
  refine J_aload_n 1 dX7_countNeed_7 rfl rfl ?_
  refine J_iload_n 2 dX7_countNeed_8 rfl rfl ?_
  refine J_aload_n 0 dX7_countNeed_9 rfl rfl ?_
  obtain ⟨g4, H⟩ := gd H
  refine J_gP 6 18 dX7_countNeed_10 g4 flX7_85 rfl rfl ?_
  obtain ⟨g6, H⟩ := gd H
  obtain ⟨t8, h7, e5, H⟩ := b2_el H
  refine J_cV (as := [.int v2, .ref (gP h3 v0 18)]) 4 YX5_spell 2 dX7_countNeed_13 moX5_spell mvX5_spell mlX7_270 g6 rfl rfl (okX5_spell (d := d) e5) rfl rfl [] rfl rfl (st2 := [.int t8]) rfl ?_
  refine J_istore_n 3 dX7_countNeed_16 rfl (by decide) (ls' := [.ref v0, .ref v1, .int v2, .int t8, Value.null]) rfl ?_
  refine J_iconst (0 : Int32) dX7_countNeed_17 kc_0 ?_
  refine J_istore dX7_countNeed_18 (by decide) (ls' := [.ref v0, .ref v1, .int v2, .int t8, .int (0 : Int32)]) rfl ?_
  exact J_dr (kX7_countNeed_20 H ) ⟨rfl, ⟨rfl, ⟨rfl, trivial⟩⟩⟩
theorem okX7_countNeed {d : Nat} {h : Hp} {v0 : Nat} {v1 : Nat} {v2 : Int32} {h9 : Hp} (H : MX7_countNeed h v0 v1 v2 = some h9) : CT (d + 2) YX7_countNeed [.ref v0, .ref v1, .int v2] h oV h9 := CT_of (by decide +kernel) (Nat.le_of_ble_eq_true rfl) (eX7_countNeed H)
noncomputable def BX7_countOut_41 (h : Hp) (v0 : Nat) (v1 : Int32) (v2 : Int32) (v3 : Int32) (v4 : Int32) (v5 : Nat) (v6 : Int32) : Option ((Int32 × Hp) ⊕ ((Int32 × Hp) ⊕ Hp)) :=
  gg (β := ((Int32 × Hp) ⊕ ((Int32 × Hp) ⊕ Hp))) (kd h v5 = 7) <|
  if (gI h v5 8) = v1 then
    if v3 < (gI h v5 9) then
      some (.inr (.inl ((v4 + (-1 : Int32)), h)))
    else
      if (gI h v5 2) ≤ v6 then
        some (.inr (.inl ((v4 + (-1 : Int32)), h)))
      else
        gg (β := ((Int32 × Hp) ⊕ ((Int32 × Hp) ⊕ Hp))) (kd h v0 = 6) <|
        gg (β := ((Int32 × Hp) ⊕ ((Int32 × Hp) ⊕ Hp))) (kd h (gP h v5 0) = 21) <|
        gg (β := ((Int32 × Hp) ⊕ ((Int32 × Hp) ⊕ Hp))) (inB v6 (ln h (gP h v5 0)) = true) <|
        Option.bind (α := Hp) (β := ((Int32 × Hp) ⊕ ((Int32 × Hp) ⊕ Hp))) (MX7_addSign h (gP h v0 16) (gI h (gP h v5 0) v6.toNatClampNeg)) fun (h20 : Hp) =>
        some (.inl ((v6 + (1 : Int32)), h20))
  else
    some (.inr (.inl ((v4 + (-1 : Int32)), h)))
set_option maxRecDepth 100000 in
set_option maxHeartbeats 8000000 in
theorem bX7_countOut_41 {d : Nat} {h : Hp} {v0 : Nat} {v1 : Int32} {v2 : Int32} {v3 : Int32} {v4 : Int32} {v5 : Nat} {v6 : Int32} {h9 : Hp} {x : ((Int32 × Hp) ⊕ ((Int32 × Hp) ⊕ Hp))} (H : BX7_countOut_41 h v0 v1 v2 v3 v4 v5 v6 = some x) (hb0 : ∀ s : Int32 × Hp, x = .inl s → J (d + 2) YX7_countOut 41 [.ref v0, .int v1, .int v2, .int v3, .int v4, .ref v5, .int s.1] [] s.2 oV h9) (hb1 : ∀ s : Int32 × Hp, x = .inr (.inl s) → J (d + 2) YX7_countOut 15 [.ref v0, .int v1, .int v2, .int v3, .int s.1, Value.null, Value.null] [] s.2 oV h9) (hx : ∀ z : Hp, x = .inr (.inr (z)) → z = h9) : J (d + 2) YX7_countOut 41 [.ref v0, .int v1, .int v2, .int v3, .int v4, .ref v5, .int v6] [] h oV h9 := by
  unfold BX7_countOut_41 at H
  refine J_aload dX7_countOut_41 rfl ?_
  obtain ⟨g12, H⟩ := gd H
  refine J_getI 7 8 dX7_countOut_43 g12 flX7_175 rfl ?_
  refine J_iload_n 1 dX7_countOut_46 rfl rfl ?_
  refine J_icmp_ne 90 dX7_countOut_47 rfl (fun q13 => ?_) (fun q13 => ?_)
  · replace H := br0 q13 H
    refine J_iinc (v4 + (-1 : Int32)) dX7_countOut_90 rfl (congrArg (HAdd.hAdd v4) kc_m1) (by decide) (ls' := [.ref v0, .int v1, .int v2, .int v3, .int (v4 + (-1 : Int32)), .ref v5, .int v6]) rfl ?_
    refine J_goto 15 dX7_countOut_93 rfl ?_
    cases H
    exact J_dr (hb1 _ rfl) ⟨rfl, ⟨rfl, ⟨rfl, ⟨rfl, ⟨rfl, trivial⟩⟩⟩⟩⟩
  · replace H := br1 q13 H
    refine J_aload dX7_countOut_50 rfl ?_
    refine J_getI 7 9 dX7_countOut_52 g12 flX7_163 rfl ?_
    refine J_iload_n 3 dX7_countOut_55 rfl rfl ?_
    refine J_icmp_gt 90 dX7_countOut_56 rfl (fun q14 => ?_) (fun q14 => ?_)
    · replace H := br1 q14 H
      refine J_iinc (v4 + (-1 : Int32)) dX7_countOut_90 rfl (congrArg (HAdd.hAdd v4) kc_m1) (by decide) (ls' := [.ref v0, .int v1, .int v2, .int v3, .int (v4 + (-1 : Int32)), .ref v5, .int v6]) rfl ?_
      refine J_goto 15 dX7_countOut_93 rfl ?_
      cases H
      exact J_dr (hb1 _ rfl) ⟨rfl, ⟨rfl, ⟨rfl, ⟨rfl, ⟨rfl, trivial⟩⟩⟩⟩⟩
    · replace H := br0 q14 H
      refine J_iload dX7_countOut_59 rfl ?_
      refine J_aload dX7_countOut_61 rfl ?_
      refine J_getI 7 2 dX7_countOut_63 g12 flX7_278 rfl ?_
      refine J_icmp_ge 90 dX7_countOut_66 rfl (fun q15 => ?_) (fun q15 => ?_)
      · replace H := br1 q15 H
        refine J_iinc (v4 + (-1 : Int32)) dX7_countOut_90 rfl (congrArg (HAdd.hAdd v4) kc_m1) (by decide) (ls' := [.ref v0, .int v1, .int v2, .int v3, .int (v4 + (-1 : Int32)), .ref v5, .int v6]) rfl ?_
        refine J_goto 15 dX7_countOut_93 rfl ?_
        cases H
        exact J_dr (hb1 _ rfl) ⟨rfl, ⟨rfl, ⟨rfl, ⟨rfl, ⟨rfl, trivial⟩⟩⟩⟩⟩
      · replace H := br0 q15 H
        refine J_aload_n 0 dX7_countOut_69 rfl rfl ?_
        obtain ⟨g16, H⟩ := gd H
        refine J_gP 6 16 dX7_countOut_70 g16 flX7_79 rfl rfl ?_
        refine J_aload dX7_countOut_73 rfl ?_
        refine J_gP 7 0 dX7_countOut_75 g12 flX7_281 rfl rfl ?_
        refine J_iload dX7_countOut_78 rfl ?_
        obtain ⟨g17, H⟩ := gd H
        obtain ⟨g18, H⟩ := gd H
        refine J_bald dX7_countOut_80 g17 (inB_ok g18) ?_
        obtain ⟨h20, e19, H⟩ := bd H
        refine J_cS (as := [.ref (gP h v0 16), .int (gI h (gP h v5 0) v6.toNatClampNeg)]) YX7_addSign 2 dX7_countOut_81 moX7_addSign msX7_addSign mlX7_274 (okX7_addSign (d := d + 1) e19) rfl rfl [] rfl rfl (st2 := []) rfl ?_
        refine J_iinc (v6 + (1 : Int32)) dX7_countOut_84 rfl (congrArg (HAdd.hAdd v6) kc_1) (by decide) (ls' := [.ref v0, .int v1, .int v2, .int v3, .int v4, .ref v5, .int (v6 + (1 : Int32))]) rfl ?_
        refine J_goto 41 dX7_countOut_87 rfl ?_
        cases H
        exact J_dr (hb0 _ rfl) ⟨rfl, ⟨rfl, ⟨rfl, ⟨rfl, ⟨rfl, ⟨rfl, ⟨rfl, trivial⟩⟩⟩⟩⟩⟩⟩
noncomputable def MX7_countOut_41 (h : Hp) (v0 : Nat) (v1 : Int32) (v2 : Int32) (v3 : Int32) (v4 : Int32) (v5 : Nat) (v6 : Int32) : Option ((Int32 × Hp) ⊕ Hp) := it (fun q : Int32 × Hp => BX7_countOut_41 q.2 v0 v1 v2 v3 v4 v5 q.1) (v6, h)
set_option maxRecDepth 100000 in
set_option maxHeartbeats 8000000 in
theorem kX7_countOut_41 {d : Nat} {h : Hp} {v0 : Nat} {v1 : Int32} {v2 : Int32} {v3 : Int32} {v4 : Int32} {v5 : Nat} {v6 : Int32} {h9 : Hp} {x : ((Int32 × Hp) ⊕ Hp)} (H : MX7_countOut_41 h v0 v1 v2 v3 v4 v5 v6 = some x) (hb0 : ∀ s : Int32 × Hp, x = .inl s → J (d + 2) YX7_countOut 15 [.ref v0, .int v1, .int v2, .int v3, .int s.1, Value.null, Value.null] [] s.2 oV h9) (hx : ∀ z : Hp, x = .inr (z) → z = h9) : J (d + 2) YX7_countOut 41 [.ref v0, .int v1, .int v2, .int v3, .int v4, .ref v5, .int v6] [] h oV h9 := by
  unfold MX7_countOut_41 at H
  refine it_J (G := (fun q : Int32 × Hp => J (d + 2) YX7_countOut 41 [.ref v0, .int v1, .int v2, .int v3, .int v4, .ref v5, .int q.1] [] q.2 oV h9)) (Q := (fun y : ((Int32 × Hp) ⊕ Hp) => (∀ s : Int32 × Hp, y = .inl s → J (d + 2) YX7_countOut 15 [.ref v0, .int v1, .int v2, .int v3, .int s.1, Value.null, Value.null] [] s.2 oV h9) ∧ (∀ z : Hp, y = .inr (z) → z = h9))) (fun q x Hq hm => ?_) H ⟨hb0, hx⟩
  exact bX7_countOut_41 Hq (fun s hs => by subst hs; exact hm) (fun s hs => by subst hs; exact (hm.1) s rfl) (fun z hz => by subst hz; exact (hm.2) z rfl)
noncomputable def BX7_countOut_15 (h : Hp) (v0 : Nat) (v1 : Int32) (v2 : Int32) (v3 : Int32) (v4 : Int32) : Option ((Int32 × Hp) ⊕ Hp) :=
  if v4 < 0 then
    some (.inr (h))
  else
    gg (β := ((Int32 × Hp) ⊕ Hp)) (kd h v0 = 6) <|
    b2 (α := Nat) (β := Hp) (γ := ((Int32 × Hp) ⊕ Hp)) (MX7_ownSlug h v0 v4) fun (t9 : Nat) (h8 : Hp) =>
    gg (β := ((Int32 × Hp) ⊕ Hp)) (kd h8 t9 = 7) <|
    if v2 ≤ (gI h8 t9 9) then
      MX7_countOut_41 h8 v0 v1 v2 v3 v4 t9 (0 : Int32)
    else
      some (.inr (h8))
set_option maxRecDepth 100000 in
set_option maxHeartbeats 8000000 in
theorem bX7_countOut_15 {d : Nat} {h : Hp} {v0 : Nat} {v1 : Int32} {v2 : Int32} {v3 : Int32} {v4 : Int32} {h9 : Hp} {x : ((Int32 × Hp) ⊕ Hp)} (H : BX7_countOut_15 h v0 v1 v2 v3 v4 = some x) (hb0 : ∀ s : Int32 × Hp, x = .inl s → J (d + 2) YX7_countOut 15 [.ref v0, .int v1, .int v2, .int v3, .int s.1, Value.null, Value.null] [] s.2 oV h9) (hx : ∀ z : Hp, x = .inr (z) → z = h9) : J (d + 2) YX7_countOut 15 [.ref v0, .int v1, .int v2, .int v3, .int v4, Value.null, Value.null] [] h oV h9 := by
  unfold BX7_countOut_15 at H
  refine J_iload dX7_countOut_15 rfl ?_
  refine J_if_lt 96 dX7_countOut_17 rfl (fun q5 => ?_) (fun q5 => ?_)
  · replace H := br1 q5 H
    cases H
    cases hx _ rfl
    exact J_ret dX7_countOut_96 rfl
  · replace H := br0 q5 H
    refine J_aload_n 0 dX7_countOut_20 rfl rfl ?_
    refine J_iload dX7_countOut_21 rfl ?_
    obtain ⟨g7, H⟩ := gd H
    obtain ⟨t9, h8, e6, H⟩ := b2_el H
    refine J_cV (as := [.int v4]) 6 YX7_ownSlug 1 dX7_countOut_23 moX7_ownSlug mvX7_ownSlug mlX7_113 g7 rfl rfl (okX7_ownSlug (d := d) e6) rfl rfl [] rfl rfl (st2 := [.ref t9]) rfl ?_
    refine J_astore dX7_countOut_26 (by decide) (ls' := [.ref v0, .int v1, .int v2, .int v3, .int v4, .ref t9, Value.null]) rfl ?_
    refine J_aload dX7_countOut_28 rfl ?_
    obtain ⟨g10, H⟩ := gd H
    refine J_getI 7 9 dX7_countOut_30 g10 flX7_163 rfl ?_
    refine J_iload_n 2 dX7_countOut_33 rfl rfl ?_
    refine J_icmp_ge 38 dX7_countOut_34 rfl (fun q11 => ?_) (fun q11 => ?_)
    · replace H := br1 q11 H
      refine J_iconst (0 : Int32) dX7_countOut_38 kc_0 ?_
      refine J_istore dX7_countOut_39 (by decide) (ls' := [.ref v0, .int v1, .int v2, .int v3, .int v4, .ref t9, .int (0 : Int32)]) rfl ?_
      exact J_dr (kX7_countOut_41 H hb0 hx) ⟨rfl, ⟨rfl, ⟨rfl, ⟨rfl, ⟨rfl, ⟨rfl, ⟨rfl, trivial⟩⟩⟩⟩⟩⟩⟩
    · replace H := br0 q11 H
      cases H
      cases hx _ rfl
      exact J_ret dX7_countOut_37 rfl
noncomputable def MX7_countOut_15 (h : Hp) (v0 : Nat) (v1 : Int32) (v2 : Int32) (v3 : Int32) (v4 : Int32) : Option Hp := it (fun q : Int32 × Hp => BX7_countOut_15 q.2 v0 v1 v2 v3 q.1) (v4, h)
set_option maxRecDepth 100000 in
set_option maxHeartbeats 8000000 in
theorem kX7_countOut_15 {d : Nat} {h : Hp} {v0 : Nat} {v1 : Int32} {v2 : Int32} {v3 : Int32} {v4 : Int32} {h9 : Hp} (H : MX7_countOut_15 h v0 v1 v2 v3 v4 = some h9) : J (d + 2) YX7_countOut 15 [.ref v0, .int v1, .int v2, .int v3, .int v4, Value.null, Value.null] [] h oV h9 := by
  unfold MX7_countOut_15 at H
  refine it_J (G := (fun q : Int32 × Hp => J (d + 2) YX7_countOut 15 [.ref v0, .int v1, .int v2, .int v3, .int q.1, Value.null, Value.null] [] q.2 oV h9)) (Q := (fun y : Hp => y = h9)) (fun q x Hq hm => ?_) H rfl
  exact bX7_countOut_15 Hq (fun s hs => by subst hs; exact hm) (fun z hz => by subst hz; exact hm)
noncomputable def MX7_countOut (h : Hp) (v0 : Nat) (v1 : Int32) (v2 : Int32) (v3 : Int32) : Option Hp :=
  gg (β := Hp) (kd h v0 = 6) <|
  Option.bind (α := Hp) (β := Hp) (MX7_clear h (gP h v0 16)) fun (h3 : Hp) =>
  gg (β := Hp) (kd h3 v0 = 6) <|
  MX7_countOut_15 h3 v0 v1 v2 v3 ((gI h3 v0 11) - (1 : Int32))
set_option maxRecDepth 100000 in
set_option maxHeartbeats 8000000 in
theorem eX7_countOut {d : Nat} {h : Hp} {v0 : Nat} {v1 : Int32} {v2 : Int32} {v3 : Int32} {h9 : Hp} (H : MX7_countOut h v0 v1 v2 v3 = some h9) : J (d + 2) YX7_countOut 0 [.ref v0, .int v1, .int v2, .int v3, Value.null, Value.null, Value.null] [] h oV h9 := by
  unfold MX7_countOut at H
  refine J_aload_n 0 dX7_countOut_0 rfl rfl ?_
  obtain ⟨g1, H⟩ := gd H
  refine J_gP 6 16 dX7_countOut_1 g1 flX7_79 rfl rfl ?_
  obtain ⟨h3, e2, H⟩ := bd H
  refine J_cS (as := [.ref (gP h v0 16)]) YX7_clear 1 dX7_countOut_4 moX7_clear msX7_clear mlX7_267 (okX7_clear (d := d + 1) e2) rfl rfl [] rfl rfl (st2 := []) rfl ?_
  refine J_aload_n 0 dX7_countOut_7 rfl rfl ?_
  obtain ⟨g4, H⟩ := gd H
  refine J_getI 6 11 dX7_countOut_8 g4 flX7_60 rfl ?_
  refine J_iconst (1 : Int32) dX7_countOut_11 kc_1 ?_
  refine J_isub dX7_countOut_12 ?_
  refine J_istore dX7_countOut_13 (by decide) (ls' := [.ref v0, .int v1, .int v2, .int v3, .int ((gI h3 v0 11) - (1 : Int32)), Value.null, Value.null]) rfl ?_
  exact J_dr (kX7_countOut_15 H ) ⟨rfl, ⟨rfl, ⟨rfl, ⟨rfl, ⟨rfl, trivial⟩⟩⟩⟩⟩
theorem okX7_countOut {d : Nat} {h : Hp} {v0 : Nat} {v1 : Int32} {v2 : Int32} {v3 : Int32} {h9 : Hp} (H : MX7_countOut h v0 v1 v2 v3 = some h9) : CT (d + 2) YX7_countOut [.ref v0, .int v1, .int v2, .int v3] h oV h9 := CT_of (by decide +kernel) (Nat.le_of_ble_eq_true rfl) (eX7_countOut H)
noncomputable def MX0_putLines_61 (h : Hp) (v1 : Nat) (v4 : Int32) : Option Hp :=
  gg (β := Hp) (kd h v1 = 4) <|
  lt (α := Hp) (β := Option Hp) (sI h v1 9 v4) fun (h4 : Hp) =>
  some h4
set_option maxRecDepth 100000 in
set_option maxHeartbeats 8000000 in
theorem kX0_putLines_61 {d : Nat} {h : Hp} {v1 : Nat} {v4 : Int32} {h9 : Hp} (H : MX0_putLines_61 h v1 v4 = some h9) : J (d) YX0_putLines 61 [Value.null, .ref v1, Value.null, Value.null, .int v4, Value.null] [] h oV h9 := by
  unfold MX0_putLines_61 at H
  refine J_aload_n 1 dX0_putLines_61 rfl rfl ?_
  refine J_iload dX0_putLines_62 rfl ?_
  obtain ⟨g3, H⟩ := gd H
  obtain ⟨h4, e5, H⟩ := lt_el H
  refine J_pI 4 9 dX0_putLines_64 g3 flX0_103 rfl rfl e5 ?_
  have c6 := ekI e5
  have c7 := elI e5
  have c8 := epI e5
  cases H
  exact J_ret dX0_putLines_67 rfl
noncomputable def BX0_putLines_6 (h : Hp) (v0 : Nat) (v1 : Nat) (v4 : Int32) (v5 : Int32) : Option ((Int32 × Int32 × Hp) ⊕ Hp) :=
  gg (β := ((Int32 × Int32 × Hp) ⊕ Hp)) (kd h v0 = 0) <|
  if (gI h v0 6) ≤ v5 then
    up1 (MX0_putLines_61 h v1 v4)
  else
    if (40 : Int32) ≤ v4 then
      up1 (MX0_putLines_61 h v1 v4)
    else
      gg (β := ((Int32 × Int32 × Hp) ⊕ Hp)) (kd h v1 = 4) <|
      gg (β := ((Int32 × Int32 × Hp) ⊕ Hp)) (kd h (gP h v0 12) = 20) <|
      gg (β := ((Int32 × Int32 × Hp) ⊕ Hp)) (inB v5 (ln h (gP h v0 12)) = true) <|
      gg (β := ((Int32 × Int32 × Hp) ⊕ Hp)) (kd h (gP h v1 3) = 20) <|
      gg (β := ((Int32 × Int32 × Hp) ⊕ Hp)) (inB v4 (ln h (gP h v1 3)) = true) <|
      lt (α := Hp) (β := Option ((Int32 × Int32 × Hp) ⊕ Hp)) (sI h (gP h v1 3) v4.toNatClampNeg (gI h (gP h v0 12) v5.toNatClampNeg)) fun (h15 : Hp) =>
      gg (β := ((Int32 × Int32 × Hp) ⊕ Hp)) (kd h (gP h v1 4) = 20) <|
      gg (β := ((Int32 × Int32 × Hp) ⊕ Hp)) (inB v4 (ln h (gP h v1 4)) = true) <|
      lt (α := Hp) (β := Option ((Int32 × Int32 × Hp) ⊕ Hp)) (sI h15 (gP h v1 4) v4.toNatClampNeg (-1 : Int32)) fun (h22 : Hp) =>
      some (.inl ((v4 + (1 : Int32)), ((gI h22 (gP h v0 12) v5.toNatClampNeg) + (1 : Int32)), h22))
set_option maxRecDepth 100000 in
set_option maxHeartbeats 8000000 in
theorem bX0_putLines_6 {d : Nat} {h : Hp} {v0 : Nat} {v1 : Nat} {v4 : Int32} {v5 : Int32} {h9 : Hp} {x : ((Int32 × Int32 × Hp) ⊕ Hp)} (H : BX0_putLines_6 h v0 v1 v4 v5 = some x) (hb0 : ∀ s : Int32 × Int32 × Hp, x = .inl s → J (d) YX0_putLines 6 [.ref v0, .ref v1, Value.null, Value.null, .int s.1, .int s.2.1] [] s.2.2 oV h9) (hx : ∀ z : Hp, x = .inr (z) → z = h9) : J (d) YX0_putLines 6 [.ref v0, .ref v1, Value.null, Value.null, .int v4, .int v5] [] h oV h9 := by
  unfold BX0_putLines_6 at H
  refine J_iload dX0_putLines_6 rfl ?_
  refine J_aload_n 0 dX0_putLines_8 rfl rfl ?_
  obtain ⟨g1, H⟩ := gd H
  refine J_getI 0 6 dX0_putLines_9 g1 flX0_30 rfl ?_
  refine J_icmp_ge 61 dX0_putLines_12 rfl (fun q2 => ?_) (fun q2 => ?_)
  · replace H := br1 q2 H
    obtain ⟨y0, H90, rfl⟩ := up1_el H
    replace H := H90
    obtain rfl := hx _ rfl
    exact J_dr (kX0_putLines_61 H ) ⟨rfl, ⟨rfl, trivial⟩⟩
  · replace H := br0 q2 H
    refine J_iload dX0_putLines_15 rfl ?_
    refine J_bipush (40 : Int32) dX0_putLines_17 kb_40 ?_
    refine J_icmp_ge 61 dX0_putLines_19 rfl (fun q9 => ?_) (fun q9 => ?_)
    · replace H := br1 q9 H
      obtain ⟨y0, H90, rfl⟩ := up1_el H
      replace H := H90
      obtain rfl := hx _ rfl
      exact J_dr (kX0_putLines_61 H ) ⟨rfl, ⟨rfl, trivial⟩⟩
    · replace H := br0 q9 H
      refine J_aload_n 1 dX0_putLines_22 rfl rfl ?_
      obtain ⟨g10, H⟩ := gd H
      refine J_gP 4 3 dX0_putLines_23 g10 flX0_99 rfl rfl ?_
      refine J_iload dX0_putLines_26 rfl ?_
      refine J_aload_n 0 dX0_putLines_28 rfl rfl ?_
      refine J_gP 0 12 dX0_putLines_29 g1 flX0_49 rfl rfl ?_
      refine J_iload dX0_putLines_32 rfl ?_
      obtain ⟨g11, H⟩ := gd H
      obtain ⟨g12, H⟩ := gd H
      refine J_iald dX0_putLines_34 g11 (inB_ok g12) ?_
      obtain ⟨g13, H⟩ := gd H
      obtain ⟨g14, H⟩ := gd H
      obtain ⟨h15, e16, H⟩ := lt_el H
      refine J_sI dX0_putLines_35 g13 (inB_ok g14) e16 ?_
      have c17 := ekI e16
      have c18 := elI e16
      have c19 := epI e16
      refine J_aload_n 1 dX0_putLines_36 rfl rfl ?_
      refine J_gP 4 4 dX0_putLines_37 (kq c17 g10) flX0_100 rfl (congrFun (congrFun c19 v1) 4) ?_
      refine J_iload dX0_putLines_40 rfl ?_
      refine J_iconst (-1 : Int32) dX0_putLines_42 kc_m1 ?_
      obtain ⟨g20, H⟩ := gd H
      obtain ⟨g21, H⟩ := gd H
      obtain ⟨h22, e23, H⟩ := lt_el H
      refine J_sI dX0_putLines_43 (kq c17 g20) (lq c18 g21) e23 ?_
      have c24 := (ekI e23).trans c17
      have c25 := (elI e23).trans c18
      have c26 := (epI e23).trans c19
      refine J_iinc (v4 + (1 : Int32)) dX0_putLines_44 rfl (congrArg (HAdd.hAdd v4) kc_1) (by decide) (ls' := [.ref v0, .ref v1, Value.null, Value.null, .int (v4 + (1 : Int32)), .int v5]) rfl ?_
      refine J_aload_n 0 dX0_putLines_47 rfl rfl ?_
      refine J_gP 0 12 dX0_putLines_48 (kq c24 g1) flX0_49 rfl (congrFun (congrFun c26 v0) 12) ?_
      refine J_iload dX0_putLines_51 rfl ?_
      refine J_iald dX0_putLines_53 (kq c24 g11) (lq c25 g12) ?_
      refine J_iconst (1 : Int32) dX0_putLines_54 kc_1 ?_
      refine J_iadd dX0_putLines_55 ?_
      refine J_istore dX0_putLines_56 (by decide) (ls' := [.ref v0, .ref v1, Value.null, Value.null, .int (v4 + (1 : Int32)), .int ((gI h22 (gP h v0 12) v5.toNatClampNeg) + (1 : Int32))]) rfl ?_
      refine J_goto 6 dX0_putLines_58 rfl ?_
      cases H
      exact J_dr (hb0 _ rfl) ⟨rfl, ⟨rfl, ⟨rfl, ⟨rfl, trivial⟩⟩⟩⟩
noncomputable def MX0_putLines_6 (h : Hp) (v0 : Nat) (v1 : Nat) (v4 : Int32) (v5 : Int32) : Option Hp := it (fun q : Int32 × Int32 × Hp => BX0_putLines_6 q.2.2 v0 v1 q.1 q.2.1) (v4, v5, h)
set_option maxRecDepth 100000 in
set_option maxHeartbeats 8000000 in
theorem kX0_putLines_6 {d : Nat} {h : Hp} {v0 : Nat} {v1 : Nat} {v4 : Int32} {v5 : Int32} {h9 : Hp} (H : MX0_putLines_6 h v0 v1 v4 v5 = some h9) : J (d) YX0_putLines 6 [.ref v0, .ref v1, Value.null, Value.null, .int v4, .int v5] [] h oV h9 := by
  unfold MX0_putLines_6 at H
  refine it_J (G := (fun q : Int32 × Int32 × Hp => J (d) YX0_putLines 6 [.ref v0, .ref v1, Value.null, Value.null, .int q.1, .int q.2.1] [] q.2.2 oV h9)) (Q := (fun y : Hp => y = h9)) (fun q x Hq hm => ?_) H rfl
  exact bX0_putLines_6 Hq (fun s hs => by subst hs; exact hm) (fun z hz => by subst hz; exact hm)
noncomputable def MX0_putLines (h : Hp) (v0 : Nat) (v1 : Nat) (v2 : Int32) (v3 : Int32) : Option Hp :=
  MX0_putLines_6 h v0 v1 v2 v3
set_option maxRecDepth 100000 in
set_option maxHeartbeats 8000000 in
theorem eX0_putLines {d : Nat} {h : Hp} {v0 : Nat} {v1 : Nat} {v2 : Int32} {v3 : Int32} {h9 : Hp} (H : MX0_putLines h v0 v1 v2 v3 = some h9) : J (d) YX0_putLines 0 [.ref v0, .ref v1, .int v2, .int v3, Value.null, Value.null] [] h oV h9 := by
  unfold MX0_putLines at H
  refine J_iload_n 2 dX0_putLines_0 rfl rfl ?_
  refine J_istore dX0_putLines_1 (by decide) (ls' := [.ref v0, .ref v1, .int v2, .int v3, .int v2, Value.null]) rfl ?_
  refine J_iload_n 3 dX0_putLines_3 rfl rfl ?_
  refine J_istore dX0_putLines_4 (by decide) (ls' := [.ref v0, .ref v1, .int v2, .int v3, .int v2, .int v3]) rfl ?_
  exact J_dr (kX0_putLines_6 H ) ⟨rfl, ⟨rfl, ⟨rfl, ⟨rfl, trivial⟩⟩⟩⟩
theorem okX0_putLines {d : Nat} {h : Hp} {v0 : Nat} {v1 : Nat} {v2 : Int32} {v3 : Int32} {h9 : Hp} (H : MX0_putLines h v0 v1 v2 v3 = some h9) : CT (d) YX0_putLines [.ref v0, .ref v1, .int v2, .int v3] h oV h9 := CT_of (by decide +kernel) (Nat.le_of_ble_eq_true rfl) (eX0_putLines H)
noncomputable def MX0_spare_25 (h : Hp) (v0 : Nat) (v1 : Int32) (v2 : Int32) (s0 : Int32) : Option Int32 :=
  gg (β := Int32) (kd h v0 = 0) <|
  gg (β := Int32) (kd h (gP h v0 9) = 20) <|
  gg (β := Int32) (inB v2 (ln h (gP h v0 9)) = true) <|
  gg (β := Int32) (inB v1 (ln h (gP h v0 9)) = true) <|
  lt (α := Int32) (β := Option Int32) ((gI h (gP h v0 9) v2.toNatClampNeg) - (gI h (gP h v0 9) v1.toNatClampNeg)) fun (w10 : Int32) =>
  gg (β := Int32) (kd h (gP h v0 8) = 20) <|
  gg (β := Int32) (inB (v2 + (1 : Int32)) (ln h (gP h v0 8)) = true) <|
  gg (β := Int32) (inB v1 (ln h (gP h v0 8)) = true) <|
  some ((gI h v0 0) - ((((gI h (gP h v0 8) (v2 + (1 : Int32)).toNatClampNeg) - (gI h (gP h v0 8) v1.toNatClampNeg)) + s0) + (w10 * (gI h v0 2))))
set_option maxRecDepth 100000 in
set_option maxHeartbeats 8000000 in
theorem kX0_spare_25 {d : Nat} {h : Hp} {v0 : Nat} {v1 : Int32} {v2 : Int32} {s0 : Int32} {r : Int32} (H : MX0_spare_25 h v0 v1 v2 s0 = some r) : J (d) YX0_spare 25 [.ref v0, .int v1, .int v2, Value.null, Value.null] [.int s0] h (oI r) h := by
  unfold MX0_spare_25 at H
  refine J_istore_n 3 dX0_spare_25 rfl (by decide) (ls' := [.ref v0, .int v1, .int v2, .int s0, Value.null]) rfl ?_
  refine J_aload_n 0 dX0_spare_26 rfl rfl ?_
  obtain ⟨g6, H⟩ := gd H
  refine J_gP 0 9 dX0_spare_27 g6 flX0_40 rfl rfl ?_
  refine J_iload_n 2 dX0_spare_30 rfl rfl ?_
  obtain ⟨g7, H⟩ := gd H
  obtain ⟨g8, H⟩ := gd H
  refine J_iald dX0_spare_31 g7 (inB_ok g8) ?_
  refine J_aload_n 0 dX0_spare_32 rfl rfl ?_
  refine J_gP 0 9 dX0_spare_33 g6 flX0_40 rfl rfl ?_
  refine J_iload_n 1 dX0_spare_36 rfl rfl ?_
  obtain ⟨g9, H⟩ := gd H
  refine J_iald dX0_spare_37 g7 (inB_ok g9) ?_
  refine J_isub dX0_spare_38 ?_
  obtain ⟨w10, e11, H⟩ := lt_el H
  refine J_nmI e11 ?_
  refine J_istore dX0_spare_39 (by decide) (ls' := [.ref v0, .int v1, .int v2, .int s0, .int w10]) rfl ?_
  refine J_aload_n 0 dX0_spare_41 rfl rfl ?_
  refine J_getI 0 0 dX0_spare_42 g6 flX0_9 rfl ?_
  refine J_aload_n 0 dX0_spare_45 rfl rfl ?_
  refine J_gP 0 8 dX0_spare_46 g6 flX0_36 rfl rfl ?_
  refine J_iload_n 2 dX0_spare_49 rfl rfl ?_
  refine J_iconst (1 : Int32) dX0_spare_50 kc_1 ?_
  refine J_iadd dX0_spare_51 ?_
  obtain ⟨g12, H⟩ := gd H
  obtain ⟨g13, H⟩ := gd H
  refine J_iald dX0_spare_52 g12 (inB_ok g13) ?_
  refine J_aload_n 0 dX0_spare_53 rfl rfl ?_
  refine J_gP 0 8 dX0_spare_54 g6 flX0_36 rfl rfl ?_
  refine J_iload_n 1 dX0_spare_57 rfl rfl ?_
  obtain ⟨g14, H⟩ := gd H
  refine J_iald dX0_spare_58 g12 (inB_ok g14) ?_
  refine J_isub dX0_spare_59 ?_
  refine J_iload_n 3 dX0_spare_60 rfl rfl ?_
  refine J_iadd dX0_spare_61 ?_
  refine J_iload dX0_spare_62 rfl ?_
  refine J_aload_n 0 dX0_spare_64 rfl rfl ?_
  refine J_getI 0 2 dX0_spare_65 g6 flX0_18 rfl ?_
  refine J_imul dX0_spare_68 ?_
  refine J_iadd dX0_spare_69 ?_
  refine J_isub dX0_spare_70 ?_
  cases H
  exact J_iretI dX0_spare_71 rfl
noncomputable def MX0_spare (h : Hp) (v0 : Nat) (v1 : Int32) (v2 : Int32) : Option Int32 :=
  gg (β := Int32) (kd h v0 = 0) <|
  gg (β := Int32) (kd h (gP h v0 9) = 20) <|
  gg (β := Int32) (inB (v2 + (1 : Int32)) (ln h (gP h v0 9)) = true) <|
  gg (β := Int32) (inB v2 (ln h (gP h v0 9)) = true) <|
  if (gI h (gP h v0 9) (v2 + (1 : Int32)).toNatClampNeg) = (gI h (gP h v0 9) v2.toNatClampNeg) then
    MX0_spare_25 h v0 v1 v2 (gI h v0 7)
  else
    MX0_spare_25 h v0 v1 v2 (0 : Int32)
set_option maxRecDepth 100000 in
set_option maxHeartbeats 8000000 in
theorem eX0_spare {d : Nat} {h : Hp} {v0 : Nat} {v1 : Int32} {v2 : Int32} {r : Int32} (H : MX0_spare h v0 v1 v2 = some r) : J (d) YX0_spare 0 [.ref v0, .int v1, .int v2, Value.null, Value.null] [] h (oI r) h := by
  unfold MX0_spare at H
  refine J_aload_n 0 dX0_spare_0 rfl rfl ?_
  obtain ⟨g1, H⟩ := gd H
  refine J_gP 0 9 dX0_spare_1 g1 flX0_40 rfl rfl ?_
  refine J_iload_n 2 dX0_spare_4 rfl rfl ?_
  refine J_iconst (1 : Int32) dX0_spare_5 kc_1 ?_
  refine J_iadd dX0_spare_6 ?_
  obtain ⟨g2, H⟩ := gd H
  obtain ⟨g3, H⟩ := gd H
  refine J_iald dX0_spare_7 g2 (inB_ok g3) ?_
  refine J_aload_n 0 dX0_spare_8 rfl rfl ?_
  refine J_gP 0 9 dX0_spare_9 g1 flX0_40 rfl rfl ?_
  refine J_iload_n 2 dX0_spare_12 rfl rfl ?_
  obtain ⟨g4, H⟩ := gd H
  refine J_iald dX0_spare_13 g2 (inB_ok g4) ?_
  refine J_icmp_ne 24 dX0_spare_14 rfl (fun q5 => ?_) (fun q5 => ?_)
  · replace H := br0 q5 H
    refine J_iconst (0 : Int32) dX0_spare_24 kc_0 ?_
    exact J_dr (kX0_spare_25 H ) ⟨rfl, ⟨rfl, ⟨rfl, trivial⟩⟩⟩
  · replace H := br1 q5 H
    refine J_aload_n 0 dX0_spare_17 rfl rfl ?_
    refine J_getI 0 7 dX0_spare_18 g1 flX0_33 rfl ?_
    refine J_goto 25 dX0_spare_21 rfl ?_
    exact J_dr (kX0_spare_25 H ) ⟨rfl, ⟨rfl, ⟨rfl, trivial⟩⟩⟩
theorem okX0_spare {d : Nat} {h : Hp} {v0 : Nat} {v1 : Int32} {v2 : Int32} {r : Int32} (H : MX0_spare h v0 v1 v2 = some r) : CT (d) YX0_spare [.ref v0, .int v1, .int v2] h (oI r) h := CT_of (by decide +kernel) (Nat.le_of_ble_eq_true rfl) (eX0_spare H)
noncomputable def MX0_lineBadness_98 (h : Hp) (s0 : Int32) (s1 : Int32) : Option Int32 :=
  some (s0 + s1)
set_option maxRecDepth 100000 in
set_option maxHeartbeats 8000000 in
theorem kX0_lineBadness_98 {d : Nat} {h : Hp} {s0 : Int32} {s1 : Int32} {r : Int32} (H : MX0_lineBadness_98 h s0 s1 = some r) : J (d + 1) YX0_lineBadness 98 [Value.null, Value.null, Value.null, Value.null, Value.null, Value.null] [.int s1, .int s0] h (oI r) h := by
  unfold MX0_lineBadness_98 at H
  refine J_iadd dX0_lineBadness_98 ?_
  cases H
  exact J_iretI dX0_lineBadness_99 rfl
noncomputable def MX0_lineBadness_80 (h : Hp) (v0 : Nat) (v3 : Int32) (s0 : Int32) : Option Int32 :=
  if s0 = 0 then
    MX0_lineBadness_98 h (v3 * v3) (0 : Int32)
  else
    gg (β := Int32) (kd h v0 = 0) <|
    MX0_lineBadness_98 h (v3 * v3) (gI h v0 4)
set_option maxRecDepth 100000 in
set_option maxHeartbeats 8000000 in
theorem kX0_lineBadness_80 {d : Nat} {h : Hp} {v0 : Nat} {v3 : Int32} {s0 : Int32} {r : Int32} (H : MX0_lineBadness_80 h v0 v3 s0 = some r) : J (d + 1) YX0_lineBadness 80 [.ref v0, Value.null, Value.null, .int v3, Value.null, Value.null] [.int s0] h (oI r) h := by
  unfold MX0_lineBadness_80 at H
  refine J_istore dX0_lineBadness_80 (by decide) (ls' := [.ref v0, Value.null, Value.null, .int v3, Value.null, .int s0]) rfl ?_
  refine J_iload_n 3 dX0_lineBadness_82 rfl rfl ?_
  refine J_iload_n 3 dX0_lineBadness_83 rfl rfl ?_
  refine J_imul dX0_lineBadness_84 ?_
  refine J_iload dX0_lineBadness_85 rfl ?_
  refine J_if_eq 97 dX0_lineBadness_87 rfl (fun q14 => ?_) (fun q14 => ?_)
  · replace H := br1 q14 H
    refine J_iconst (0 : Int32) dX0_lineBadness_97 kc_0 ?_
    exact J_dr (kX0_lineBadness_98 H ) trivial
  · replace H := br0 q14 H
    refine J_aload_n 0 dX0_lineBadness_90 rfl rfl ?_
    obtain ⟨g15, H⟩ := gd H
    refine J_getI 0 4 dX0_lineBadness_91 g15 flX0_24 rfl ?_
    refine J_goto 98 dX0_lineBadness_94 rfl ?_
    exact J_dr (kX0_lineBadness_98 H ) trivial
noncomputable def MX0_lineBadness (h : Hp) (v0 : Nat) (v1 : Int32) (v2 : Int32) : Option Int32 :=
  gg (β := Int32) (kd h v0 = 0) <|
  Option.bind (α := Int32) (β := Int32) (MX0_spare h v0 v1 v2) fun (t3 : Int32) =>
  if 0 ≤ t3 then
    if v2 = ((gI h v0 6) - (1 : Int32)) then
      some (0 : Int32)
    else
      gg (β := Int32) (kd h (gP h v0 9) = 20) <|
      gg (β := Int32) (inB v2 (ln h (gP h v0 9)) = true) <|
      gg (β := Int32) (inB v1 (ln h (gP h v0 9)) = true) <|
      lt (α := Int32) (β := Option Int32) ((gI h (gP h v0 9) v2.toNatClampNeg) - (gI h (gP h v0 9) v1.toNatClampNeg)) fun (w9 : Int32) =>
      if t3 ≤ (w9 * ((gI h v0 3) - (gI h v0 2))) then
        gg (β := Int32) (inB (v2 + (1 : Int32)) (ln h (gP h v0 9)) = true) <|
        if (gI h (gP h v0 9) (v2 + (1 : Int32)).toNatClampNeg) = (gI h (gP h v0 9) v2.toNatClampNeg) then
          MX0_lineBadness_80 h v0 t3 (1 : Int32)
        else
          MX0_lineBadness_80 h v0 t3 (0 : Int32)
      else
        some (-1 : Int32)
  else
    some (-1 : Int32)
set_option maxRecDepth 100000 in
set_option maxHeartbeats 8000000 in
theorem eX0_lineBadness {d : Nat} {h : Hp} {v0 : Nat} {v1 : Int32} {v2 : Int32} {r : Int32} (H : MX0_lineBadness h v0 v1 v2 = some r) : J (d + 1) YX0_lineBadness 0 [.ref v0, .int v1, .int v2, Value.null, Value.null, Value.null] [] h (oI r) h := by
  unfold MX0_lineBadness at H
  refine J_aload_n 0 dX0_lineBadness_0 rfl rfl ?_
  refine J_iload_n 1 dX0_lineBadness_1 rfl rfl ?_
  refine J_iload_n 2 dX0_lineBadness_2 rfl rfl ?_
  obtain ⟨g2, H⟩ := gd H
  obtain ⟨t3, e1, H⟩ := bd H
  refine J_cV (as := [.int v1, .int v2]) 0 YX0_spare 2 dX0_lineBadness_3 moX0_spare mvX0_spare mlX0_88 g2 rfl rfl (okX0_spare (d := d) e1) rfl rfl [] rfl rfl (st2 := [.int t3]) rfl ?_
  refine J_istore_n 3 dX0_lineBadness_6 rfl (by decide) (ls' := [.ref v0, .int v1, .int v2, .int t3, Value.null, Value.null]) rfl ?_
  refine J_iload_n 3 dX0_lineBadness_7 rfl rfl ?_
  refine J_if_ge 13 dX0_lineBadness_8 rfl (fun q4 => ?_) (fun q4 => ?_)
  · replace H := br1 q4 H
    refine J_iload_n 2 dX0_lineBadness_13 rfl rfl ?_
    refine J_aload_n 0 dX0_lineBadness_14 rfl rfl ?_
    refine J_getI 0 6 dX0_lineBadness_15 g2 flX0_30 rfl ?_
    refine J_iconst (1 : Int32) dX0_lineBadness_18 kc_1 ?_
    refine J_isub dX0_lineBadness_19 ?_
    refine J_icmp_ne 25 dX0_lineBadness_20 rfl (fun q5 => ?_) (fun q5 => ?_)
    · replace H := br0 q5 H
      refine J_aload_n 0 dX0_lineBadness_25 rfl rfl ?_
      refine J_gP 0 9 dX0_lineBadness_26 g2 flX0_40 rfl rfl ?_
      refine J_iload_n 2 dX0_lineBadness_29 rfl rfl ?_
      obtain ⟨g6, H⟩ := gd H
      obtain ⟨g7, H⟩ := gd H
      refine J_iald dX0_lineBadness_30 g6 (inB_ok g7) ?_
      refine J_aload_n 0 dX0_lineBadness_31 rfl rfl ?_
      refine J_gP 0 9 dX0_lineBadness_32 g2 flX0_40 rfl rfl ?_
      refine J_iload_n 1 dX0_lineBadness_35 rfl rfl ?_
      obtain ⟨g8, H⟩ := gd H
      refine J_iald dX0_lineBadness_36 g6 (inB_ok g8) ?_
      refine J_isub dX0_lineBadness_37 ?_
      obtain ⟨w9, e10, H⟩ := lt_el H
      refine J_nmI e10 ?_
      refine J_istore dX0_lineBadness_38 (by decide) (ls' := [.ref v0, .int v1, .int v2, .int t3, .int w9, Value.null]) rfl ?_
      refine J_iload_n 3 dX0_lineBadness_40 rfl rfl ?_
      refine J_iload dX0_lineBadness_41 rfl ?_
      refine J_aload_n 0 dX0_lineBadness_43 rfl rfl ?_
      refine J_getI 0 3 dX0_lineBadness_44 g2 flX0_21 rfl ?_
      refine J_aload_n 0 dX0_lineBadness_47 rfl rfl ?_
      refine J_getI 0 2 dX0_lineBadness_48 g2 flX0_18 rfl ?_
      refine J_isub dX0_lineBadness_51 ?_
      refine J_imul dX0_lineBadness_52 ?_
      refine J_icmp_le 58 dX0_lineBadness_53 rfl (fun q11 => ?_) (fun q11 => ?_)
      · replace H := br1 q11 H
        refine J_aload_n 0 dX0_lineBadness_58 rfl rfl ?_
        refine J_gP 0 9 dX0_lineBadness_59 g2 flX0_40 rfl rfl ?_
        refine J_iload_n 2 dX0_lineBadness_62 rfl rfl ?_
        refine J_iconst (1 : Int32) dX0_lineBadness_63 kc_1 ?_
        refine J_iadd dX0_lineBadness_64 ?_
        obtain ⟨g12, H⟩ := gd H
        refine J_iald dX0_lineBadness_65 g6 (inB_ok g12) ?_
        refine J_aload_n 0 dX0_lineBadness_66 rfl rfl ?_
        refine J_gP 0 9 dX0_lineBadness_67 g2 flX0_40 rfl rfl ?_
        refine J_iload_n 2 dX0_lineBadness_70 rfl rfl ?_
        refine J_iald dX0_lineBadness_71 g6 (inB_ok g7) ?_
        refine J_icmp_ne 79 dX0_lineBadness_72 rfl (fun q13 => ?_) (fun q13 => ?_)
        · replace H := br0 q13 H
          refine J_iconst (0 : Int32) dX0_lineBadness_79 kc_0 ?_
          exact J_dr (kX0_lineBadness_80 H ) ⟨rfl, ⟨rfl, trivial⟩⟩
        · replace H := br1 q13 H
          refine J_iconst (1 : Int32) dX0_lineBadness_75 kc_1 ?_
          refine J_goto 80 dX0_lineBadness_76 rfl ?_
          exact J_dr (kX0_lineBadness_80 H ) ⟨rfl, ⟨rfl, trivial⟩⟩
      · replace H := br0 q11 H
        refine J_iconst (-1 : Int32) dX0_lineBadness_56 kc_m1 ?_
        cases H
        exact J_iretI dX0_lineBadness_57 rfl
    · replace H := br1 q5 H
      refine J_iconst (0 : Int32) dX0_lineBadness_23 kc_0 ?_
      cases H
      exact J_iretI dX0_lineBadness_24 rfl
  · replace H := br0 q4 H
    refine J_iconst (-1 : Int32) dX0_lineBadness_11 kc_m1 ?_
    cases H
    exact J_iretI dX0_lineBadness_12 rfl
theorem okX0_lineBadness {d : Nat} {h : Hp} {v0 : Nat} {v1 : Int32} {v2 : Int32} {r : Int32} (H : MX0_lineBadness h v0 v1 v2 = some r) : CT (d + 1) YX0_lineBadness [.ref v0, .int v1, .int v2] h (oI r) h := CT_of (by decide +kernel) (Nat.le_of_ble_eq_true rfl) (eX0_lineBadness H)
noncomputable def MX0_solveAt_116 (h : Hp) (v0 : Nat) (v1 : Int32) (v2 : Int32) (v4 : Int32) (v5 : Int32) (s0 : Int32) : Option ((Int32 × Hp) ⊕ Hp) :=
  if s0 = 0 then
    some (.inl ((v2 + (1 : Int32)), h))
  else
    gg (β := ((Int32 × Hp) ⊕ Hp)) (kd h v0 = 0) <|
    gg (β := ((Int32 × Hp) ⊕ Hp)) (kd h (gP h v0 10) = 20) <|
    gg (β := ((Int32 × Hp) ⊕ Hp)) (inB v1 (ln h (gP h v0 10)) = true) <|
    lt (α := Hp) (β := Option ((Int32 × Hp) ⊕ Hp)) (sI h (gP h v0 10) v1.toNatClampNeg v4) fun (h25 : Hp) =>
    gg (β := ((Int32 × Hp) ⊕ Hp)) (kd h (gP h v0 11) = 20) <|
    gg (β := ((Int32 × Hp) ⊕ Hp)) (inB v1 (ln h (gP h v0 11)) = true) <|
    lt (α := Hp) (β := Option ((Int32 × Hp) ⊕ Hp)) (sI h25 (gP h v0 11) v1.toNatClampNeg v5) fun (h32 : Hp) =>
    gg (β := ((Int32 × Hp) ⊕ Hp)) (kd h (gP h v0 12) = 20) <|
    gg (β := ((Int32 × Hp) ⊕ Hp)) (inB v1 (ln h (gP h v0 12)) = true) <|
    lt (α := Hp) (β := Option ((Int32 × Hp) ⊕ Hp)) (sI h32 (gP h v0 12) v1.toNatClampNeg v2) fun (h39 : Hp) =>
    some (.inl ((v2 + (1 : Int32)), h39))
set_option maxRecDepth 100000 in
set_option maxHeartbeats 8000000 in
theorem kX0_solveAt_116 {d : Nat} {h : Hp} {v0 : Nat} {v1 : Int32} {v2 : Int32} {v4 : Int32} {v5 : Int32} {s0 : Int32} {h9 : Hp} {x : ((Int32 × Hp) ⊕ Hp)} (H : MX0_solveAt_116 h v0 v1 v2 v4 v5 s0 = some x) (hb0 : ∀ s : Int32 × Hp, x = .inl s → J (d + 2) YX0_solveAt 9 [.ref v0, .int v1, .int s.1, Value.null, Value.null, Value.null, Value.null] [] s.2 oV h9) (hx : ∀ z : Hp, x = .inr (z) → z = h9) : J (d + 2) YX0_solveAt 116 [.ref v0, .int v1, .int v2, Value.null, .int v4, .int v5, Value.null] [.int s0] h oV h9 := by
  unfold MX0_solveAt_116 at H
  refine J_istore dX0_solveAt_116 (by decide) (ls' := [.ref v0, .int v1, .int v2, Value.null, .int v4, .int v5, .int s0]) rfl ?_
  refine J_iload dX0_solveAt_118 rfl ?_
  refine J_if_eq 146 dX0_solveAt_120 rfl (fun q21 => ?_) (fun q21 => ?_)
  · replace H := br1 q21 H
    refine J_iinc (v2 + (1 : Int32)) dX0_solveAt_146 rfl (congrArg (HAdd.hAdd v2) kc_1) (by decide) (ls' := [.ref v0, .int v1, .int (v2 + (1 : Int32)), Value.null, .int v4, .int v5, .int s0]) rfl ?_
    refine J_goto 9 dX0_solveAt_149 rfl ?_
    cases H
    exact J_dr (hb0 _ rfl) ⟨rfl, ⟨rfl, ⟨rfl, trivial⟩⟩⟩
  · replace H := br0 q21 H
    refine J_aload_n 0 dX0_solveAt_123 rfl rfl ?_
    obtain ⟨g22, H⟩ := gd H
    refine J_gP 0 10 dX0_solveAt_124 g22 flX0_43 rfl rfl ?_
    refine J_iload_n 1 dX0_solveAt_127 rfl rfl ?_
    refine J_iload dX0_solveAt_128 rfl ?_
    obtain ⟨g23, H⟩ := gd H
    obtain ⟨g24, H⟩ := gd H
    obtain ⟨h25, e26, H⟩ := lt_el H
    refine J_sI dX0_solveAt_130 g23 (inB_ok g24) e26 ?_
    have c27 := ekI e26
    have c28 := elI e26
    have c29 := epI e26
    refine J_aload_n 0 dX0_solveAt_131 rfl rfl ?_
    refine J_gP 0 11 dX0_solveAt_132 (kq c27 g22) flX0_46 rfl (congrFun (congrFun c29 v0) 11) ?_
    refine J_iload_n 1 dX0_solveAt_135 rfl rfl ?_
    refine J_iload dX0_solveAt_136 rfl ?_
    obtain ⟨g30, H⟩ := gd H
    obtain ⟨g31, H⟩ := gd H
    obtain ⟨h32, e33, H⟩ := lt_el H
    refine J_sI dX0_solveAt_138 (kq c27 g30) (lq c28 g31) e33 ?_
    have c34 := (ekI e33).trans c27
    have c35 := (elI e33).trans c28
    have c36 := (epI e33).trans c29
    refine J_aload_n 0 dX0_solveAt_139 rfl rfl ?_
    refine J_gP 0 12 dX0_solveAt_140 (kq c34 g22) flX0_49 rfl (congrFun (congrFun c36 v0) 12) ?_
    refine J_iload_n 1 dX0_solveAt_143 rfl rfl ?_
    refine J_iload_n 2 dX0_solveAt_144 rfl rfl ?_
    obtain ⟨g37, H⟩ := gd H
    obtain ⟨g38, H⟩ := gd H
    obtain ⟨h39, e40, H⟩ := lt_el H
    refine J_sI dX0_solveAt_145 (kq c34 g37) (lq c35 g38) e40 ?_
    have c41 := (ekI e40).trans c34
    have c42 := (elI e40).trans c35
    have c43 := (epI e40).trans c36
    refine J_iinc (v2 + (1 : Int32)) dX0_solveAt_146 rfl (congrArg (HAdd.hAdd v2) kc_1) (by decide) (ls' := [.ref v0, .int v1, .int (v2 + (1 : Int32)), Value.null, .int v4, .int v5, .int s0]) rfl ?_
    refine J_goto 9 dX0_solveAt_149 rfl ?_
    cases H
    exact J_dr (hb0 _ rfl) ⟨rfl, ⟨rfl, ⟨rfl, trivial⟩⟩⟩
noncomputable def MX0_solveAt_111 (h : Hp) (v0 : Nat) (v1 : Int32) (v2 : Int32) (v4 : Int32) (v5 : Int32) : Option ((Int32 × Hp) ⊕ Hp) :=
  MX0_solveAt_116 h v0 v1 v2 v4 v5 (1 : Int32)
set_option maxRecDepth 100000 in
set_option maxHeartbeats 8000000 in
theorem kX0_solveAt_111 {d : Nat} {h : Hp} {v0 : Nat} {v1 : Int32} {v2 : Int32} {v4 : Int32} {v5 : Int32} {h9 : Hp} {x : ((Int32 × Hp) ⊕ Hp)} (H : MX0_solveAt_111 h v0 v1 v2 v4 v5 = some x) (hb0 : ∀ s : Int32 × Hp, x = .inl s → J (d + 2) YX0_solveAt 9 [.ref v0, .int v1, .int s.1, Value.null, Value.null, Value.null, Value.null] [] s.2 oV h9) (hx : ∀ z : Hp, x = .inr (z) → z = h9) : J (d + 2) YX0_solveAt 111 [.ref v0, .int v1, .int v2, Value.null, .int v4, .int v5, Value.null] [] h oV h9 := by
  unfold MX0_solveAt_111 at H
  refine J_iconst (1 : Int32) dX0_solveAt_111 kc_1 ?_
  refine J_goto 116 dX0_solveAt_112 rfl ?_
  exact J_dr (kX0_solveAt_116 H hb0 hx) ⟨rfl, ⟨rfl, ⟨rfl, ⟨rfl, ⟨rfl, trivial⟩⟩⟩⟩⟩
noncomputable def MX0_solveAt_115 (h : Hp) (v0 : Nat) (v1 : Int32) (v2 : Int32) (v4 : Int32) (v5 : Int32) : Option ((Int32 × Hp) ⊕ Hp) :=
  MX0_solveAt_116 h v0 v1 v2 v4 v5 (0 : Int32)
set_option maxRecDepth 100000 in
set_option maxHeartbeats 8000000 in
theorem kX0_solveAt_115 {d : Nat} {h : Hp} {v0 : Nat} {v1 : Int32} {v2 : Int32} {v4 : Int32} {v5 : Int32} {h9 : Hp} {x : ((Int32 × Hp) ⊕ Hp)} (H : MX0_solveAt_115 h v0 v1 v2 v4 v5 = some x) (hb0 : ∀ s : Int32 × Hp, x = .inl s → J (d + 2) YX0_solveAt 9 [.ref v0, .int v1, .int s.1, Value.null, Value.null, Value.null, Value.null] [] s.2 oV h9) (hx : ∀ z : Hp, x = .inr (z) → z = h9) : J (d + 2) YX0_solveAt 115 [.ref v0, .int v1, .int v2, Value.null, .int v4, .int v5, Value.null] [] h oV h9 := by
  unfold MX0_solveAt_115 at H
  refine J_iconst (0 : Int32) dX0_solveAt_115 kc_0 ?_
  exact J_dr (kX0_solveAt_116 H hb0 hx) ⟨rfl, ⟨rfl, ⟨rfl, ⟨rfl, ⟨rfl, trivial⟩⟩⟩⟩⟩
noncomputable def BX0_solveAt_9 (h : Hp) (v0 : Nat) (v1 : Int32) (v2 : Int32) : Option ((Int32 × Hp) ⊕ Hp) :=
  gg (β := ((Int32 × Hp) ⊕ Hp)) (kd h v0 = 0) <|
  if (gI h v0 6) ≤ v2 then
    some (.inr (h))
  else
    Option.bind (α := Int32) (β := ((Int32 × Hp) ⊕ Hp)) (MX0_lineBadness h v0 v1 v2) fun (t12 : Int32) =>
    if t12 = (-1 : Int32) then
      some (.inl ((v2 + (1 : Int32)), h))
    else
      gg (β := ((Int32 × Hp) ⊕ Hp)) (kd h (gP h v0 11) = 20) <|
      gg (β := ((Int32 × Hp) ⊕ Hp)) (inB (v2 + (1 : Int32)) (ln h (gP h v0 11)) = true) <|
      if (gI h (gP h v0 11) (v2 + (1 : Int32)).toNatClampNeg) = (-1 : Int32) then
        some (.inl ((v2 + (1 : Int32)), h))
      else
        gg (β := ((Int32 × Hp) ⊕ Hp)) (kd h (gP h v0 10) = 20) <|
        gg (β := ((Int32 × Hp) ⊕ Hp)) (inB (v2 + (1 : Int32)) (ln h (gP h v0 10)) = true) <|
        gg (β := ((Int32 × Hp) ⊕ Hp)) (inB v1 (ln h (gP h v0 11)) = true) <|
        if (gI h (gP h v0 11) v1.toNatClampNeg) = (-1 : Int32) then
          MX0_solveAt_111 h v0 v1 v2 (t12 + (gI h (gP h v0 10) (v2 + (1 : Int32)).toNatClampNeg)) ((1 : Int32) + (gI h (gP h v0 11) (v2 + (1 : Int32)).toNatClampNeg))
        else
          gg (β := ((Int32 × Hp) ⊕ Hp)) (inB v1 (ln h (gP h v0 10)) = true) <|
          if (t12 + (gI h (gP h v0 10) (v2 + (1 : Int32)).toNatClampNeg)) < (gI h (gP h v0 10) v1.toNatClampNeg) then
            MX0_solveAt_111 h v0 v1 v2 (t12 + (gI h (gP h v0 10) (v2 + (1 : Int32)).toNatClampNeg)) ((1 : Int32) + (gI h (gP h v0 11) (v2 + (1 : Int32)).toNatClampNeg))
          else
            if (t12 + (gI h (gP h v0 10) (v2 + (1 : Int32)).toNatClampNeg)) = (gI h (gP h v0 10) v1.toNatClampNeg) then
              if (gI h (gP h v0 11) v1.toNatClampNeg) < ((1 : Int32) + (gI h (gP h v0 11) (v2 + (1 : Int32)).toNatClampNeg)) then
                MX0_solveAt_115 h v0 v1 v2 (t12 + (gI h (gP h v0 10) (v2 + (1 : Int32)).toNatClampNeg)) ((1 : Int32) + (gI h (gP h v0 11) (v2 + (1 : Int32)).toNatClampNeg))
              else
                MX0_solveAt_111 h v0 v1 v2 (t12 + (gI h (gP h v0 10) (v2 + (1 : Int32)).toNatClampNeg)) ((1 : Int32) + (gI h (gP h v0 11) (v2 + (1 : Int32)).toNatClampNeg))
            else
              MX0_solveAt_115 h v0 v1 v2 (t12 + (gI h (gP h v0 10) (v2 + (1 : Int32)).toNatClampNeg)) ((1 : Int32) + (gI h (gP h v0 11) (v2 + (1 : Int32)).toNatClampNeg))
set_option maxRecDepth 100000 in
set_option maxHeartbeats 8000000 in
theorem bX0_solveAt_9 {d : Nat} {h : Hp} {v0 : Nat} {v1 : Int32} {v2 : Int32} {h9 : Hp} {x : ((Int32 × Hp) ⊕ Hp)} (H : BX0_solveAt_9 h v0 v1 v2 = some x) (hb0 : ∀ s : Int32 × Hp, x = .inl s → J (d + 2) YX0_solveAt 9 [.ref v0, .int v1, .int s.1, Value.null, Value.null, Value.null, Value.null] [] s.2 oV h9) (hx : ∀ z : Hp, x = .inr (z) → z = h9) : J (d + 2) YX0_solveAt 9 [.ref v0, .int v1, .int v2, Value.null, Value.null, Value.null, Value.null] [] h oV h9 := by
  unfold BX0_solveAt_9 at H
  refine J_iload_n 2 dX0_solveAt_9 rfl rfl ?_
  refine J_aload_n 0 dX0_solveAt_10 rfl rfl ?_
  obtain ⟨g9, H⟩ := gd H
  refine J_getI 0 6 dX0_solveAt_11 g9 flX0_30 rfl ?_
  refine J_icmp_ge 152 dX0_solveAt_14 rfl (fun q10 => ?_) (fun q10 => ?_)
  · replace H := br1 q10 H
    cases H
    cases hx _ rfl
    exact J_ret dX0_solveAt_152 rfl
  · replace H := br0 q10 H
    refine J_aload_n 0 dX0_solveAt_17 rfl rfl ?_
    refine J_iload_n 1 dX0_solveAt_18 rfl rfl ?_
    refine J_iload_n 2 dX0_solveAt_19 rfl rfl ?_
    obtain ⟨t12, e11, H⟩ := bd H
    refine J_cV (as := [.int v1, .int v2]) 0 YX0_lineBadness 2 dX0_solveAt_20 moX0_lineBadness mvX0_lineBadness mlX0_96 g9 rfl rfl (okX0_lineBadness (d := d) e11) rfl rfl [] rfl rfl (st2 := [.int t12]) rfl ?_
    refine J_istore_n 3 dX0_solveAt_23 rfl (by decide) (ls' := [.ref v0, .int v1, .int v2, .int t12, Value.null, Value.null, Value.null]) rfl ?_
    refine J_iload_n 3 dX0_solveAt_24 rfl rfl ?_
    refine J_iconst (-1 : Int32) dX0_solveAt_25 kc_m1 ?_
    refine J_icmp_eq 146 dX0_solveAt_26 rfl (fun q13 => ?_) (fun q13 => ?_)
    · replace H := br1 q13 H
      refine J_iinc (v2 + (1 : Int32)) dX0_solveAt_146 rfl (congrArg (HAdd.hAdd v2) kc_1) (by decide) (ls' := [.ref v0, .int v1, .int (v2 + (1 : Int32)), .int t12, Value.null, Value.null, Value.null]) rfl ?_
      refine J_goto 9 dX0_solveAt_149 rfl ?_
      cases H
      exact J_dr (hb0 _ rfl) ⟨rfl, ⟨rfl, ⟨rfl, trivial⟩⟩⟩
    · replace H := br0 q13 H
      refine J_aload_n 0 dX0_solveAt_29 rfl rfl ?_
      refine J_gP 0 11 dX0_solveAt_30 g9 flX0_46 rfl rfl ?_
      refine J_iload_n 2 dX0_solveAt_33 rfl rfl ?_
      refine J_iconst (1 : Int32) dX0_solveAt_34 kc_1 ?_
      refine J_iadd dX0_solveAt_35 ?_
      obtain ⟨g14, H⟩ := gd H
      obtain ⟨g15, H⟩ := gd H
      refine J_iald dX0_solveAt_36 g14 (inB_ok g15) ?_
      refine J_iconst (-1 : Int32) dX0_solveAt_37 kc_m1 ?_
      refine J_icmp_ne 44 dX0_solveAt_38 rfl (fun q16 => ?_) (fun q16 => ?_)
      · replace H := br0 q16 H
        refine J_iload_n 3 dX0_solveAt_44 rfl rfl ?_
        refine J_aload_n 0 dX0_solveAt_45 rfl rfl ?_
        refine J_gP 0 10 dX0_solveAt_46 g9 flX0_43 rfl rfl ?_
        refine J_iload_n 2 dX0_solveAt_49 rfl rfl ?_
        refine J_iconst (1 : Int32) dX0_solveAt_50 kc_1 ?_
        refine J_iadd dX0_solveAt_51 ?_
        obtain ⟨g17, H⟩ := gd H
        obtain ⟨g18, H⟩ := gd H
        refine J_iald dX0_solveAt_52 g17 (inB_ok g18) ?_
        refine J_iadd dX0_solveAt_53 ?_
        refine J_istore dX0_solveAt_54 (by decide) (ls' := [.ref v0, .int v1, .int v2, .int t12, .int (t12 + (gI h (gP h v0 10) (v2 + (1 : Int32)).toNatClampNeg)), Value.null, Value.null]) rfl ?_
        refine J_iconst (1 : Int32) dX0_solveAt_56 kc_1 ?_
        refine J_aload_n 0 dX0_solveAt_57 rfl rfl ?_
        refine J_gP 0 11 dX0_solveAt_58 g9 flX0_46 rfl rfl ?_
        refine J_iload_n 2 dX0_solveAt_61 rfl rfl ?_
        refine J_iconst (1 : Int32) dX0_solveAt_62 kc_1 ?_
        refine J_iadd dX0_solveAt_63 ?_
        refine J_iald dX0_solveAt_64 g14 (inB_ok g15) ?_
        refine J_iadd dX0_solveAt_65 ?_
        refine J_istore dX0_solveAt_66 (by decide) (ls' := [.ref v0, .int v1, .int v2, .int t12, .int (t12 + (gI h (gP h v0 10) (v2 + (1 : Int32)).toNatClampNeg)), .int ((1 : Int32) + (gI h (gP h v0 11) (v2 + (1 : Int32)).toNatClampNeg)), Value.null]) rfl ?_
        refine J_aload_n 0 dX0_solveAt_68 rfl rfl ?_
        refine J_gP 0 11 dX0_solveAt_69 g9 flX0_46 rfl rfl ?_
        refine J_iload_n 1 dX0_solveAt_72 rfl rfl ?_
        obtain ⟨g19, H⟩ := gd H
        refine J_iald dX0_solveAt_73 g14 (inB_ok g19) ?_
        refine J_iconst (-1 : Int32) dX0_solveAt_74 kc_m1 ?_
        refine J_icmp_eq 111 dX0_solveAt_75 rfl (fun q20 => ?_) (fun q20 => ?_)
        · replace H := br1 q20 H
          exact J_dr (kX0_solveAt_111 H hb0 hx) ⟨rfl, ⟨rfl, ⟨rfl, ⟨rfl, ⟨rfl, trivial⟩⟩⟩⟩⟩
        · replace H := br0 q20 H
          refine J_iload dX0_solveAt_78 rfl ?_
          refine J_aload_n 0 dX0_solveAt_80 rfl rfl ?_
          refine J_gP 0 10 dX0_solveAt_81 g9 flX0_43 rfl rfl ?_
          refine J_iload_n 1 dX0_solveAt_84 rfl rfl ?_
          obtain ⟨g44, H⟩ := gd H
          refine J_iald dX0_solveAt_85 g17 (inB_ok g44) ?_
          refine J_icmp_lt 111 dX0_solveAt_86 rfl (fun q45 => ?_) (fun q45 => ?_)
          · replace H := br1 q45 H
            exact J_dr (kX0_solveAt_111 H hb0 hx) ⟨rfl, ⟨rfl, ⟨rfl, ⟨rfl, ⟨rfl, trivial⟩⟩⟩⟩⟩
          · replace H := br0 q45 H
            refine J_iload dX0_solveAt_89 rfl ?_
            refine J_aload_n 0 dX0_solveAt_91 rfl rfl ?_
            refine J_gP 0 10 dX0_solveAt_92 g9 flX0_43 rfl rfl ?_
            refine J_iload_n 1 dX0_solveAt_95 rfl rfl ?_
            refine J_iald dX0_solveAt_96 g17 (inB_ok g44) ?_
            refine J_icmp_ne 115 dX0_solveAt_97 rfl (fun q46 => ?_) (fun q46 => ?_)
            · replace H := br0 q46 H
              exact J_dr (kX0_solveAt_115 H hb0 hx) ⟨rfl, ⟨rfl, ⟨rfl, ⟨rfl, ⟨rfl, trivial⟩⟩⟩⟩⟩
            · replace H := br1 q46 H
              refine J_iload dX0_solveAt_100 rfl ?_
              refine J_aload_n 0 dX0_solveAt_102 rfl rfl ?_
              refine J_gP 0 11 dX0_solveAt_103 g9 flX0_46 rfl rfl ?_
              refine J_iload_n 1 dX0_solveAt_106 rfl rfl ?_
              refine J_iald dX0_solveAt_107 g14 (inB_ok g19) ?_
              refine J_icmp_gt 115 dX0_solveAt_108 rfl (fun q47 => ?_) (fun q47 => ?_)
              · replace H := br1 q47 H
                exact J_dr (kX0_solveAt_115 H hb0 hx) ⟨rfl, ⟨rfl, ⟨rfl, ⟨rfl, ⟨rfl, trivial⟩⟩⟩⟩⟩
              · replace H := br0 q47 H
                exact J_dr (kX0_solveAt_111 H hb0 hx) ⟨rfl, ⟨rfl, ⟨rfl, ⟨rfl, ⟨rfl, trivial⟩⟩⟩⟩⟩
      · replace H := br1 q16 H
        refine J_goto 146 dX0_solveAt_41 rfl ?_
        refine J_iinc (v2 + (1 : Int32)) dX0_solveAt_146 rfl (congrArg (HAdd.hAdd v2) kc_1) (by decide) (ls' := [.ref v0, .int v1, .int (v2 + (1 : Int32)), .int t12, Value.null, Value.null, Value.null]) rfl ?_
        refine J_goto 9 dX0_solveAt_149 rfl ?_
        cases H
        exact J_dr (hb0 _ rfl) ⟨rfl, ⟨rfl, ⟨rfl, trivial⟩⟩⟩
noncomputable def MX0_solveAt_9 (h : Hp) (v0 : Nat) (v1 : Int32) (v2 : Int32) : Option Hp := it (fun q : Int32 × Hp => BX0_solveAt_9 q.2 v0 v1 q.1) (v2, h)
set_option maxRecDepth 100000 in
set_option maxHeartbeats 8000000 in
theorem kX0_solveAt_9 {d : Nat} {h : Hp} {v0 : Nat} {v1 : Int32} {v2 : Int32} {h9 : Hp} (H : MX0_solveAt_9 h v0 v1 v2 = some h9) : J (d + 2) YX0_solveAt 9 [.ref v0, .int v1, .int v2, Value.null, Value.null, Value.null, Value.null] [] h oV h9 := by
  unfold MX0_solveAt_9 at H
  refine it_J (G := (fun q : Int32 × Hp => J (d + 2) YX0_solveAt 9 [.ref v0, .int v1, .int q.1, Value.null, Value.null, Value.null, Value.null] [] q.2 oV h9)) (Q := (fun y : Hp => y = h9)) (fun q x Hq hm => ?_) H rfl
  exact bX0_solveAt_9 Hq (fun s hs => by subst hs; exact hm) (fun z hz => by subst hz; exact hm)
noncomputable def MX0_solveAt (h : Hp) (v0 : Nat) (v1 : Int32) : Option Hp :=
  gg (β := Hp) (kd h v0 = 0) <|
  gg (β := Hp) (kd h (gP h v0 11) = 20) <|
  gg (β := Hp) (inB v1 (ln h (gP h v0 11)) = true) <|
  lt (α := Hp) (β := Option Hp) (sI h (gP h v0 11) v1.toNatClampNeg (-1 : Int32)) fun (h4 : Hp) =>
  MX0_solveAt_9 h4 v0 v1 v1
set_option maxRecDepth 100000 in
set_option maxHeartbeats 8000000 in
theorem eX0_solveAt {d : Nat} {h : Hp} {v0 : Nat} {v1 : Int32} {h9 : Hp} (H : MX0_solveAt h v0 v1 = some h9) : J (d + 2) YX0_solveAt 0 [.ref v0, .int v1, Value.null, Value.null, Value.null, Value.null, Value.null] [] h oV h9 := by
  unfold MX0_solveAt at H
  refine J_aload_n 0 dX0_solveAt_0 rfl rfl ?_
  obtain ⟨g1, H⟩ := gd H
  refine J_gP 0 11 dX0_solveAt_1 g1 flX0_46 rfl rfl ?_
  refine J_iload_n 1 dX0_solveAt_4 rfl rfl ?_
  refine J_iconst (-1 : Int32) dX0_solveAt_5 kc_m1 ?_
  obtain ⟨g2, H⟩ := gd H
  obtain ⟨g3, H⟩ := gd H
  obtain ⟨h4, e5, H⟩ := lt_el H
  refine J_sI dX0_solveAt_6 g2 (inB_ok g3) e5 ?_
  have c6 := ekI e5
  have c7 := elI e5
  have c8 := epI e5
  refine J_iload_n 1 dX0_solveAt_7 rfl rfl ?_
  refine J_istore_n 2 dX0_solveAt_8 rfl (by decide) (ls' := [.ref v0, .int v1, .int v1, Value.null, Value.null, Value.null, Value.null]) rfl ?_
  exact J_dr (kX0_solveAt_9 H ) ⟨rfl, ⟨rfl, ⟨rfl, trivial⟩⟩⟩
theorem okX0_solveAt {d : Nat} {h : Hp} {v0 : Nat} {v1 : Int32} {h9 : Hp} (H : MX0_solveAt h v0 v1 = some h9) : CT (d + 2) YX0_solveAt [.ref v0, .int v1] h oV h9 := CT_of (by decide +kernel) (Nat.le_of_ble_eq_true rfl) (eX0_solveAt H)
noncomputable def MX0_solve_43 (h : Hp) (v0 : Nat) (v1 : Int32) : Option (Int32 × Hp) :=
  gg (β := (Int32 × Hp)) (kd h v0 = 0) <|
  gg (β := (Int32 × Hp)) (kd h (gP h v0 11) = 20) <|
  gg (β := (Int32 × Hp)) (inB v1 (ln h (gP h v0 11)) = true) <|
  some ((gI h (gP h v0 11) v1.toNatClampNeg), h)
set_option maxRecDepth 100000 in
set_option maxHeartbeats 8000000 in
theorem kX0_solve_43 {d : Nat} {h : Hp} {v0 : Nat} {v1 : Int32} {r : Int32} {h9 : Hp} (H : MX0_solve_43 h v0 v1 = some (r, h9)) : J (d + 3) YX0_solve 43 [.ref v0, .int v1, Value.null] [] h (oI r) h9 := by
  unfold MX0_solve_43 at H
  refine J_aload_n 0 dX0_solve_43 rfl rfl ?_
  obtain ⟨g17, H⟩ := gd H
  refine J_gP 0 11 dX0_solve_44 g17 flX0_46 rfl rfl ?_
  refine J_iload_n 1 dX0_solve_47 rfl rfl ?_
  obtain ⟨g18, H⟩ := gd H
  obtain ⟨g19, H⟩ := gd H
  refine J_iald dX0_solve_48 g18 (inB_ok g19) ?_
  cases H
  exact J_iretI dX0_solve_49 rfl
noncomputable def BX0_solve_27 (h : Hp) (v0 : Nat) (v1 : Int32) (v2 : Int32) : Option ((Int32 × Hp) ⊕ (Int32 × Hp)) :=
  if v2 < v1 then
    up1 (MX0_solve_43 h v0 v1)
  else
    gg (β := ((Int32 × Hp) ⊕ (Int32 × Hp))) (kd h v0 = 0) <|
    Option.bind (α := Hp) (β := ((Int32 × Hp) ⊕ (Int32 × Hp))) (MX0_solveAt h v0 v2) fun (h22 : Hp) =>
    some (.inl ((v2 + (-1 : Int32)), h22))
set_option maxRecDepth 100000 in
set_option maxHeartbeats 8000000 in
theorem bX0_solve_27 {d : Nat} {h : Hp} {v0 : Nat} {v1 : Int32} {v2 : Int32} {r : Int32} {h9 : Hp} {x : ((Int32 × Hp) ⊕ (Int32 × Hp))} (H : BX0_solve_27 h v0 v1 v2 = some x) (hb0 : ∀ s : Int32 × Hp, x = .inl s → J (d + 3) YX0_solve 27 [.ref v0, .int v1, .int s.1] [] s.2 (oI r) h9) (hx : ∀ z : (Int32 × Hp), x = .inr (z) → z = (r, h9)) : J (d + 3) YX0_solve 27 [.ref v0, .int v1, .int v2] [] h (oI r) h9 := by
  unfold BX0_solve_27 at H
  refine J_iload_n 2 dX0_solve_27 rfl rfl ?_
  refine J_iload_n 1 dX0_solve_28 rfl rfl ?_
  refine J_icmp_lt 43 dX0_solve_29 rfl (fun q16 => ?_) (fun q16 => ?_)
  · replace H := br1 q16 H
    obtain ⟨y0, H90, rfl⟩ := up1_el H
    replace H := H90
    obtain rfl := hx _ rfl
    exact J_dr (kX0_solve_43 H ) ⟨rfl, ⟨rfl, trivial⟩⟩
  · replace H := br0 q16 H
    refine J_aload_n 0 dX0_solve_32 rfl rfl ?_
    refine J_iload_n 2 dX0_solve_33 rfl rfl ?_
    obtain ⟨g21, H⟩ := gd H
    obtain ⟨h22, e20, H⟩ := bd H
    refine J_cV (as := [.int v2]) 0 YX0_solveAt 1 dX0_solve_34 moX0_solveAt mvX0_solveAt mlX0_92 g21 rfl rfl (okX0_solveAt (d := d) e20) rfl rfl [] rfl rfl (st2 := []) rfl ?_
    refine J_iinc (v2 + (-1 : Int32)) dX0_solve_37 rfl (congrArg (HAdd.hAdd v2) kc_m1) (by decide) (ls' := [.ref v0, .int v1, .int (v2 + (-1 : Int32))]) rfl ?_
    refine J_goto 27 dX0_solve_40 rfl ?_
    cases H
    exact J_dr (hb0 _ rfl) ⟨rfl, ⟨rfl, ⟨rfl, trivial⟩⟩⟩
noncomputable def MX0_solve_27 (h : Hp) (v0 : Nat) (v1 : Int32) (v2 : Int32) : Option (Int32 × Hp) := it (fun q : Int32 × Hp => BX0_solve_27 q.2 v0 v1 q.1) (v2, h)
set_option maxRecDepth 100000 in
set_option maxHeartbeats 8000000 in
theorem kX0_solve_27 {d : Nat} {h : Hp} {v0 : Nat} {v1 : Int32} {v2 : Int32} {r : Int32} {h9 : Hp} (H : MX0_solve_27 h v0 v1 v2 = some (r, h9)) : J (d + 3) YX0_solve 27 [.ref v0, .int v1, .int v2] [] h (oI r) h9 := by
  unfold MX0_solve_27 at H
  refine it_J (G := (fun q : Int32 × Hp => J (d + 3) YX0_solve 27 [.ref v0, .int v1, .int q.1] [] q.2 (oI r) h9)) (Q := (fun y : (Int32 × Hp) => y = (r, h9))) (fun q x Hq hm => ?_) H rfl
  exact bX0_solve_27 Hq (fun s hs => by subst hs; exact hm) (fun z hz => by subst hz; exact hm)
noncomputable def MX0_solve (h : Hp) (v0 : Nat) (v1 : Int32) : Option (Int32 × Hp) :=
  gg (β := (Int32 × Hp)) (kd h v0 = 0) <|
  gg (β := (Int32 × Hp)) (kd h (gP h v0 10) = 20) <|
  gg (β := (Int32 × Hp)) (inB (gI h v0 6) (ln h (gP h v0 10)) = true) <|
  lt (α := Hp) (β := Option (Int32 × Hp)) (sI h (gP h v0 10) (gI h v0 6).toNatClampNeg (0 : Int32)) fun (h4 : Hp) =>
  gg (β := (Int32 × Hp)) (kd h (gP h v0 11) = 20) <|
  gg (β := (Int32 × Hp)) (inB (gI h4 v0 6) (ln h (gP h v0 11)) = true) <|
  lt (α := Hp) (β := Option (Int32 × Hp)) (sI h4 (gP h v0 11) (gI h4 v0 6).toNatClampNeg (0 : Int32)) fun (h11 : Hp) =>
  MX0_solve_27 h11 v0 v1 ((gI h11 v0 6) - (1 : Int32))
set_option maxRecDepth 100000 in
set_option maxHeartbeats 8000000 in
theorem eX0_solve {d : Nat} {h : Hp} {v0 : Nat} {v1 : Int32} {r : Int32} {h9 : Hp} (H : MX0_solve h v0 v1 = some (r, h9)) : J (d + 3) YX0_solve 0 [.ref v0, .int v1, Value.null] [] h (oI r) h9 := by
  unfold MX0_solve at H
  refine J_aload_n 0 dX0_solve_0 rfl rfl ?_
  obtain ⟨g1, H⟩ := gd H
  refine J_gP 0 10 dX0_solve_1 g1 flX0_43 rfl rfl ?_
  refine J_aload_n 0 dX0_solve_4 rfl rfl ?_
  refine J_getI 0 6 dX0_solve_5 g1 flX0_30 rfl ?_
  refine J_iconst (0 : Int32) dX0_solve_8 kc_0 ?_
  obtain ⟨g2, H⟩ := gd H
  obtain ⟨g3, H⟩ := gd H
  obtain ⟨h4, e5, H⟩ := lt_el H
  refine J_sI dX0_solve_9 g2 (inB_ok g3) e5 ?_
  have c6 := ekI e5
  have c7 := elI e5
  have c8 := epI e5
  refine J_aload_n 0 dX0_solve_10 rfl rfl ?_
  refine J_gP 0 11 dX0_solve_11 (kq c6 g1) flX0_46 rfl (congrFun (congrFun c8 v0) 11) ?_
  refine J_aload_n 0 dX0_solve_14 rfl rfl ?_
  refine J_getI 0 6 dX0_solve_15 (kq c6 g1) flX0_30 rfl ?_
  refine J_iconst (0 : Int32) dX0_solve_18 kc_0 ?_
  obtain ⟨g9, H⟩ := gd H
  obtain ⟨g10, H⟩ := gd H
  obtain ⟨h11, e12, H⟩ := lt_el H
  refine J_sI dX0_solve_19 (kq c6 g9) (lq c7 g10) e12 ?_
  have c13 := (ekI e12).trans c6
  have c14 := (elI e12).trans c7
  have c15 := (epI e12).trans c8
  refine J_aload_n 0 dX0_solve_20 rfl rfl ?_
  refine J_getI 0 6 dX0_solve_21 (kq c13 g1) flX0_30 rfl ?_
  refine J_iconst (1 : Int32) dX0_solve_24 kc_1 ?_
  refine J_isub dX0_solve_25 ?_
  refine J_istore_n 2 dX0_solve_26 rfl (by decide) (ls' := [.ref v0, .int v1, .int ((gI h11 v0 6) - (1 : Int32))]) rfl ?_
  exact J_dr (kX0_solve_27 H ) ⟨rfl, ⟨rfl, ⟨rfl, trivial⟩⟩⟩
theorem okX0_solve {d : Nat} {h : Hp} {v0 : Nat} {v1 : Int32} {r : Int32} {h9 : Hp} (H : MX0_solve h v0 v1 = some (r, h9)) : CT (d + 3) YX0_solve [.ref v0, .int v1] h (oI r) h9 := CT_of (by decide +kernel) (Nat.le_of_ble_eq_true rfl) (eX0_solve H)
noncomputable def MX0_widthOf (h : Hp) (v0 : Nat) (v1 : Int32) : Option Int32 :=
  if v1 < 0 then
    some (0 : Int32)
  else
    gg (β := Int32) (kd h v0 = 20) <|
    if (nI (ln h v0)) ≤ v1 then
      some (0 : Int32)
    else
      gg (β := Int32) (inB v1 (ln h v0) = true) <|
      some (gI h v0 v1.toNatClampNeg)
set_option maxRecDepth 100000 in
set_option maxHeartbeats 8000000 in
theorem eX0_widthOf {d : Nat} {h : Hp} {v0 : Nat} {v1 : Int32} {r : Int32} (H : MX0_widthOf h v0 v1 = some r) : J (d) YX0_widthOf 0 [.ref v0, .int v1] [] h (oI r) h := by
  unfold MX0_widthOf at H
  refine J_iload_n 1 dX0_widthOf_0 rfl rfl ?_
  refine J_if_lt 16 dX0_widthOf_1 rfl (fun q1 => ?_) (fun q1 => ?_)
  · replace H := br1 q1 H
    refine J_iconst (0 : Int32) dX0_widthOf_16 kc_0 ?_
    cases H
    exact J_iretI dX0_widthOf_17 rfl
  · replace H := br0 q1 H
    refine J_iload_n 1 dX0_widthOf_4 rfl rfl ?_
    refine J_aload_n 0 dX0_widthOf_5 rfl rfl ?_
    obtain ⟨g2, H⟩ := gd H
    refine J_len 20 dX0_widthOf_6 g2 rfl ?_
    refine J_icmp_ge 16 dX0_widthOf_7 rfl (fun q3 => ?_) (fun q3 => ?_)
    · replace H := br1 q3 H
      refine J_iconst (0 : Int32) dX0_widthOf_16 kc_0 ?_
      cases H
      exact J_iretI dX0_widthOf_17 rfl
    · replace H := br0 q3 H
      refine J_aload_n 0 dX0_widthOf_10 rfl rfl ?_
      refine J_iload_n 1 dX0_widthOf_11 rfl rfl ?_
      obtain ⟨g4, H⟩ := gd H
      refine J_iald dX0_widthOf_12 g2 (inB_ok g4) ?_
      refine J_goto 17 dX0_widthOf_13 rfl ?_
      cases H
      exact J_iretI dX0_widthOf_17 rfl
theorem okX0_widthOf {d : Nat} {h : Hp} {v0 : Nat} {v1 : Int32} {r : Int32} (H : MX0_widthOf h v0 v1 = some r) : CT (d) YX0_widthOf [.ref v0, .int v1] h (oI r) h := CT_of (by decide +kernel) (Nat.le_of_ble_eq_true rfl) (eX0_widthOf H)
noncomputable def MX0_loadCopy_137 (h : Hp) (v0 : Nat) (v1 : Nat) (v2 : Nat) (v3 : Int32) (v4 : Int32) (s0 : Nat) (s1 : Int32) (s2 : Int32) (s3 : Int32) : Option ((Int32 × Hp) ⊕ Hp) :=
  gg (β := ((Int32 × Hp) ⊕ Hp)) (kd h s0 = 20) <|
  gg (β := ((Int32 × Hp) ⊕ Hp)) (inB s1 (ln h s0) = true) <|
  lt (α := Hp) (β := Option ((Int32 × Hp) ⊕ Hp)) (sI h s0 s1.toNatClampNeg (s2 + s3)) fun (h42 : Hp) =>
  some (.inl ((v4 + (1 : Int32)), h42))
set_option maxRecDepth 100000 in
set_option maxHeartbeats 8000000 in
theorem kX0_loadCopy_137 {d : Nat} {h : Hp} {v0 : Nat} {v1 : Nat} {v2 : Nat} {v3 : Int32} {v4 : Int32} {s0 : Nat} {s1 : Int32} {s2 : Int32} {s3 : Int32} {h9 : Hp} {x : ((Int32 × Hp) ⊕ Hp)} (H : MX0_loadCopy_137 h v0 v1 v2 v3 v4 s0 s1 s2 s3 = some x) (hb0 : ∀ s : Int32 × Hp, x = .inl s → J (d + 1) YX0_loadCopy 31 [.ref v0, .ref v1, .ref v2, .int v3, .int s.1, Value.null, Value.null] [] s.2 oV h9) (hx : ∀ z : Hp, x = .inr (z) → z = h9) : J (d + 1) YX0_loadCopy 137 [.ref v0, .ref v1, .ref v2, .int v3, .int v4, Value.null, Value.null] [.int s3, .int s2, .int s1, .ref s0] h oV h9 := by
  unfold MX0_loadCopy_137 at H
  refine J_iadd dX0_loadCopy_137 ?_
  obtain ⟨g40, H⟩ := gd H
  obtain ⟨g41, H⟩ := gd H
  obtain ⟨h42, e43, H⟩ := lt_el H
  refine J_sI dX0_loadCopy_138 g40 (inB_ok g41) e43 ?_
  have c44 := ekI e43
  have c45 := elI e43
  have c46 := epI e43
  refine J_iinc (v4 + (1 : Int32)) dX0_loadCopy_139 rfl (congrArg (HAdd.hAdd v4) kc_1) (by decide) (ls' := [.ref v0, .ref v1, .ref v2, .int v3, .int (v4 + (1 : Int32)), Value.null, Value.null]) rfl ?_
  refine J_goto 31 dX0_loadCopy_142 rfl ?_
  cases H
  exact J_dr (hb0 _ rfl) ⟨rfl, ⟨rfl, ⟨rfl, ⟨rfl, ⟨rfl, trivial⟩⟩⟩⟩⟩
noncomputable def MX0_loadCopy_96 (h : Hp) (v0 : Nat) (v1 : Nat) (v2 : Nat) (v3 : Int32) (v4 : Int32) (v5 : Int32) : Option ((Int32 × Hp) ⊕ Hp) :=
  gg (β := ((Int32 × Hp) ⊕ Hp)) (kd h v0 = 0) <|
  gg (β := ((Int32 × Hp) ⊕ Hp)) (kd h (gP h v0 8) = 20) <|
  gg (β := ((Int32 × Hp) ⊕ Hp)) (inB (v4 + (1 : Int32)) (ln h (gP h v0 8)) = true) <|
  lt (α := Hp) (β := Option ((Int32 × Hp) ⊕ Hp)) (sI h (gP h v0 8) (v4 + (1 : Int32)).toNatClampNeg v5) fun (h29 : Hp) =>
  gg (β := ((Int32 × Hp) ⊕ Hp)) (kd h (gP h v0 9) = 20) <|
  gg (β := ((Int32 × Hp) ⊕ Hp)) (inB v4 (ln h (gP h v0 9)) = true) <|
  gg (β := ((Int32 × Hp) ⊕ Hp)) (kd h v1 = 4) <|
  gg (β := ((Int32 × Hp) ⊕ Hp)) (kd h (gP h v1 2) = 22) <|
  gg (β := ((Int32 × Hp) ⊕ Hp)) (inB v4 (ln h (gP h v1 2)) = true) <|
  if (gI h29 (gP h v1 2) v4.toNatClampNeg) = 0 then
    MX0_loadCopy_137 h29 v0 v1 v2 v3 v4 (gP h v0 9) (v4 + (1 : Int32)) (gI h29 (gP h v0 9) v4.toNatClampNeg) (0 : Int32)
  else
    MX0_loadCopy_137 h29 v0 v1 v2 v3 v4 (gP h v0 9) (v4 + (1 : Int32)) (gI h29 (gP h v0 9) v4.toNatClampNeg) (1 : Int32)
set_option maxRecDepth 100000 in
set_option maxHeartbeats 8000000 in
theorem kX0_loadCopy_96 {d : Nat} {h : Hp} {v0 : Nat} {v1 : Nat} {v2 : Nat} {v3 : Int32} {v4 : Int32} {v5 : Int32} {h9 : Hp} {x : ((Int32 × Hp) ⊕ Hp)} (H : MX0_loadCopy_96 h v0 v1 v2 v3 v4 v5 = some x) (hb0 : ∀ s : Int32 × Hp, x = .inl s → J (d + 1) YX0_loadCopy 31 [.ref v0, .ref v1, .ref v2, .int v3, .int s.1, Value.null, Value.null] [] s.2 oV h9) (hx : ∀ z : Hp, x = .inr (z) → z = h9) : J (d + 1) YX0_loadCopy 96 [.ref v0, .ref v1, .ref v2, .int v3, .int v4, .int v5, Value.null] [] h oV h9 := by
  unfold MX0_loadCopy_96 at H
  refine J_aload_n 0 dX0_loadCopy_96 rfl rfl ?_
  obtain ⟨g26, H⟩ := gd H
  refine J_gP 0 8 dX0_loadCopy_97 g26 flX0_36 rfl rfl ?_
  refine J_iload dX0_loadCopy_100 rfl ?_
  refine J_iconst (1 : Int32) dX0_loadCopy_102 kc_1 ?_
  refine J_iadd dX0_loadCopy_103 ?_
  refine J_iload dX0_loadCopy_104 rfl ?_
  obtain ⟨g27, H⟩ := gd H
  obtain ⟨g28, H⟩ := gd H
  obtain ⟨h29, e30, H⟩ := lt_el H
  refine J_sI dX0_loadCopy_106 g27 (inB_ok g28) e30 ?_
  have c31 := ekI e30
  have c32 := elI e30
  have c33 := epI e30
  refine J_aload_n 0 dX0_loadCopy_107 rfl rfl ?_
  refine J_gP 0 9 dX0_loadCopy_108 (kq c31 g26) flX0_40 rfl (congrFun (congrFun c33 v0) 9) ?_
  refine J_iload dX0_loadCopy_111 rfl ?_
  refine J_iconst (1 : Int32) dX0_loadCopy_113 kc_1 ?_
  refine J_iadd dX0_loadCopy_114 ?_
  refine J_aload_n 0 dX0_loadCopy_115 rfl rfl ?_
  refine J_gP 0 9 dX0_loadCopy_116 (kq c31 g26) flX0_40 rfl (congrFun (congrFun c33 v0) 9) ?_
  refine J_iload dX0_loadCopy_119 rfl ?_
  obtain ⟨g34, H⟩ := gd H
  obtain ⟨g35, H⟩ := gd H
  refine J_iald dX0_loadCopy_121 (kq c31 g34) (lq c32 g35) ?_
  refine J_aload_n 1 dX0_loadCopy_122 rfl rfl ?_
  obtain ⟨g36, H⟩ := gd H
  refine J_gP 4 2 dX0_loadCopy_123 (kq c31 g36) flX0_73 rfl (congrFun (congrFun c33 v1) 2) ?_
  refine J_iload dX0_loadCopy_126 rfl ?_
  obtain ⟨g37, H⟩ := gd H
  obtain ⟨g38, H⟩ := gd H
  refine J_zald dX0_loadCopy_128 (kq c31 g37) (lq c32 g38) ?_
  refine J_if_eq 136 dX0_loadCopy_129 rfl (fun q39 => ?_) (fun q39 => ?_)
  · replace H := br1 q39 H
    refine J_iconst (0 : Int32) dX0_loadCopy_136 kc_0 ?_
    exact J_dr (kX0_loadCopy_137 H hb0 hx) ⟨rfl, ⟨rfl, ⟨rfl, ⟨rfl, ⟨rfl, trivial⟩⟩⟩⟩⟩
  · replace H := br0 q39 H
    refine J_iconst (1 : Int32) dX0_loadCopy_132 kc_1 ?_
    refine J_goto 137 dX0_loadCopy_133 rfl ?_
    exact J_dr (kX0_loadCopy_137 H hb0 hx) ⟨rfl, ⟨rfl, ⟨rfl, ⟨rfl, ⟨rfl, trivial⟩⟩⟩⟩⟩
noncomputable def BX0_loadCopy_58 (h : Hp) (v0 : Nat) (v1 : Nat) (v2 : Nat) (v3 : Int32) (v4 : Int32) (v5 : Int32) (v6 : Int32) : Option ((Int32 × Int32) ⊕ ((Int32 × Hp) ⊕ Hp)) :=
  gg (β := ((Int32 × Int32) ⊕ ((Int32 × Hp) ⊕ Hp))) (kd h v1 = 4) <|
  gg (β := ((Int32 × Int32) ⊕ ((Int32 × Hp) ⊕ Hp))) (kd h (gP h v1 1) = 20) <|
  gg (β := ((Int32 × Int32) ⊕ ((Int32 × Hp) ⊕ Hp))) (inB (v4 + (1 : Int32)) (ln h (gP h v1 1)) = true) <|
  if (gI h (gP h v1 1) (v4 + (1 : Int32)).toNatClampNeg) ≤ v6 then
    up1 (MX0_loadCopy_96 h v0 v1 v2 v3 v4 v5)
  else
    gg (β := ((Int32 × Int32) ⊕ ((Int32 × Hp) ⊕ Hp))) (kd h (gP h v1 0) = 21) <|
    gg (β := ((Int32 × Int32) ⊕ ((Int32 × Hp) ⊕ Hp))) (inB v6 (ln h (gP h v1 0)) = true) <|
    Option.bind (α := Int32) (β := ((Int32 × Int32) ⊕ ((Int32 × Hp) ⊕ Hp))) (MX0_widthOf h v2 (v3 + (gI h (gP h v1 0) v6.toNatClampNeg))) fun (t50 : Int32) =>
    some (.inl ((v5 + t50), (v6 + (1 : Int32))))
set_option maxRecDepth 100000 in
set_option maxHeartbeats 8000000 in
theorem bX0_loadCopy_58 {d : Nat} {h : Hp} {v0 : Nat} {v1 : Nat} {v2 : Nat} {v3 : Int32} {v4 : Int32} {v5 : Int32} {v6 : Int32} {h9 : Hp} {x : ((Int32 × Int32) ⊕ ((Int32 × Hp) ⊕ Hp))} (H : BX0_loadCopy_58 h v0 v1 v2 v3 v4 v5 v6 = some x) (hb0 : ∀ s : Int32 × Int32, x = .inl s → J (d + 1) YX0_loadCopy 58 [.ref v0, .ref v1, .ref v2, .int v3, .int v4, .int s.1, .int s.2] [] h oV h9) (hb1 : ∀ s : Int32 × Hp, x = .inr (.inl s) → J (d + 1) YX0_loadCopy 31 [.ref v0, .ref v1, .ref v2, .int v3, .int s.1, Value.null, Value.null] [] s.2 oV h9) (hx : ∀ z : Hp, x = .inr (.inr (z)) → z = h9) : J (d + 1) YX0_loadCopy 58 [.ref v0, .ref v1, .ref v2, .int v3, .int v4, .int v5, .int v6] [] h oV h9 := by
  unfold BX0_loadCopy_58 at H
  refine J_iload dX0_loadCopy_58 rfl ?_
  refine J_aload_n 1 dX0_loadCopy_60 rfl rfl ?_
  obtain ⟨g22, H⟩ := gd H
  refine J_gP 4 1 dX0_loadCopy_61 g22 flX0_66 rfl rfl ?_
  refine J_iload dX0_loadCopy_64 rfl ?_
  refine J_iconst (1 : Int32) dX0_loadCopy_66 kc_1 ?_
  refine J_iadd dX0_loadCopy_67 ?_
  obtain ⟨g23, H⟩ := gd H
  obtain ⟨g24, H⟩ := gd H
  refine J_iald dX0_loadCopy_68 g23 (inB_ok g24) ?_
  refine J_icmp_ge 96 dX0_loadCopy_69 rfl (fun q25 => ?_) (fun q25 => ?_)
  · replace H := br1 q25 H
    obtain ⟨y0, H90, rfl⟩ := up1_el H
    replace H := H90
    exact J_dr (kX0_loadCopy_96 H (fun s hs => hb1 s (congrArg Sum.inr hs)) (fun s hs => hx s (congrArg Sum.inr hs))) ⟨rfl, ⟨rfl, ⟨rfl, ⟨rfl, ⟨rfl, ⟨rfl, trivial⟩⟩⟩⟩⟩⟩
  · replace H := br0 q25 H
    refine J_iload dX0_loadCopy_72 rfl ?_
    refine J_aload_n 2 dX0_loadCopy_74 rfl rfl ?_
    refine J_iload_n 3 dX0_loadCopy_75 rfl rfl ?_
    refine J_aload_n 1 dX0_loadCopy_76 rfl rfl ?_
    refine J_gP 4 0 dX0_loadCopy_77 g22 flX0_69 rfl rfl ?_
    refine J_iload dX0_loadCopy_80 rfl ?_
    obtain ⟨g47, H⟩ := gd H
    obtain ⟨g48, H⟩ := gd H
    refine J_bald dX0_loadCopy_82 g47 (inB_ok g48) ?_
    refine J_iadd dX0_loadCopy_83 ?_
    obtain ⟨t50, e49, H⟩ := bd H
    refine J_cS (as := [.ref v2, .int (v3 + (gI h (gP h v1 0) v6.toNatClampNeg))]) YX0_widthOf 2 dX0_loadCopy_84 moX0_widthOf msX0_widthOf mlX0_62 (okX0_widthOf (d := d) e49) rfl rfl [.int v5] rfl rfl (st2 := [.int t50, .int v5]) rfl ?_
    refine J_iadd dX0_loadCopy_87 ?_
    refine J_istore dX0_loadCopy_88 (by decide) (ls' := [.ref v0, .ref v1, .ref v2, .int v3, .int v4, .int (v5 + t50), .int v6]) rfl ?_
    refine J_iinc (v6 + (1 : Int32)) dX0_loadCopy_90 rfl (congrArg (HAdd.hAdd v6) kc_1) (by decide) (ls' := [.ref v0, .ref v1, .ref v2, .int v3, .int v4, .int (v5 + t50), .int (v6 + (1 : Int32))]) rfl ?_
    refine J_goto 58 dX0_loadCopy_93 rfl ?_
    cases H
    exact J_dr (hb0 _ rfl) ⟨rfl, ⟨rfl, ⟨rfl, ⟨rfl, ⟨rfl, ⟨rfl, ⟨rfl, trivial⟩⟩⟩⟩⟩⟩⟩
noncomputable def MX0_loadCopy_58 (h : Hp) (v0 : Nat) (v1 : Nat) (v2 : Nat) (v3 : Int32) (v4 : Int32) (v5 : Int32) (v6 : Int32) : Option ((Int32 × Hp) ⊕ Hp) := it (fun q : Int32 × Int32 => BX0_loadCopy_58 h v0 v1 v2 v3 v4 q.1 q.2) (v5, v6)
set_option maxRecDepth 100000 in
set_option maxHeartbeats 8000000 in
theorem kX0_loadCopy_58 {d : Nat} {h : Hp} {v0 : Nat} {v1 : Nat} {v2 : Nat} {v3 : Int32} {v4 : Int32} {v5 : Int32} {v6 : Int32} {h9 : Hp} {x : ((Int32 × Hp) ⊕ Hp)} (H : MX0_loadCopy_58 h v0 v1 v2 v3 v4 v5 v6 = some x) (hb0 : ∀ s : Int32 × Hp, x = .inl s → J (d + 1) YX0_loadCopy 31 [.ref v0, .ref v1, .ref v2, .int v3, .int s.1, Value.null, Value.null] [] s.2 oV h9) (hx : ∀ z : Hp, x = .inr (z) → z = h9) : J (d + 1) YX0_loadCopy 58 [.ref v0, .ref v1, .ref v2, .int v3, .int v4, .int v5, .int v6] [] h oV h9 := by
  unfold MX0_loadCopy_58 at H
  refine it_J (G := (fun q : Int32 × Int32 => J (d + 1) YX0_loadCopy 58 [.ref v0, .ref v1, .ref v2, .int v3, .int v4, .int q.1, .int q.2] [] h oV h9)) (Q := (fun y : ((Int32 × Hp) ⊕ Hp) => (∀ s : Int32 × Hp, y = .inl s → J (d + 1) YX0_loadCopy 31 [.ref v0, .ref v1, .ref v2, .int v3, .int s.1, Value.null, Value.null] [] s.2 oV h9) ∧ (∀ z : Hp, y = .inr (z) → z = h9))) (fun q x Hq hm => ?_) H ⟨hb0, hx⟩
  exact bX0_loadCopy_58 Hq (fun s hs => by subst hs; exact hm) (fun s hs => by subst hs; exact (hm.1) s rfl) (fun z hz => by subst hz; exact (hm.2) z rfl)
noncomputable def BX0_loadCopy_31 (h : Hp) (v0 : Nat) (v1 : Nat) (v2 : Nat) (v3 : Int32) (v4 : Int32) : Option ((Int32 × Hp) ⊕ Hp) :=
  gg (β := ((Int32 × Hp) ⊕ Hp)) (kd h v0 = 0) <|
  if (gI h v0 6) ≤ v4 then
    some (.inr (h))
  else
    gg (β := ((Int32 × Hp) ⊕ Hp)) (kd h (gP h v0 8) = 20) <|
    gg (β := ((Int32 × Hp) ⊕ Hp)) (inB v4 (ln h (gP h v0 8)) = true) <|
    gg (β := ((Int32 × Hp) ⊕ Hp)) (kd h v1 = 4) <|
    gg (β := ((Int32 × Hp) ⊕ Hp)) (kd h (gP h v1 1) = 20) <|
    gg (β := ((Int32 × Hp) ⊕ Hp)) (inB v4 (ln h (gP h v1 1)) = true) <|
    MX0_loadCopy_58 h v0 v1 v2 v3 v4 (gI h (gP h v0 8) v4.toNatClampNeg) (gI h (gP h v1 1) v4.toNatClampNeg)
set_option maxRecDepth 100000 in
set_option maxHeartbeats 8000000 in
theorem bX0_loadCopy_31 {d : Nat} {h : Hp} {v0 : Nat} {v1 : Nat} {v2 : Nat} {v3 : Int32} {v4 : Int32} {h9 : Hp} {x : ((Int32 × Hp) ⊕ Hp)} (H : BX0_loadCopy_31 h v0 v1 v2 v3 v4 = some x) (hb0 : ∀ s : Int32 × Hp, x = .inl s → J (d + 1) YX0_loadCopy 31 [.ref v0, .ref v1, .ref v2, .int v3, .int s.1, Value.null, Value.null] [] s.2 oV h9) (hx : ∀ z : Hp, x = .inr (z) → z = h9) : J (d + 1) YX0_loadCopy 31 [.ref v0, .ref v1, .ref v2, .int v3, .int v4, Value.null, Value.null] [] h oV h9 := by
  unfold BX0_loadCopy_31 at H
  refine J_iload dX0_loadCopy_31 rfl ?_
  refine J_aload_n 0 dX0_loadCopy_33 rfl rfl ?_
  obtain ⟨g15, H⟩ := gd H
  refine J_getI 0 6 dX0_loadCopy_34 g15 flX0_30 rfl ?_
  refine J_icmp_ge 145 dX0_loadCopy_37 rfl (fun q16 => ?_) (fun q16 => ?_)
  · replace H := br1 q16 H
    cases H
    cases hx _ rfl
    exact J_ret dX0_loadCopy_145 rfl
  · replace H := br0 q16 H
    refine J_aload_n 0 dX0_loadCopy_40 rfl rfl ?_
    refine J_gP 0 8 dX0_loadCopy_41 g15 flX0_36 rfl rfl ?_
    refine J_iload dX0_loadCopy_44 rfl ?_
    obtain ⟨g17, H⟩ := gd H
    obtain ⟨g18, H⟩ := gd H
    refine J_iald dX0_loadCopy_46 g17 (inB_ok g18) ?_
    refine J_istore dX0_loadCopy_47 (by decide) (ls' := [.ref v0, .ref v1, .ref v2, .int v3, .int v4, .int (gI h (gP h v0 8) v4.toNatClampNeg), Value.null]) rfl ?_
    refine J_aload_n 1 dX0_loadCopy_49 rfl rfl ?_
    obtain ⟨g19, H⟩ := gd H
    refine J_gP 4 1 dX0_loadCopy_50 g19 flX0_66 rfl rfl ?_
    refine J_iload dX0_loadCopy_53 rfl ?_
    obtain ⟨g20, H⟩ := gd H
    obtain ⟨g21, H⟩ := gd H
    refine J_iald dX0_loadCopy_55 g20 (inB_ok g21) ?_
    refine J_istore dX0_loadCopy_56 (by decide) (ls' := [.ref v0, .ref v1, .ref v2, .int v3, .int v4, .int (gI h (gP h v0 8) v4.toNatClampNeg), .int (gI h (gP h v1 1) v4.toNatClampNeg)]) rfl ?_
    exact J_dr (kX0_loadCopy_58 H hb0 hx) ⟨rfl, ⟨rfl, ⟨rfl, ⟨rfl, ⟨rfl, ⟨rfl, ⟨rfl, trivial⟩⟩⟩⟩⟩⟩⟩
noncomputable def MX0_loadCopy_31 (h : Hp) (v0 : Nat) (v1 : Nat) (v2 : Nat) (v3 : Int32) (v4 : Int32) : Option Hp := it (fun q : Int32 × Hp => BX0_loadCopy_31 q.2 v0 v1 v2 v3 q.1) (v4, h)
set_option maxRecDepth 100000 in
set_option maxHeartbeats 8000000 in
theorem kX0_loadCopy_31 {d : Nat} {h : Hp} {v0 : Nat} {v1 : Nat} {v2 : Nat} {v3 : Int32} {v4 : Int32} {h9 : Hp} (H : MX0_loadCopy_31 h v0 v1 v2 v3 v4 = some h9) : J (d + 1) YX0_loadCopy 31 [.ref v0, .ref v1, .ref v2, .int v3, .int v4, Value.null, Value.null] [] h oV h9 := by
  unfold MX0_loadCopy_31 at H
  refine it_J (G := (fun q : Int32 × Hp => J (d + 1) YX0_loadCopy 31 [.ref v0, .ref v1, .ref v2, .int v3, .int q.1, Value.null, Value.null] [] q.2 oV h9)) (Q := (fun y : Hp => y = h9)) (fun q x Hq hm => ?_) H rfl
  exact bX0_loadCopy_31 Hq (fun s hs => by subst hs; exact hm) (fun z hz => by subst hz; exact hm)
noncomputable def MX0_loadCopy (h : Hp) (v0 : Nat) (v1 : Nat) (v2 : Nat) : Option Hp :=
  gg (β := Hp) (kd h v1 = 4) <|
  gg (β := Hp) (kd h v0 = 0) <|
  lt (α := Hp) (β := Option Hp) (sI h v0 6 (gI h v1 5)) fun (h3 : Hp) =>
  Option.bind (α := Int32) (β := Hp) (MX0_widthOf h3 v2 (((gI h v1 7) * (27 : Int32)) + (26 : Int32))) fun (t9 : Int32) =>
  lt (α := Hp) (β := Option Hp) (sI h3 v0 7 t9) fun (h10 : Hp) =>
  MX0_loadCopy_31 h10 v0 v1 v2 ((gI h v1 7) * (27 : Int32)) (0 : Int32)
set_option maxRecDepth 100000 in
set_option maxHeartbeats 8000000 in
theorem eX0_loadCopy {d : Nat} {h : Hp} {v0 : Nat} {v1 : Nat} {v2 : Nat} {h9 : Hp} (H : MX0_loadCopy h v0 v1 v2 = some h9) : J (d + 1) YX0_loadCopy 0 [.ref v0, .ref v1, .ref v2, Value.null, Value.null, Value.null, Value.null] [] h oV h9 := by
  unfold MX0_loadCopy at H
  refine J_aload_n 1 dX0_loadCopy_0 rfl rfl ?_
  obtain ⟨g1, H⟩ := gd H
  refine J_getI 4 7 dX0_loadCopy_1 g1 flX0_56 rfl ?_
  refine J_bipush (27 : Int32) dX0_loadCopy_4 kb_27 ?_
  refine J_imul dX0_loadCopy_6 ?_
  refine J_istore_n 3 dX0_loadCopy_7 rfl (by decide) (ls' := [.ref v0, .ref v1, .ref v2, .int ((gI h v1 7) * (27 : Int32)), Value.null, Value.null, Value.null]) rfl ?_
  refine J_aload_n 0 dX0_loadCopy_8 rfl rfl ?_
  refine J_aload_n 1 dX0_loadCopy_9 rfl rfl ?_
  refine J_getI 4 5 dX0_loadCopy_10 g1 flX0_61 rfl ?_
  obtain ⟨g2, H⟩ := gd H
  obtain ⟨h3, e4, H⟩ := lt_el H
  refine J_pI 0 6 dX0_loadCopy_13 g2 flX0_30 rfl rfl e4 ?_
  have c5 := ekI e4
  have c6 := elI e4
  have c7 := epI e4
  refine J_aload_n 0 dX0_loadCopy_16 rfl rfl ?_
  refine J_aload_n 2 dX0_loadCopy_17 rfl rfl ?_
  refine J_iload_n 3 dX0_loadCopy_18 rfl rfl ?_
  refine J_bipush (26 : Int32) dX0_loadCopy_19 kb_26 ?_
  refine J_iadd dX0_loadCopy_21 ?_
  obtain ⟨t9, e8, H⟩ := bd H
  refine J_cS (as := [.ref v2, .int (((gI h v1 7) * (27 : Int32)) + (26 : Int32))]) YX0_widthOf 2 dX0_loadCopy_22 moX0_widthOf msX0_widthOf mlX0_62 (okX0_widthOf (d := d) e8) rfl rfl [.ref v0] rfl rfl (st2 := [.int t9, .ref v0]) rfl ?_
  obtain ⟨h10, e11, H⟩ := lt_el H
  refine J_pI 0 7 dX0_loadCopy_25 (kq c5 g2) flX0_33 rfl rfl e11 ?_
  have c12 := (ekI e11).trans c5
  have c13 := (elI e11).trans c6
  have c14 := (epI e11).trans c7
  refine J_iconst (0 : Int32) dX0_loadCopy_28 kc_0 ?_
  refine J_istore dX0_loadCopy_29 (by decide) (ls' := [.ref v0, .ref v1, .ref v2, .int ((gI h v1 7) * (27 : Int32)), .int (0 : Int32), Value.null, Value.null]) rfl ?_
  exact J_dr (kX0_loadCopy_31 H ) ⟨rfl, ⟨rfl, ⟨rfl, ⟨rfl, ⟨rfl, trivial⟩⟩⟩⟩⟩
theorem okX0_loadCopy {d : Nat} {h : Hp} {v0 : Nat} {v1 : Nat} {v2 : Nat} {h9 : Hp} (H : MX0_loadCopy h v0 v1 v2 = some h9) : CT (d + 1) YX0_loadCopy [.ref v0, .ref v1, .ref v2] h oV h9 := CT_of (by decide +kernel) (Nat.le_of_ble_eq_true rfl) (eX0_loadCopy H)
noncomputable def BX9_lastThatHolds_7 (h : Hp) (v0 : Nat) (v1 : Int32) (v2 : Int32) : Option ((Int32) ⊕ Int32) :=
  if v2 < 0 then
    some (.inr ((-1 : Int32)))
  else
    gg (β := ((Int32) ⊕ Int32)) (kd h v0 = 8) <|
    gg (β := ((Int32) ⊕ Int32)) (kd h (gP h v0 2) = 20) <|
    gg (β := ((Int32) ⊕ Int32)) (inB v2 (ln h (gP h v0 2)) = true) <|
    if (gI h (gP h v0 2) v2.toNatClampNeg) = v1 then
      gg (β := ((Int32) ⊕ Int32)) (kd h (gP h v0 7) = 22) <|
      gg (β := ((Int32) ⊕ Int32)) (inB v2 (ln h (gP h v0 7)) = true) <|
      if (gI h (gP h v0 7) v2.toNatClampNeg) = 0 then
        some (.inl (v2 + (-1 : Int32)))
      else
        some (.inr (v2))
    else
      some (.inl (v2 + (-1 : Int32)))
set_option maxRecDepth 100000 in
set_option maxHeartbeats 8000000 in
theorem bX9_lastThatHolds_7 {d : Nat} {h : Hp} {v0 : Nat} {v1 : Int32} {v2 : Int32} {r : Int32} {x : ((Int32) ⊕ Int32)} (H : BX9_lastThatHolds_7 h v0 v1 v2 = some x) (hb0 : ∀ s : Int32, x = .inl s → J (d) YX9_lastThatHolds 7 [.ref v0, .int v1, .int s] [] h (oI r) h) (hx : ∀ z : Int32, x = .inr (z) → z = r) : J (d) YX9_lastThatHolds 7 [.ref v0, .int v1, .int v2] [] h (oI r) h := by
  unfold BX9_lastThatHolds_7 at H
  refine J_iload_n 2 dX9_lastThatHolds_7 rfl rfl ?_
  refine J_if_lt 38 dX9_lastThatHolds_8 rfl (fun q2 => ?_) (fun q2 => ?_)
  · replace H := br1 q2 H
    refine J_iconst (-1 : Int32) dX9_lastThatHolds_38 kc_m1 ?_
    cases H
    cases hx _ rfl
    exact J_iretI dX9_lastThatHolds_39 rfl
  · replace H := br0 q2 H
    refine J_aload_n 0 dX9_lastThatHolds_11 rfl rfl ?_
    obtain ⟨g3, H⟩ := gd H
    refine J_gP 8 2 dX9_lastThatHolds_12 g3 flX9_18 rfl rfl ?_
    refine J_iload_n 2 dX9_lastThatHolds_15 rfl rfl ?_
    obtain ⟨g4, H⟩ := gd H
    obtain ⟨g5, H⟩ := gd H
    refine J_iald dX9_lastThatHolds_16 g4 (inB_ok g5) ?_
    refine J_iload_n 1 dX9_lastThatHolds_17 rfl rfl ?_
    refine J_icmp_ne 32 dX9_lastThatHolds_18 rfl (fun q6 => ?_) (fun q6 => ?_)
    · replace H := br0 q6 H
      refine J_iinc (v2 + (-1 : Int32)) dX9_lastThatHolds_32 rfl (congrArg (HAdd.hAdd v2) kc_m1) (by decide) (ls' := [.ref v0, .int v1, .int (v2 + (-1 : Int32))]) rfl ?_
      refine J_goto 7 dX9_lastThatHolds_35 rfl ?_
      cases H
      exact J_dr (hb0 _ rfl) ⟨rfl, ⟨rfl, ⟨rfl, trivial⟩⟩⟩
    · replace H := br1 q6 H
      refine J_aload_n 0 dX9_lastThatHolds_21 rfl rfl ?_
      refine J_gP 8 7 dX9_lastThatHolds_22 g3 flX9_34 rfl rfl ?_
      refine J_iload_n 2 dX9_lastThatHolds_25 rfl rfl ?_
      obtain ⟨g7, H⟩ := gd H
      obtain ⟨g8, H⟩ := gd H
      refine J_zald dX9_lastThatHolds_26 g7 (inB_ok g8) ?_
      refine J_if_eq 32 dX9_lastThatHolds_27 rfl (fun q9 => ?_) (fun q9 => ?_)
      · replace H := br1 q9 H
        refine J_iinc (v2 + (-1 : Int32)) dX9_lastThatHolds_32 rfl (congrArg (HAdd.hAdd v2) kc_m1) (by decide) (ls' := [.ref v0, .int v1, .int (v2 + (-1 : Int32))]) rfl ?_
        refine J_goto 7 dX9_lastThatHolds_35 rfl ?_
        cases H
        exact J_dr (hb0 _ rfl) ⟨rfl, ⟨rfl, ⟨rfl, trivial⟩⟩⟩
      · replace H := br0 q9 H
        refine J_iload_n 2 dX9_lastThatHolds_30 rfl rfl ?_
        cases H
        cases hx _ rfl
        exact J_iretI dX9_lastThatHolds_31 rfl
noncomputable def MX9_lastThatHolds_7 (h : Hp) (v0 : Nat) (v1 : Int32) (v2 : Int32) : Option Int32 := it (fun q : Int32 => BX9_lastThatHolds_7 h v0 v1 q) (v2)
set_option maxRecDepth 100000 in
set_option maxHeartbeats 8000000 in
theorem kX9_lastThatHolds_7 {d : Nat} {h : Hp} {v0 : Nat} {v1 : Int32} {v2 : Int32} {r : Int32} (H : MX9_lastThatHolds_7 h v0 v1 v2 = some r) : J (d) YX9_lastThatHolds 7 [.ref v0, .int v1, .int v2] [] h (oI r) h := by
  unfold MX9_lastThatHolds_7 at H
  refine it_J (G := (fun q : Int32 => J (d) YX9_lastThatHolds 7 [.ref v0, .int v1, .int q] [] h (oI r) h)) (Q := (fun y : Int32 => y = r)) (fun q x Hq hm => ?_) H rfl
  exact bX9_lastThatHolds_7 Hq (fun s hs => by subst hs; exact hm) (fun z hz => by subst hz; exact hm)
noncomputable def MX9_lastThatHolds (h : Hp) (v0 : Nat) (v1 : Int32) : Option Int32 :=
  gg (β := Int32) (kd h v0 = 8) <|
  MX9_lastThatHolds_7 h v0 v1 ((gI h v0 1) - (1 : Int32))
set_option maxRecDepth 100000 in
set_option maxHeartbeats 8000000 in
theorem eX9_lastThatHolds {d : Nat} {h : Hp} {v0 : Nat} {v1 : Int32} {r : Int32} (H : MX9_lastThatHolds h v0 v1 = some r) : J (d) YX9_lastThatHolds 0 [.ref v0, .int v1, Value.null] [] h (oI r) h := by
  unfold MX9_lastThatHolds at H
  refine J_aload_n 0 dX9_lastThatHolds_0 rfl rfl ?_
  obtain ⟨g1, H⟩ := gd H
  refine J_getI 8 1 dX9_lastThatHolds_1 g1 flX9_15 rfl ?_
  refine J_iconst (1 : Int32) dX9_lastThatHolds_4 kc_1 ?_
  refine J_isub dX9_lastThatHolds_5 ?_
  refine J_istore_n 2 dX9_lastThatHolds_6 rfl (by decide) (ls' := [.ref v0, .int v1, .int ((gI h v0 1) - (1 : Int32))]) rfl ?_
  exact J_dr (kX9_lastThatHolds_7 H ) ⟨rfl, ⟨rfl, ⟨rfl, trivial⟩⟩⟩
theorem okX9_lastThatHolds {d : Nat} {h : Hp} {v0 : Nat} {v1 : Int32} {r : Int32} (H : MX9_lastThatHolds h v0 v1 = some r) : CT (d) YX9_lastThatHolds [.ref v0, .int v1] h (oI r) h := CT_of (by decide +kernel) (Nat.le_of_ble_eq_true rfl) (eX9_lastThatHolds H)
noncomputable def MX0_loadRules_131 (h : Hp) (s0 : Nat) (s1 : Int32) : Option Hp :=
  gg (β := Hp) (kd h s0 = 0) <|
  lt (α := Hp) (β := Option Hp) (sI h s0 5 s1) fun (h60 : Hp) =>
  some h60
set_option maxRecDepth 100000 in
set_option maxHeartbeats 8000000 in
theorem kX0_loadRules_131 {d : Nat} {h : Hp} {s0 : Nat} {s1 : Int32} {h9 : Hp} (H : MX0_loadRules_131 h s0 s1 = some h9) : J (d + 1) YX0_loadRules 131 [Value.null, Value.null, Value.null, Value.null, Value.null] [.int s1, .ref s0] h oV h9 := by
  unfold MX0_loadRules_131 at H
  obtain ⟨g59, H⟩ := gd H
  obtain ⟨h60, e61, H⟩ := lt_el H
  refine J_pI 0 5 dX0_loadRules_131 g59 flX0_27 rfl rfl e61 ?_
  have c62 := ekI e61
  have c63 := elI e61
  have c64 := epI e61
  cases H
  exact J_ret dX0_loadRules_134 rfl
noncomputable def MX0_loadRules_103 (h : Hp) (v0 : Nat) (v1 : Nat) (s0 : Nat) (s1 : Int32) : Option Hp :=
  gg (β := Hp) (kd h s0 = 0) <|
  lt (α := Hp) (β := Option Hp) (sI h s0 4 s1) fun (h48 : Hp) =>
  gg (β := Hp) (kd h v1 = 8) <|
  Option.bind (α := Int32) (β := Hp) (MX9_lastThatHolds h48 v1 (3 : Int32)) fun (t55 : Int32) =>
  if t55 = (-1 : Int32) then
    MX0_loadRules_131 h48 v0 (0 : Int32)
  else
    gg (β := Hp) (kd h (gP h v1 3) = 20) <|
    gg (β := Hp) (inB t55 (ln h (gP h v1 3)) = true) <|
    MX0_loadRules_131 h48 v0 (gI h48 (gP h v1 3) t55.toNatClampNeg)
set_option maxRecDepth 100000 in
set_option maxHeartbeats 8000000 in
theorem kX0_loadRules_103 {d : Nat} {h : Hp} {v0 : Nat} {v1 : Nat} {s0 : Nat} {s1 : Int32} {h9 : Hp} (H : MX0_loadRules_103 h v0 v1 s0 s1 = some h9) : J (d + 1) YX0_loadRules 103 [.ref v0, .ref v1, Value.null, Value.null, Value.null] [.int s1, .ref s0] h oV h9 := by
  unfold MX0_loadRules_103 at H
  obtain ⟨g47, H⟩ := gd H
  obtain ⟨h48, e49, H⟩ := lt_el H
  refine J_pI 0 4 dX0_loadRules_103 g47 flX0_24 rfl rfl e49 ?_
  have c50 := ekI e49
  have c51 := elI e49
  have c52 := epI e49
  refine J_aload_n 1 dX0_loadRules_106 rfl rfl ?_
  refine J_iconst (3 : Int32) dX0_loadRules_107 kc_3 ?_
  obtain ⟨g54, H⟩ := gd H
  obtain ⟨t55, e53, H⟩ := bd H
  refine J_cV (as := [.int (3 : Int32)]) 8 YX9_lastThatHolds 1 dX0_loadRules_108 moX9_lastThatHolds mvX9_lastThatHolds mlX0_78 (kq c50 g54) rfl rfl (okX9_lastThatHolds (d := d) e53) rfl rfl [] rfl rfl (st2 := [.int t55]) rfl ?_
  refine J_istore dX0_loadRules_111 (by decide) (ls' := [.ref v0, .ref v1, Value.null, Value.null, .int t55]) rfl ?_
  refine J_aload_n 0 dX0_loadRules_113 rfl rfl ?_
  refine J_iload dX0_loadRules_114 rfl ?_
  refine J_iconst (-1 : Int32) dX0_loadRules_116 kc_m1 ?_
  refine J_icmp_ne 124 dX0_loadRules_117 rfl (fun q56 => ?_) (fun q56 => ?_)
  · replace H := br0 q56 H
    refine J_aload_n 1 dX0_loadRules_124 rfl rfl ?_
    refine J_gP 8 3 dX0_loadRules_125 (kq c50 g54) flX0_82 rfl (congrFun (congrFun c52 v1) 3) ?_
    refine J_iload dX0_loadRules_128 rfl ?_
    obtain ⟨g57, H⟩ := gd H
    obtain ⟨g58, H⟩ := gd H
    refine J_iald dX0_loadRules_130 (kq c50 g57) (lq c51 g58) ?_
    exact J_dr (kX0_loadRules_131 H ) trivial
  · replace H := br1 q56 H
    refine J_iconst (0 : Int32) dX0_loadRules_120 kc_0 ?_
    refine J_goto 131 dX0_loadRules_121 rfl ?_
    exact J_dr (kX0_loadRules_131 H ) trivial
noncomputable def MX0_loadRules_77 (h : Hp) (v0 : Nat) (v1 : Nat) (s0 : Nat) (s1 : Int32) : Option Hp :=
  gg (β := Hp) (kd h s0 = 0) <|
  lt (α := Hp) (β := Option Hp) (sI h s0 3 s1) fun (h36 : Hp) =>
  gg (β := Hp) (kd h v1 = 8) <|
  Option.bind (α := Int32) (β := Hp) (MX9_lastThatHolds h36 v1 (2 : Int32)) fun (t43 : Int32) =>
  if t43 = (-1 : Int32) then
    MX0_loadRules_103 h36 v0 v1 v0 (25 : Int32)
  else
    gg (β := Hp) (kd h (gP h v1 3) = 20) <|
    gg (β := Hp) (inB t43 (ln h (gP h v1 3)) = true) <|
    MX0_loadRules_103 h36 v0 v1 v0 (gI h36 (gP h v1 3) t43.toNatClampNeg)
set_option maxRecDepth 100000 in
set_option maxHeartbeats 8000000 in
theorem kX0_loadRules_77 {d : Nat} {h : Hp} {v0 : Nat} {v1 : Nat} {s0 : Nat} {s1 : Int32} {h9 : Hp} (H : MX0_loadRules_77 h v0 v1 s0 s1 = some h9) : J (d + 1) YX0_loadRules 77 [.ref v0, .ref v1, Value.null, Value.null, Value.null] [.int s1, .ref s0] h oV h9 := by
  unfold MX0_loadRules_77 at H
  obtain ⟨g35, H⟩ := gd H
  obtain ⟨h36, e37, H⟩ := lt_el H
  refine J_pI 0 3 dX0_loadRules_77 g35 flX0_21 rfl rfl e37 ?_
  have c38 := ekI e37
  have c39 := elI e37
  have c40 := epI e37
  refine J_aload_n 1 dX0_loadRules_80 rfl rfl ?_
  refine J_iconst (2 : Int32) dX0_loadRules_81 kc_2 ?_
  obtain ⟨g42, H⟩ := gd H
  obtain ⟨t43, e41, H⟩ := bd H
  refine J_cV (as := [.int (2 : Int32)]) 8 YX9_lastThatHolds 1 dX0_loadRules_82 moX9_lastThatHolds mvX9_lastThatHolds mlX0_78 (kq c38 g42) rfl rfl (okX9_lastThatHolds (d := d) e41) rfl rfl [] rfl rfl (st2 := [.int t43]) rfl ?_
  refine J_istore_n 3 dX0_loadRules_85 rfl (by decide) (ls' := [.ref v0, .ref v1, Value.null, .int t43, Value.null]) rfl ?_
  refine J_aload_n 0 dX0_loadRules_86 rfl rfl ?_
  refine J_iload_n 3 dX0_loadRules_87 rfl rfl ?_
  refine J_iconst (-1 : Int32) dX0_loadRules_88 kc_m1 ?_
  refine J_icmp_ne 97 dX0_loadRules_89 rfl (fun q44 => ?_) (fun q44 => ?_)
  · replace H := br0 q44 H
    refine J_aload_n 1 dX0_loadRules_97 rfl rfl ?_
    refine J_gP 8 3 dX0_loadRules_98 (kq c38 g42) flX0_82 rfl (congrFun (congrFun c40 v1) 3) ?_
    refine J_iload_n 3 dX0_loadRules_101 rfl rfl ?_
    obtain ⟨g45, H⟩ := gd H
    obtain ⟨g46, H⟩ := gd H
    refine J_iald dX0_loadRules_102 (kq c38 g45) (lq c39 g46) ?_
    exact J_dr (kX0_loadRules_103 H ) ⟨rfl, ⟨rfl, trivial⟩⟩
  · replace H := br1 q44 H
    refine J_bipush (25 : Int32) dX0_loadRules_92 kb_25 ?_
    refine J_goto 103 dX0_loadRules_94 rfl ?_
    exact J_dr (kX0_loadRules_103 H ) ⟨rfl, ⟨rfl, trivial⟩⟩
noncomputable def MX0_loadRules_57 (h : Hp) (v0 : Nat) (v1 : Nat) (v2 : Int32) (s0 : Nat) (s1 : Int32) : Option Hp :=
  gg (β := Hp) (kd h s0 = 0) <|
  lt (α := Hp) (β := Option Hp) (sI h s0 2 s1) fun (h26 : Hp) =>
  if v2 = (-1 : Int32) then
    MX0_loadRules_77 h26 v0 v1 v0 (6 : Int32)
  else
    gg (β := Hp) (kd h v1 = 8) <|
    gg (β := Hp) (kd h (gP h v1 4) = 20) <|
    gg (β := Hp) (inB v2 (ln h (gP h v1 4)) = true) <|
    MX0_loadRules_77 h26 v0 v1 v0 (gI h26 (gP h v1 4) v2.toNatClampNeg)
set_option maxRecDepth 100000 in
set_option maxHeartbeats 8000000 in
theorem kX0_loadRules_57 {d : Nat} {h : Hp} {v0 : Nat} {v1 : Nat} {v2 : Int32} {s0 : Nat} {s1 : Int32} {h9 : Hp} (H : MX0_loadRules_57 h v0 v1 v2 s0 s1 = some h9) : J (d + 1) YX0_loadRules 57 [.ref v0, .ref v1, .int v2, Value.null, Value.null] [.int s1, .ref s0] h oV h9 := by
  unfold MX0_loadRules_57 at H
  obtain ⟨g25, H⟩ := gd H
  obtain ⟨h26, e27, H⟩ := lt_el H
  refine J_pI 0 2 dX0_loadRules_57 g25 flX0_18 rfl rfl e27 ?_
  have c28 := ekI e27
  have c29 := elI e27
  have c30 := epI e27
  refine J_aload_n 0 dX0_loadRules_60 rfl rfl ?_
  refine J_iload_n 2 dX0_loadRules_61 rfl rfl ?_
  refine J_iconst (-1 : Int32) dX0_loadRules_62 kc_m1 ?_
  refine J_icmp_ne 71 dX0_loadRules_63 rfl (fun q31 => ?_) (fun q31 => ?_)
  · replace H := br0 q31 H
    refine J_aload_n 1 dX0_loadRules_71 rfl rfl ?_
    obtain ⟨g32, H⟩ := gd H
    refine J_gP 8 4 dX0_loadRules_72 (kq c28 g32) flX0_85 rfl (congrFun (congrFun c30 v1) 4) ?_
    refine J_iload_n 2 dX0_loadRules_75 rfl rfl ?_
    obtain ⟨g33, H⟩ := gd H
    obtain ⟨g34, H⟩ := gd H
    refine J_iald dX0_loadRules_76 (kq c28 g33) (lq c29 g34) ?_
    exact J_dr (kX0_loadRules_77 H ) ⟨rfl, ⟨rfl, trivial⟩⟩
  · replace H := br1 q31 H
    refine J_bipush (6 : Int32) dX0_loadRules_66 kb_6 ?_
    refine J_goto 77 dX0_loadRules_68 rfl ?_
    exact J_dr (kX0_loadRules_77 H ) ⟨rfl, ⟨rfl, trivial⟩⟩
noncomputable def MX0_loadRules_32 (h : Hp) (v0 : Nat) (v1 : Nat) (s0 : Nat) (s1 : Int32) : Option Hp :=
  gg (β := Hp) (kd h s0 = 0) <|
  lt (α := Hp) (β := Option Hp) (sI h s0 0 s1) fun (h14 : Hp) =>
  gg (β := Hp) (kd h v1 = 8) <|
  Option.bind (α := Int32) (β := Hp) (MX9_lastThatHolds h14 v1 (1 : Int32)) fun (t21 : Int32) =>
  if t21 = (-1 : Int32) then
    MX0_loadRules_57 h14 v0 v1 t21 v0 (2 : Int32)
  else
    gg (β := Hp) (kd h (gP h v1 3) = 20) <|
    gg (β := Hp) (inB t21 (ln h (gP h v1 3)) = true) <|
    MX0_loadRules_57 h14 v0 v1 t21 v0 (gI h14 (gP h v1 3) t21.toNatClampNeg)
set_option maxRecDepth 100000 in
set_option maxHeartbeats 8000000 in
theorem kX0_loadRules_32 {d : Nat} {h : Hp} {v0 : Nat} {v1 : Nat} {s0 : Nat} {s1 : Int32} {h9 : Hp} (H : MX0_loadRules_32 h v0 v1 s0 s1 = some h9) : J (d + 1) YX0_loadRules 32 [.ref v0, .ref v1, Value.null, Value.null, Value.null] [.int s1, .ref s0] h oV h9 := by
  unfold MX0_loadRules_32 at H
  obtain ⟨g13, H⟩ := gd H
  obtain ⟨h14, e15, H⟩ := lt_el H
  refine J_pI 0 0 dX0_loadRules_32 g13 flX0_9 rfl rfl e15 ?_
  have c16 := ekI e15
  have c17 := elI e15
  have c18 := epI e15
  refine J_aload_n 1 dX0_loadRules_35 rfl rfl ?_
  refine J_iconst (1 : Int32) dX0_loadRules_36 kc_1 ?_
  obtain ⟨g20, H⟩ := gd H
  obtain ⟨t21, e19, H⟩ := bd H
  refine J_cV (as := [.int (1 : Int32)]) 8 YX9_lastThatHolds 1 dX0_loadRules_37 moX9_lastThatHolds mvX9_lastThatHolds mlX0_78 (kq c16 g20) rfl rfl (okX9_lastThatHolds (d := d) e19) rfl rfl [] rfl rfl (st2 := [.int t21]) rfl ?_
  refine J_istore_n 2 dX0_loadRules_40 rfl (by decide) (ls' := [.ref v0, .ref v1, .int t21, Value.null, Value.null]) rfl ?_
  refine J_aload_n 0 dX0_loadRules_41 rfl rfl ?_
  refine J_iload_n 2 dX0_loadRules_42 rfl rfl ?_
  refine J_iconst (-1 : Int32) dX0_loadRules_43 kc_m1 ?_
  refine J_icmp_ne 51 dX0_loadRules_44 rfl (fun q22 => ?_) (fun q22 => ?_)
  · replace H := br0 q22 H
    refine J_aload_n 1 dX0_loadRules_51 rfl rfl ?_
    refine J_gP 8 3 dX0_loadRules_52 (kq c16 g20) flX0_82 rfl (congrFun (congrFun c18 v1) 3) ?_
    refine J_iload_n 2 dX0_loadRules_55 rfl rfl ?_
    obtain ⟨g23, H⟩ := gd H
    obtain ⟨g24, H⟩ := gd H
    refine J_iald dX0_loadRules_56 (kq c16 g23) (lq c17 g24) ?_
    exact J_dr (kX0_loadRules_57 H ) ⟨rfl, ⟨rfl, ⟨rfl, trivial⟩⟩⟩
  · replace H := br1 q22 H
    refine J_iconst (2 : Int32) dX0_loadRules_47 kc_2 ?_
    refine J_goto 57 dX0_loadRules_48 rfl ?_
    exact J_dr (kX0_loadRules_57 H ) ⟨rfl, ⟨rfl, ⟨rfl, trivial⟩⟩⟩
noncomputable def MX0_loadRules (h : Hp) (v0 : Nat) (v1 : Nat) : Option Hp :=
  gg (β := Hp) (kd h v1 = 8) <|
  Option.bind (α := Int32) (β := Hp) (MX9_lastThatHolds h v1 (0 : Int32)) fun (t3 : Int32) =>
  gg (β := Hp) (kd h v0 = 0) <|
  lt (α := Hp) (β := Option Hp) (sI h v0 1 t3) fun (h5 : Hp) =>
  if (gI h5 v0 1) = (-1 : Int32) then
    MX0_loadRules_32 h5 v0 v1 v0 (60 : Int32)
  else
    gg (β := Hp) (kd h (gP h v1 3) = 20) <|
    gg (β := Hp) (inB (gI h5 v0 1) (ln h (gP h v1 3)) = true) <|
    MX0_loadRules_32 h5 v0 v1 v0 (gI h5 (gP h v1 3) (gI h5 v0 1).toNatClampNeg)
set_option maxRecDepth 100000 in
set_option maxHeartbeats 8000000 in
theorem eX0_loadRules {d : Nat} {h : Hp} {v0 : Nat} {v1 : Nat} {h9 : Hp} (H : MX0_loadRules h v0 v1 = some h9) : J (d + 1) YX0_loadRules 0 [.ref v0, .ref v1, Value.null, Value.null, Value.null] [] h oV h9 := by
  unfold MX0_loadRules at H
  refine J_aload_n 0 dX0_loadRules_0 rfl rfl ?_
  refine J_aload_n 1 dX0_loadRules_1 rfl rfl ?_
  refine J_iconst (0 : Int32) dX0_loadRules_2 kc_0 ?_
  obtain ⟨g2, H⟩ := gd H
  obtain ⟨t3, e1, H⟩ := bd H
  refine J_cV (as := [.int (0 : Int32)]) 8 YX9_lastThatHolds 1 dX0_loadRules_3 moX9_lastThatHolds mvX9_lastThatHolds mlX0_78 g2 rfl rfl (okX9_lastThatHolds (d := d) e1) rfl rfl [.ref v0] rfl rfl (st2 := [.int t3, .ref v0]) rfl ?_
  obtain ⟨g4, H⟩ := gd H
  obtain ⟨h5, e6, H⟩ := lt_el H
  refine J_pI 0 1 dX0_loadRules_6 g4 flX0_15 rfl rfl e6 ?_
  have c7 := ekI e6
  have c8 := elI e6
  have c9 := epI e6
  refine J_aload_n 0 dX0_loadRules_9 rfl rfl ?_
  refine J_aload_n 0 dX0_loadRules_10 rfl rfl ?_
  refine J_getI 0 1 dX0_loadRules_11 (kq c7 g4) flX0_15 rfl ?_
  refine J_iconst (-1 : Int32) dX0_loadRules_14 kc_m1 ?_
  refine J_icmp_ne 23 dX0_loadRules_15 rfl (fun q10 => ?_) (fun q10 => ?_)
  · replace H := br0 q10 H
    refine J_aload_n 1 dX0_loadRules_23 rfl rfl ?_
    refine J_gP 8 3 dX0_loadRules_24 (kq c7 g2) flX0_82 rfl (congrFun (congrFun c9 v1) 3) ?_
    refine J_aload_n 0 dX0_loadRules_27 rfl rfl ?_
    refine J_getI 0 1 dX0_loadRules_28 (kq c7 g4) flX0_15 rfl ?_
    obtain ⟨g11, H⟩ := gd H
    obtain ⟨g12, H⟩ := gd H
    refine J_iald dX0_loadRules_31 (kq c7 g11) (lq c8 g12) ?_
    exact J_dr (kX0_loadRules_32 H ) ⟨rfl, ⟨rfl, trivial⟩⟩
  · replace H := br1 q10 H
    refine J_bipush (60 : Int32) dX0_loadRules_18 kb_60 ?_
    refine J_goto 32 dX0_loadRules_20 rfl ?_
    exact J_dr (kX0_loadRules_32 H ) ⟨rfl, ⟨rfl, trivial⟩⟩
theorem okX0_loadRules {d : Nat} {h : Hp} {v0 : Nat} {v1 : Nat} {h9 : Hp} (H : MX0_loadRules h v0 v1 = some h9) : CT (d + 1) YX0_loadRules [.ref v0, .ref v1] h oV h9 := CT_of (by decide +kernel) (Nat.le_of_ble_eq_true rfl) (eX0_loadRules H)
noncomputable def MX7_factsOfPart_37 (h : Hp) (v0 : Nat) (v1 : Nat) (v2 : Int32) (s0 : Nat) (s1 : Int32) (s2 : Int32) : Option Hp :=
  gg (β := Hp) (kd h s0 = 20) <|
  gg (β := Hp) (inB s1 (ln h s0) = true) <|
  lt (α := Hp) (β := Option Hp) (sI h s0 s1.toNatClampNeg s2) fun (h16 : Hp) =>
  gg (β := Hp) (kd h v0 = 6) <|
  gg (β := Hp) (kd h (gP h v0 15) = 20) <|
  gg (β := Hp) (inB (2 : Int32) (ln h (gP h v0 15)) = true) <|
  lt (α := Hp) (β := Option Hp) (sI h16 (gP h v0 15) (2 : Int32).toNatClampNeg (0 : Int32)) fun (h24 : Hp) =>
  gg (β := Hp) (kd h v1 = 4) <|
  gg (β := Hp) (inB (3 : Int32) (ln h (gP h v0 15)) = true) <|
  lt (α := Hp) (β := Option Hp) (sI h24 (gP h v0 15) (3 : Int32).toNatClampNeg (gI h24 v1 6)) fun (h31 : Hp) =>
  gg (β := Hp) (inB (4 : Int32) (ln h (gP h v0 15)) = true) <|
  lt (α := Hp) (β := Option Hp) (sI h31 (gP h v0 15) (4 : Int32).toNatClampNeg (gI h31 v1 5)) fun (h37 : Hp) =>
  gg (β := Hp) (inB (5 : Int32) (ln h (gP h v0 15)) = true) <|
  lt (α := Hp) (β := Option Hp) (sI h37 (gP h v0 15) (5 : Int32).toNatClampNeg (gI h37 v1 8)) fun (h43 : Hp) =>
  gg (β := Hp) (inB (6 : Int32) (ln h (gP h v0 15)) = true) <|
  lt (α := Hp) (β := Option Hp) (sI h43 (gP h v0 15) (6 : Int32).toNatClampNeg v2) fun (h49 : Hp) =>
  gg (β := Hp) (inB (7 : Int32) (ln h (gP h v0 15)) = true) <|
  lt (α := Hp) (β := Option Hp) (sI h49 (gP h v0 15) (7 : Int32).toNatClampNeg (0 : Int32)) fun (h55 : Hp) =>
  gg (β := Hp) (inB (8 : Int32) (ln h (gP h v0 15)) = true) <|
  lt (α := Hp) (β := Option Hp) (sI h55 (gP h v0 15) (8 : Int32).toNatClampNeg (99 : Int32)) fun (h61 : Hp) =>
  some h61
set_option maxRecDepth 100000 in
set_option maxHeartbeats 8000000 in
theorem kX7_factsOfPart_37 {d : Nat} {h : Hp} {v0 : Nat} {v1 : Nat} {v2 : Int32} {s0 : Nat} {s1 : Int32} {s2 : Int32} {h9 : Hp} (H : MX7_factsOfPart_37 h v0 v1 v2 s0 s1 s2 = some h9) : J (d) YX7_factsOfPart 37 [.ref v0, .ref v1, .int v2] [.int s2, .int s1, .ref s0] h oV h9 := by
  unfold MX7_factsOfPart_37 at H
  obtain ⟨g14, H⟩ := gd H
  obtain ⟨g15, H⟩ := gd H
  obtain ⟨h16, e17, H⟩ := lt_el H
  refine J_sI dX7_factsOfPart_37 g14 (inB_ok g15) e17 ?_
  have c18 := ekI e17
  have c19 := elI e17
  have c20 := epI e17
  refine J_aload_n 0 dX7_factsOfPart_38 rfl rfl ?_
  obtain ⟨g21, H⟩ := gd H
  refine J_gP 6 15 dX7_factsOfPart_39 (kq c18 g21) flX7_76 rfl (congrFun (congrFun c20 v0) 15) ?_
  refine J_iconst (2 : Int32) dX7_factsOfPart_42 kc_2 ?_
  refine J_iconst (0 : Int32) dX7_factsOfPart_43 kc_0 ?_
  obtain ⟨g22, H⟩ := gd H
  obtain ⟨g23, H⟩ := gd H
  obtain ⟨h24, e25, H⟩ := lt_el H
  refine J_sI dX7_factsOfPart_44 (kq c18 g22) (lq c19 g23) e25 ?_
  have c26 := (ekI e25).trans c18
  have c27 := (elI e25).trans c19
  have c28 := (epI e25).trans c20
  refine J_aload_n 0 dX7_factsOfPart_45 rfl rfl ?_
  refine J_gP 6 15 dX7_factsOfPart_46 (kq c26 g21) flX7_76 rfl (congrFun (congrFun c28 v0) 15) ?_
  refine J_iconst (3 : Int32) dX7_factsOfPart_49 kc_3 ?_
  refine J_aload_n 1 dX7_factsOfPart_50 rfl rfl ?_
  obtain ⟨g29, H⟩ := gd H
  refine J_getI 4 6 dX7_factsOfPart_51 (kq c26 g29) flX7_157 rfl ?_
  obtain ⟨g30, H⟩ := gd H
  obtain ⟨h31, e32, H⟩ := lt_el H
  refine J_sI dX7_factsOfPart_54 (kq c26 g22) (lq c27 g30) e32 ?_
  have c33 := (ekI e32).trans c26
  have c34 := (elI e32).trans c27
  have c35 := (epI e32).trans c28
  refine J_aload_n 0 dX7_factsOfPart_55 rfl rfl ?_
  refine J_gP 6 15 dX7_factsOfPart_56 (kq c33 g21) flX7_76 rfl (congrFun (congrFun c35 v0) 15) ?_
  refine J_iconst (4 : Int32) dX7_factsOfPart_59 kc_4 ?_
  refine J_aload_n 1 dX7_factsOfPart_60 rfl rfl ?_
  refine J_getI 4 5 dX7_factsOfPart_61 (kq c33 g29) flX7_160 rfl ?_
  obtain ⟨g36, H⟩ := gd H
  obtain ⟨h37, e38, H⟩ := lt_el H
  refine J_sI dX7_factsOfPart_64 (kq c33 g22) (lq c34 g36) e38 ?_
  have c39 := (ekI e38).trans c33
  have c40 := (elI e38).trans c34
  have c41 := (epI e38).trans c35
  refine J_aload_n 0 dX7_factsOfPart_65 rfl rfl ?_
  refine J_gP 6 15 dX7_factsOfPart_66 (kq c39 g21) flX7_76 rfl (congrFun (congrFun c41 v0) 15) ?_
  refine J_iconst (5 : Int32) dX7_factsOfPart_69 kc_5 ?_
  refine J_aload_n 1 dX7_factsOfPart_70 rfl rfl ?_
  refine J_getI 4 8 dX7_factsOfPart_71 (kq c39 g29) flX7_154 rfl ?_
  obtain ⟨g42, H⟩ := gd H
  obtain ⟨h43, e44, H⟩ := lt_el H
  refine J_sI dX7_factsOfPart_74 (kq c39 g22) (lq c40 g42) e44 ?_
  have c45 := (ekI e44).trans c39
  have c46 := (elI e44).trans c40
  have c47 := (epI e44).trans c41
  refine J_aload_n 0 dX7_factsOfPart_75 rfl rfl ?_
  refine J_gP 6 15 dX7_factsOfPart_76 (kq c45 g21) flX7_76 rfl (congrFun (congrFun c47 v0) 15) ?_
  refine J_bipush (6 : Int32) dX7_factsOfPart_79 kb_6 ?_
  refine J_iload_n 2 dX7_factsOfPart_81 rfl rfl ?_
  obtain ⟨g48, H⟩ := gd H
  obtain ⟨h49, e50, H⟩ := lt_el H
  refine J_sI dX7_factsOfPart_82 (kq c45 g22) (lq c46 g48) e50 ?_
  have c51 := (ekI e50).trans c45
  have c52 := (elI e50).trans c46
  have c53 := (epI e50).trans c47
  refine J_aload_n 0 dX7_factsOfPart_83 rfl rfl ?_
  refine J_gP 6 15 dX7_factsOfPart_84 (kq c51 g21) flX7_76 rfl (congrFun (congrFun c53 v0) 15) ?_
  refine J_bipush (7 : Int32) dX7_factsOfPart_87 kb_7 ?_
  refine J_iconst (0 : Int32) dX7_factsOfPart_89 kc_0 ?_
  obtain ⟨g54, H⟩ := gd H
  obtain ⟨h55, e56, H⟩ := lt_el H
  refine J_sI dX7_factsOfPart_90 (kq c51 g22) (lq c52 g54) e56 ?_
  have c57 := (ekI e56).trans c51
  have c58 := (elI e56).trans c52
  have c59 := (epI e56).trans c53
  refine J_aload_n 0 dX7_factsOfPart_91 rfl rfl ?_
  refine J_gP 6 15 dX7_factsOfPart_92 (kq c57 g21) flX7_76 rfl (congrFun (congrFun c59 v0) 15) ?_
  refine J_bipush (8 : Int32) dX7_factsOfPart_95 kb_8 ?_
  refine J_bipush (99 : Int32) dX7_factsOfPart_97 kb_99 ?_
  obtain ⟨g60, H⟩ := gd H
  obtain ⟨h61, e62, H⟩ := lt_el H
  refine J_sI dX7_factsOfPart_99 (kq c57 g22) (lq c58 g60) e62 ?_
  have c63 := (ekI e62).trans c57
  have c64 := (elI e62).trans c58
  have c65 := (epI e62).trans c59
  cases H
  exact J_ret dX7_factsOfPart_100 rfl
noncomputable def MX7_factsOfPart_18 (h : Hp) (v0 : Nat) (v1 : Nat) (v2 : Int32) (s0 : Nat) (s1 : Int32) (s2 : Int32) : Option Hp :=
  gg (β := Hp) (kd h s0 = 20) <|
  gg (β := Hp) (inB s1 (ln h s0) = true) <|
  lt (α := Hp) (β := Option Hp) (sI h s0 s1.toNatClampNeg s2) fun (h6 : Hp) =>
  gg (β := Hp) (kd h v0 = 6) <|
  gg (β := Hp) (kd h v1 = 4) <|
  if v2 ≤ (gI h6 v1 8) then
    MX7_factsOfPart_37 h6 v0 v1 v2 (gP h v0 15) (1 : Int32) (0 : Int32)
  else
    MX7_factsOfPart_37 h6 v0 v1 v2 (gP h v0 15) (1 : Int32) (1 : Int32)
set_option maxRecDepth 100000 in
set_option maxHeartbeats 8000000 in
theorem kX7_factsOfPart_18 {d : Nat} {h : Hp} {v0 : Nat} {v1 : Nat} {v2 : Int32} {s0 : Nat} {s1 : Int32} {s2 : Int32} {h9 : Hp} (H : MX7_factsOfPart_18 h v0 v1 v2 s0 s1 s2 = some h9) : J (d) YX7_factsOfPart 18 [.ref v0, .ref v1, .int v2] [.int s2, .int s1, .ref s0] h oV h9 := by
  unfold MX7_factsOfPart_18 at H
  obtain ⟨g4, H⟩ := gd H
  obtain ⟨g5, H⟩ := gd H
  obtain ⟨h6, e7, H⟩ := lt_el H
  refine J_sI dX7_factsOfPart_18 g4 (inB_ok g5) e7 ?_
  have c8 := ekI e7
  have c9 := elI e7
  have c10 := epI e7
  refine J_aload_n 0 dX7_factsOfPart_19 rfl rfl ?_
  obtain ⟨g11, H⟩ := gd H
  refine J_gP 6 15 dX7_factsOfPart_20 (kq c8 g11) flX7_76 rfl (congrFun (congrFun c10 v0) 15) ?_
  refine J_iconst (1 : Int32) dX7_factsOfPart_23 kc_1 ?_
  refine J_iload_n 2 dX7_factsOfPart_24 rfl rfl ?_
  refine J_aload_n 1 dX7_factsOfPart_25 rfl rfl ?_
  obtain ⟨g12, H⟩ := gd H
  refine J_getI 4 8 dX7_factsOfPart_26 (kq c8 g12) flX7_154 rfl ?_
  refine J_icmp_le 36 dX7_factsOfPart_29 rfl (fun q13 => ?_) (fun q13 => ?_)
  · replace H := br1 q13 H
    refine J_iconst (0 : Int32) dX7_factsOfPart_36 kc_0 ?_
    exact J_dr (kX7_factsOfPart_37 H ) ⟨rfl, ⟨rfl, ⟨rfl, trivial⟩⟩⟩
  · replace H := br0 q13 H
    refine J_iconst (1 : Int32) dX7_factsOfPart_32 kc_1 ?_
    refine J_goto 37 dX7_factsOfPart_33 rfl ?_
    exact J_dr (kX7_factsOfPart_37 H ) ⟨rfl, ⟨rfl, ⟨rfl, trivial⟩⟩⟩
noncomputable def MX7_factsOfPart (h : Hp) (v0 : Nat) (v1 : Nat) (v2 : Int32) : Option Hp :=
  gg (β := Hp) (kd h v0 = 6) <|
  gg (β := Hp) (kd h v1 = 4) <|
  if (gI h v1 7) = (1 : Int32) then
    MX7_factsOfPart_18 h v0 v1 v2 (gP h v0 15) (0 : Int32) (1 : Int32)
  else
    MX7_factsOfPart_18 h v0 v1 v2 (gP h v0 15) (0 : Int32) (0 : Int32)
set_option maxRecDepth 100000 in
set_option maxHeartbeats 8000000 in
theorem eX7_factsOfPart {d : Nat} {h : Hp} {v0 : Nat} {v1 : Nat} {v2 : Int32} {h9 : Hp} (H : MX7_factsOfPart h v0 v1 v2 = some h9) : J (d) YX7_factsOfPart 0 [.ref v0, .ref v1, .int v2] [] h oV h9 := by
  unfold MX7_factsOfPart at H
  refine J_aload_n 0 dX7_factsOfPart_0 rfl rfl ?_
  obtain ⟨g1, H⟩ := gd H
  refine J_gP 6 15 dX7_factsOfPart_1 g1 flX7_76 rfl rfl ?_
  refine J_iconst (0 : Int32) dX7_factsOfPart_4 kc_0 ?_
  refine J_aload_n 1 dX7_factsOfPart_5 rfl rfl ?_
  obtain ⟨g2, H⟩ := gd H
  refine J_getI 4 7 dX7_factsOfPart_6 g2 flX7_151 rfl ?_
  refine J_iconst (1 : Int32) dX7_factsOfPart_9 kc_1 ?_
  refine J_icmp_ne 17 dX7_factsOfPart_10 rfl (fun q3 => ?_) (fun q3 => ?_)
  · replace H := br0 q3 H
    refine J_iconst (0 : Int32) dX7_factsOfPart_17 kc_0 ?_
    exact J_dr (kX7_factsOfPart_18 H ) ⟨rfl, ⟨rfl, ⟨rfl, trivial⟩⟩⟩
  · replace H := br1 q3 H
    refine J_iconst (1 : Int32) dX7_factsOfPart_13 kc_1 ?_
    refine J_goto 18 dX7_factsOfPart_14 rfl ?_
    exact J_dr (kX7_factsOfPart_18 H ) ⟨rfl, ⟨rfl, ⟨rfl, trivial⟩⟩⟩
theorem okX7_factsOfPart {d : Nat} {h : Hp} {v0 : Nat} {v1 : Nat} {v2 : Int32} {h9 : Hp} (H : MX7_factsOfPart h v0 v1 v2 = some h9) : CT (d) YX7_factsOfPart [.ref v0, .ref v1, .int v2] h oV h9 := CT_of (by decide +kernel) (Nat.le_of_ble_eq_true rfl) (eX7_factsOfPart H)
noncomputable def MX7_ownStyle_13 (h : Hp) (v0 : Nat) : Option (Nat × Hp) :=
  gg (β := (Nat × Hp)) (kd h v0 = 6) <|
  some ((gP h v0 4), h)
set_option maxRecDepth 100000 in
set_option maxHeartbeats 8000000 in
theorem kX7_ownStyle_13 {d : Nat} {h : Hp} {v0 : Nat} {r : Nat} {h9 : Hp} (H : MX7_ownStyle_13 h v0 = some (r, h9)) : J (d + 1) YX7_ownStyle 13 [.ref v0, Value.null] [] h (oA r) h9 := by
  unfold MX7_ownStyle_13 at H
  refine J_aload_n 0 dX7_ownStyle_13 rfl rfl ?_
  obtain ⟨g2, H⟩ := gd H
  refine J_gP 6 4 dX7_ownStyle_14 g2 flX7_29 rfl rfl ?_
  cases H
  exact J_aret dX7_ownStyle_17 rfl (Or.inl ⟨_, rfl⟩)
noncomputable def MX7_ownStyle_40 (h : Hp) (v0 : Nat) (v1 : Int32) : Option (Nat × Hp) :=
  gg (β := (Nat × Hp)) (kd h v0 = 6) <|
  gg (β := (Nat × Hp)) (kd h (gP h v0 2) = 25) <|
  gg (β := (Nat × Hp)) (inB v1 (ln h (gP h v0 2)) = true) <|
  some ((gP h (gP h v0 2) v1.toNatClampNeg), h)
set_option maxRecDepth 100000 in
set_option maxHeartbeats 8000000 in
theorem kX7_ownStyle_40 {d : Nat} {h : Hp} {v0 : Nat} {v1 : Int32} {r : Nat} {h9 : Hp} (H : MX7_ownStyle_40 h v0 v1 = some (r, h9)) : J (d + 1) YX7_ownStyle 40 [.ref v0, .int v1] [] h (oA r) h9 := by
  unfold MX7_ownStyle_40 at H
  refine J_aload_n 0 dX7_ownStyle_40 rfl rfl ?_
  obtain ⟨g8, H⟩ := gd H
  refine J_gP 6 2 dX7_ownStyle_41 g8 flX7_21 rfl rfl ?_
  refine J_iload_n 1 dX7_ownStyle_44 rfl rfl ?_
  obtain ⟨g9, H⟩ := gd H
  obtain ⟨g10, H⟩ := gd H
  refine J_lP 25 dX7_ownStyle_45 g9 rfl (inB_ok g10) rfl ?_
  cases H
  exact J_aret dX7_ownStyle_46 rfl (Or.inl ⟨_, rfl⟩)
noncomputable def MX7_ownStyle (h : Hp) (v0 : Nat) (v1 : Int32) : Option (Nat × Hp) :=
  if v1 < 0 then
    MX7_ownStyle_13 h v0
  else
    gg (β := (Nat × Hp)) (kd h v0 = 6) <|
    gg (β := (Nat × Hp)) (kd h (gP h v0 2) = 25) <|
    if v1 < (nI (ln h (gP h v0 2))) then
      gg (β := (Nat × Hp)) (inB v1 (ln h (gP h v0 2)) = true) <|
      if (gP h (gP h v0 2) v1.toNatClampNeg) = 0 then
        lt (α := Hp) (β := Option (Nat × Hp)) (alc h 8 9) fun (h11 : Hp) =>
        Option.bind (α := Hp) (β := (Nat × Hp)) (MX9_init h11 (sz h + 1)) fun (h14 : Hp) =>
        gg (β := (Nat × Hp)) (kd h14 (gP h v0 2) = 25) <|
        gg (β := (Nat × Hp)) (kd h14 (sz h + 1) = 8) <|
        gg (β := (Nat × Hp)) (inB v1 (ln h14 (gP h v0 2)) = true) <|
        lt (α := Hp) (β := Option (Nat × Hp)) (sP h14 (gP h v0 2) v1.toNatClampNeg (sz h + 1)) fun (h18 : Hp) =>
        MX7_ownStyle_40 h18 v0 v1
      else
        MX7_ownStyle_40 h v0 v1
    else
      MX7_ownStyle_13 h v0
set_option maxRecDepth 100000 in
set_option maxHeartbeats 8000000 in
theorem eX7_ownStyle {d : Nat} {h : Hp} {v0 : Nat} {v1 : Int32} {r : Nat} {h9 : Hp} (H : MX7_ownStyle h v0 v1 = some (r, h9)) : J (d + 1) YX7_ownStyle 0 [.ref v0, .int v1] [] h (oA r) h9 := by
  unfold MX7_ownStyle at H
  refine J_iload_n 1 dX7_ownStyle_0 rfl rfl ?_
  refine J_if_lt 13 dX7_ownStyle_1 rfl (fun q1 => ?_) (fun q1 => ?_)
  · replace H := br1 q1 H
    exact J_dr (kX7_ownStyle_13 H ) ⟨rfl, trivial⟩
  · replace H := br0 q1 H
    refine J_iload_n 1 dX7_ownStyle_4 rfl rfl ?_
    refine J_aload_n 0 dX7_ownStyle_5 rfl rfl ?_
    obtain ⟨g3, H⟩ := gd H
    refine J_gP 6 2 dX7_ownStyle_6 g3 flX7_21 rfl rfl ?_
    obtain ⟨g4, H⟩ := gd H
    refine J_len 25 dX7_ownStyle_9 g4 rfl ?_
    refine J_icmp_lt 18 dX7_ownStyle_10 rfl (fun q5 => ?_) (fun q5 => ?_)
    · replace H := br1 q5 H
      refine J_aload_n 0 dX7_ownStyle_18 rfl rfl ?_
      refine J_gP 6 2 dX7_ownStyle_19 g3 flX7_21 rfl rfl ?_
      refine J_iload_n 1 dX7_ownStyle_22 rfl rfl ?_
      obtain ⟨g6, H⟩ := gd H
      refine J_lP 25 dX7_ownStyle_23 g4 rfl (inB_ok g6) rfl ?_
      refine J_ifnonnull 40 dX7_ownStyle_24 rfl (fun q7 => ?_) (fun q7 => ?_)
      · replace H := br0 q7 H
        exact J_dr (kX7_ownStyle_40 H ) ⟨rfl, ⟨rfl, trivial⟩⟩
      · replace H := br1 q7 H
        refine J_aload_n 0 dX7_ownStyle_27 rfl rfl ?_
        refine J_gP 6 2 dX7_ownStyle_28 g3 flX7_21 rfl rfl ?_
        refine J_iload_n 1 dX7_ownStyle_31 rfl rfl ?_
        obtain ⟨h11, e12, H⟩ := lt_el H
        refine J_nO 8 9 dX7_ownStyle_32 rfl rfl clX7_19 in8 ini8 e12 ?_
        refine J_dup dX7_ownStyle_35 rfl ?_
        obtain ⟨h14, e13, H⟩ := bd H
        refine J_cIN (as := []) YX9_init "LeadRoom" 0 dX7_ownStyle_36 moX9_init miX9_init mlX7_28 rfl rfl (kn99 (ekN e12) rfl) (okX9_init (d := d) e13) rfl rfl [.ref (sz h + 1), .int v1, .ref (gP h v0 2)] rfl rfl ?_
        obtain ⟨g15, H⟩ := gd H
        obtain ⟨g16, H⟩ := gd H
        obtain ⟨g17, H⟩ := gd H
        obtain ⟨h18, e19, H⟩ := lt_el H
        refine J_sA 25 dX7_ownStyle_39 g15 rfl g16 (inB_ok g17) e19 ?_
        have c20 := ekP e19
        have c21 := elP e19
        exact J_dr (kX7_ownStyle_40 H ) ⟨rfl, ⟨rfl, trivial⟩⟩
    · replace H := br0 q5 H
      exact J_dr (kX7_ownStyle_13 H ) ⟨rfl, trivial⟩
theorem okX7_ownStyle {d : Nat} {h : Hp} {v0 : Nat} {v1 : Int32} {r : Nat} {h9 : Hp} (H : MX7_ownStyle h v0 v1 = some (r, h9)) : CT (d + 1) YX7_ownStyle [.ref v0, .int v1] h (oA r) h9 := CT_of (by decide +kernel) (Nat.le_of_ble_eq_true rfl) (eX7_ownStyle H)
