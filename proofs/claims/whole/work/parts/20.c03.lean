noncomputable def MX7_styleAt_51 (h : Hp) (v0 : Nat) (v1 : Int32) (v3 : Int32) (v4 : Nat) : Option ((Nat × Int32 × Hp) ⊕ (Nat × Hp)) :=
  some (.inl (v4, (v3 + (1 : Int32)), h))
set_option maxRecDepth 100000 in
set_option maxHeartbeats 8000000 in
theorem kX7_styleAt_51 {d : Nat} {h : Hp} {v0 : Nat} {v1 : Int32} {v3 : Int32} {v4 : Nat} {r : Nat} {h9 : Hp} {x : ((Nat × Int32 × Hp) ⊕ (Nat × Hp))} (H : MX7_styleAt_51 h v0 v1 v3 v4 = some x) (hb0 : ∀ s : Nat × Int32 × Hp, x = .inl s → J (d + 2) YX7_styleAt 7 [.ref v0, .int v1, .ref s.1, .int s.2.1, Value.null] [] s.2.2 (oA r) h9) (hx : ∀ z : (Nat × Hp), x = .inr (z) → z = (r, h9)) : J (d + 2) YX7_styleAt 51 [.ref v0, .int v1, Value.null, .int v3, .ref v4] [] h (oA r) h9 := by
  unfold MX7_styleAt_51 at H
  refine J_aload dX7_styleAt_51 rfl ?_
  refine J_astore_n 2 dX7_styleAt_53 rfl (by decide) (ls' := [.ref v0, .int v1, .ref v4, .int v3, .ref v4]) rfl ?_
  refine J_iinc (v3 + (1 : Int32)) dX7_styleAt_54 rfl (congrArg (HAdd.hAdd v3) kc_1) (by decide) (ls' := [.ref v0, .int v1, .ref v4, .int (v3 + (1 : Int32)), .ref v4]) rfl ?_
  refine J_goto 7 dX7_styleAt_57 rfl ?_
  cases H
  exact J_dr (hb0 _ rfl) ⟨rfl, ⟨rfl, ⟨rfl, ⟨rfl, trivial⟩⟩⟩⟩
noncomputable def BX7_styleAt_7 (h : Hp) (v0 : Nat) (v1 : Int32) (v2 : Nat) (v3 : Int32) : Option ((Nat × Int32 × Hp) ⊕ (Nat × Hp)) :=
  gg (β := ((Nat × Int32 × Hp) ⊕ (Nat × Hp))) (kd h v0 = 6) <|
  if (gI h v0 3) ≤ v3 then
    some (.inr ((v2, h)))
  else
    b2 (α := Nat) (β := Hp) (γ := ((Nat × Int32 × Hp) ⊕ (Nat × Hp))) (MX7_ownStyle h v0 v3) fun (t6 : Nat) (h5 : Hp) =>
    gg (β := ((Nat × Int32 × Hp) ⊕ (Nat × Hp))) (kd h5 t6 = 8) <|
    if v1 < (gI h5 t6 0) then
      some (.inl (v2, (v3 + (1 : Int32)), h5))
    else
      gg (β := ((Nat × Int32 × Hp) ⊕ (Nat × Hp))) (kd h5 v0 = 6) <|
      if v2 = (gP h5 v0 4) then
        MX7_styleAt_51 h5 v0 v1 v3 t6
      else
        gg (β := ((Nat × Int32 × Hp) ⊕ (Nat × Hp))) (kd h5 v2 = 8) <|
        if (gI h5 t6 0) < (gI h5 v2 0) then
          some (.inl (v2, (v3 + (1 : Int32)), h5))
        else
          MX7_styleAt_51 h5 v0 v1 v3 t6
set_option maxRecDepth 100000 in
set_option maxHeartbeats 8000000 in
theorem bX7_styleAt_7 {d : Nat} {h : Hp} {v0 : Nat} {v1 : Int32} {v2 : Nat} {v3 : Int32} {r : Nat} {h9 : Hp} {x : ((Nat × Int32 × Hp) ⊕ (Nat × Hp))} (H : BX7_styleAt_7 h v0 v1 v2 v3 = some x) (hb0 : ∀ s : Nat × Int32 × Hp, x = .inl s → J (d + 2) YX7_styleAt 7 [.ref v0, .int v1, .ref s.1, .int s.2.1, Value.null] [] s.2.2 (oA r) h9) (hx : ∀ z : (Nat × Hp), x = .inr (z) → z = (r, h9)) : J (d + 2) YX7_styleAt 7 [.ref v0, .int v1, .ref v2, .int v3, Value.null] [] h (oA r) h9 := by
  unfold BX7_styleAt_7 at H
  refine J_iload_n 3 dX7_styleAt_7 rfl rfl ?_
  refine J_aload_n 0 dX7_styleAt_8 rfl rfl ?_
  obtain ⟨g2, H⟩ := gd H
  refine J_getI 6 3 dX7_styleAt_9 g2 flX7_25 rfl ?_
  refine J_icmp_ge 60 dX7_styleAt_12 rfl (fun q3 => ?_) (fun q3 => ?_)
  · replace H := br1 q3 H
    refine J_aload_n 2 dX7_styleAt_60 rfl rfl ?_
    cases H
    cases hx _ rfl
    exact J_aret dX7_styleAt_61 rfl (Or.inl ⟨_, rfl⟩)
  · replace H := br0 q3 H
    refine J_aload_n 0 dX7_styleAt_15 rfl rfl ?_
    refine J_iload_n 3 dX7_styleAt_16 rfl rfl ?_
    obtain ⟨t6, h5, e4, H⟩ := b2_el H
    refine J_cV (as := [.int v3]) 6 YX7_ownStyle 1 dX7_styleAt_17 moX7_ownStyle mvX7_ownStyle mlX7_98 g2 rfl rfl (okX7_ownStyle (d := d) e4) rfl rfl [] rfl rfl (st2 := [.ref t6]) rfl ?_
    refine J_astore dX7_styleAt_20 (by decide) (ls' := [.ref v0, .int v1, .ref v2, .int v3, .ref t6]) rfl ?_
    refine J_aload dX7_styleAt_22 rfl ?_
    obtain ⟨g7, H⟩ := gd H
    refine J_getI 8 0 dX7_styleAt_24 g7 flX7_141 rfl ?_
    refine J_iload_n 1 dX7_styleAt_27 rfl rfl ?_
    refine J_icmp_gt 54 dX7_styleAt_28 rfl (fun q8 => ?_) (fun q8 => ?_)
    · replace H := br1 q8 H
      refine J_iinc (v3 + (1 : Int32)) dX7_styleAt_54 rfl (congrArg (HAdd.hAdd v3) kc_1) (by decide) (ls' := [.ref v0, .int v1, .ref v2, .int (v3 + (1 : Int32)), .ref t6]) rfl ?_
      refine J_goto 7 dX7_styleAt_57 rfl ?_
      cases H
      exact J_dr (hb0 _ rfl) ⟨rfl, ⟨rfl, ⟨rfl, ⟨rfl, trivial⟩⟩⟩⟩
    · replace H := br0 q8 H
      refine J_aload_n 2 dX7_styleAt_31 rfl rfl ?_
      refine J_aload_n 0 dX7_styleAt_32 rfl rfl ?_
      obtain ⟨g9, H⟩ := gd H
      refine J_gP 6 4 dX7_styleAt_33 g9 flX7_29 rfl rfl ?_
      refine J_acmp_eq 51 dX7_styleAt_36 rfl (fun q10 => ?_) (fun q10 => ?_)
      · replace H := br1 q10 H
        exact J_dr (kX7_styleAt_51 H hb0 hx) ⟨rfl, ⟨rfl, ⟨rfl, ⟨rfl, trivial⟩⟩⟩⟩
      · replace H := br0 q10 H
        refine J_aload dX7_styleAt_39 rfl ?_
        refine J_getI 8 0 dX7_styleAt_41 g7 flX7_141 rfl ?_
        refine J_aload_n 2 dX7_styleAt_44 rfl rfl ?_
        obtain ⟨g11, H⟩ := gd H
        refine J_getI 8 0 dX7_styleAt_45 g11 flX7_141 rfl ?_
        refine J_icmp_lt 54 dX7_styleAt_48 rfl (fun q12 => ?_) (fun q12 => ?_)
        · replace H := br1 q12 H
          refine J_iinc (v3 + (1 : Int32)) dX7_styleAt_54 rfl (congrArg (HAdd.hAdd v3) kc_1) (by decide) (ls' := [.ref v0, .int v1, .ref v2, .int (v3 + (1 : Int32)), .ref t6]) rfl ?_
          refine J_goto 7 dX7_styleAt_57 rfl ?_
          cases H
          exact J_dr (hb0 _ rfl) ⟨rfl, ⟨rfl, ⟨rfl, ⟨rfl, trivial⟩⟩⟩⟩
        · replace H := br0 q12 H
          exact J_dr (kX7_styleAt_51 H hb0 hx) ⟨rfl, ⟨rfl, ⟨rfl, ⟨rfl, trivial⟩⟩⟩⟩
noncomputable def MX7_styleAt_7 (h : Hp) (v0 : Nat) (v1 : Int32) (v2 : Nat) (v3 : Int32) : Option (Nat × Hp) := it (fun q : Nat × Int32 × Hp => BX7_styleAt_7 q.2.2 v0 v1 q.1 q.2.1) (v2, v3, h)
set_option maxRecDepth 100000 in
set_option maxHeartbeats 8000000 in
theorem kX7_styleAt_7 {d : Nat} {h : Hp} {v0 : Nat} {v1 : Int32} {v2 : Nat} {v3 : Int32} {r : Nat} {h9 : Hp} (H : MX7_styleAt_7 h v0 v1 v2 v3 = some (r, h9)) : J (d + 2) YX7_styleAt 7 [.ref v0, .int v1, .ref v2, .int v3, Value.null] [] h (oA r) h9 := by
  unfold MX7_styleAt_7 at H
  refine it_J (G := (fun q : Nat × Int32 × Hp => J (d + 2) YX7_styleAt 7 [.ref v0, .int v1, .ref q.1, .int q.2.1, Value.null] [] q.2.2 (oA r) h9)) (Q := (fun y : (Nat × Hp) => y = (r, h9))) (fun q x Hq hm => ?_) H rfl
  exact bX7_styleAt_7 Hq (fun s hs => by subst hs; exact hm) (fun z hz => by subst hz; exact hm)
noncomputable def MX7_styleAt (h : Hp) (v0 : Nat) (v1 : Int32) : Option (Nat × Hp) :=
  gg (β := (Nat × Hp)) (kd h v0 = 6) <|
  MX7_styleAt_7 h v0 v1 (gP h v0 4) (0 : Int32)
set_option maxRecDepth 100000 in
set_option maxHeartbeats 8000000 in
theorem eX7_styleAt {d : Nat} {h : Hp} {v0 : Nat} {v1 : Int32} {r : Nat} {h9 : Hp} (H : MX7_styleAt h v0 v1 = some (r, h9)) : J (d + 2) YX7_styleAt 0 [.ref v0, .int v1, Value.null, Value.null, Value.null] [] h (oA r) h9 := by
  unfold MX7_styleAt at H
  refine J_aload_n 0 dX7_styleAt_0 rfl rfl ?_
  obtain ⟨g1, H⟩ := gd H
  refine J_gP 6 4 dX7_styleAt_1 g1 flX7_29 rfl rfl ?_
  refine J_astore_n 2 dX7_styleAt_4 rfl (by decide) (ls' := [.ref v0, .int v1, .ref (gP h v0 4), Value.null, Value.null]) rfl ?_
  refine J_iconst (0 : Int32) dX7_styleAt_5 kc_0 ?_
  refine J_istore_n 3 dX7_styleAt_6 rfl (by decide) (ls' := [.ref v0, .int v1, .ref (gP h v0 4), .int (0 : Int32), Value.null]) rfl ?_
  exact J_dr (kX7_styleAt_7 H ) ⟨rfl, ⟨rfl, ⟨rfl, ⟨rfl, trivial⟩⟩⟩⟩
theorem okX7_styleAt {d : Nat} {h : Hp} {v0 : Nat} {v1 : Int32} {r : Nat} {h9 : Hp} (H : MX7_styleAt h v0 v1 = some (r, h9)) : CT (d + 2) YX7_styleAt [.ref v0, .int v1] h (oA r) h9 := CT_of (by decide +kernel) (Nat.le_of_ble_eq_true rfl) (eX7_styleAt H)
noncomputable def MX9_isTrue (h : Hp) (v0 : Int32) (v1 : Int32) (v2 : Nat) : Option Int32 :=
  if (v0 - v0 / (9 : Int32) * (9 : Int32)) < 0 then
    some (0 : Int32)
  else
    gg (β := Int32) (kd h v2 = 20) <|
    if (v0 - v0 / (9 : Int32) * (9 : Int32)) < (nI (ln h v2)) then
      if v0 < (18 : Int32) then
        if v0 < (9 : Int32) then
          gg (β := Int32) (inB (v0 - v0 / (9 : Int32) * (9 : Int32)) (ln h v2) = true) <|
          if (gI h v2 (v0 - v0 / (9 : Int32) * (9 : Int32)).toNatClampNeg) ≤ 0 then
            some (0 : Int32)
          else
            some (1 : Int32)
        else
          gg (β := Int32) (inB (v0 - v0 / (9 : Int32) * (9 : Int32)) (ln h v2) = true) <|
          if v1 ≤ (gI h v2 (v0 - v0 / (9 : Int32) * (9 : Int32)).toNatClampNeg) then
            some (0 : Int32)
          else
            some (1 : Int32)
      else
        gg (β := Int32) (inB (v0 - v0 / (9 : Int32) * (9 : Int32)) (ln h v2) = true) <|
        if (gI h v2 (v0 - v0 / (9 : Int32) * (9 : Int32)).toNatClampNeg) ≤ v1 then
          some (0 : Int32)
        else
          some (1 : Int32)
    else
      some (0 : Int32)
set_option maxRecDepth 100000 in
set_option maxHeartbeats 8000000 in
theorem eX9_isTrue {d : Nat} {h : Hp} {v0 : Int32} {v1 : Int32} {v2 : Nat} {r : Int32} (H : MX9_isTrue h v0 v1 v2 = some r) : J (d) YX9_isTrue 0 [.int v0, .int v1, .ref v2, Value.null] [] h (oI r) h := by
  unfold MX9_isTrue at H
  refine J_iload_n 0 dX9_isTrue_0 rfl rfl ?_
  refine J_bipush (9 : Int32) dX9_isTrue_1 kb_9 ?_
  refine J_irem dX9_isTrue_3 (by decide) ?_
  refine J_istore_n 3 dX9_isTrue_4 rfl (by decide) (ls' := [.int v0, .int v1, .ref v2, .int (v0 - v0 / (9 : Int32) * (9 : Int32))]) rfl ?_
  refine J_iload_n 3 dX9_isTrue_5 rfl rfl ?_
  refine J_if_lt 15 dX9_isTrue_6 rfl (fun q1 => ?_) (fun q1 => ?_)
  · replace H := br1 q1 H
    refine J_iconst (0 : Int32) dX9_isTrue_15 kc_0 ?_
    cases H
    exact J_rZ dX9_isTrue_16 rfl rfl
  · replace H := br0 q1 H
    refine J_iload_n 3 dX9_isTrue_9 rfl rfl ?_
    refine J_aload_n 2 dX9_isTrue_10 rfl rfl ?_
    obtain ⟨g2, H⟩ := gd H
    refine J_len 20 dX9_isTrue_11 g2 rfl ?_
    refine J_icmp_lt 17 dX9_isTrue_12 rfl (fun q3 => ?_) (fun q3 => ?_)
    · replace H := br1 q3 H
      refine J_iload_n 0 dX9_isTrue_17 rfl rfl ?_
      refine J_bipush (18 : Int32) dX9_isTrue_18 kb_18 ?_
      refine J_icmp_lt 36 dX9_isTrue_20 rfl (fun q4 => ?_) (fun q4 => ?_)
      · replace H := br1 q4 H
        refine J_iload_n 0 dX9_isTrue_36 rfl rfl ?_
        refine J_bipush (9 : Int32) dX9_isTrue_37 kb_9 ?_
        refine J_icmp_lt 55 dX9_isTrue_39 rfl (fun q5 => ?_) (fun q5 => ?_)
        · replace H := br1 q5 H
          refine J_aload_n 2 dX9_isTrue_55 rfl rfl ?_
          refine J_iload_n 3 dX9_isTrue_56 rfl rfl ?_
          obtain ⟨g6, H⟩ := gd H
          refine J_iald dX9_isTrue_57 g2 (inB_ok g6) ?_
          refine J_if_le 65 dX9_isTrue_58 rfl (fun q7 => ?_) (fun q7 => ?_)
          · replace H := br1 q7 H
            refine J_iconst (0 : Int32) dX9_isTrue_65 kc_0 ?_
            cases H
            exact J_rZ dX9_isTrue_66 rfl rfl
          · replace H := br0 q7 H
            refine J_iconst (1 : Int32) dX9_isTrue_61 kc_1 ?_
            refine J_goto 66 dX9_isTrue_62 rfl ?_
            cases H
            exact J_rZ dX9_isTrue_66 rfl rfl
        · replace H := br0 q5 H
          refine J_aload_n 2 dX9_isTrue_42 rfl rfl ?_
          refine J_iload_n 3 dX9_isTrue_43 rfl rfl ?_
          obtain ⟨g8, H⟩ := gd H
          refine J_iald dX9_isTrue_44 g2 (inB_ok g8) ?_
          refine J_iload_n 1 dX9_isTrue_45 rfl rfl ?_
          refine J_icmp_ge 53 dX9_isTrue_46 rfl (fun q9 => ?_) (fun q9 => ?_)
          · replace H := br1 q9 H
            refine J_iconst (0 : Int32) dX9_isTrue_53 kc_0 ?_
            cases H
            exact J_rZ dX9_isTrue_54 rfl rfl
          · replace H := br0 q9 H
            refine J_iconst (1 : Int32) dX9_isTrue_49 kc_1 ?_
            refine J_goto 54 dX9_isTrue_50 rfl ?_
            cases H
            exact J_rZ dX9_isTrue_54 rfl rfl
      · replace H := br0 q4 H
        refine J_aload_n 2 dX9_isTrue_23 rfl rfl ?_
        refine J_iload_n 3 dX9_isTrue_24 rfl rfl ?_
        obtain ⟨g10, H⟩ := gd H
        refine J_iald dX9_isTrue_25 g2 (inB_ok g10) ?_
        refine J_iload_n 1 dX9_isTrue_26 rfl rfl ?_
        refine J_icmp_le 34 dX9_isTrue_27 rfl (fun q11 => ?_) (fun q11 => ?_)
        · replace H := br1 q11 H
          refine J_iconst (0 : Int32) dX9_isTrue_34 kc_0 ?_
          cases H
          exact J_rZ dX9_isTrue_35 rfl rfl
        · replace H := br0 q11 H
          refine J_iconst (1 : Int32) dX9_isTrue_30 kc_1 ?_
          refine J_goto 35 dX9_isTrue_31 rfl ?_
          cases H
          exact J_rZ dX9_isTrue_35 rfl rfl
    · replace H := br0 q3 H
      refine J_iconst (0 : Int32) dX9_isTrue_15 kc_0 ?_
      cases H
      exact J_rZ dX9_isTrue_16 rfl rfl
theorem okX9_isTrue {d : Nat} {h : Hp} {v0 : Int32} {v1 : Int32} {v2 : Nat} {r : Int32} (H : MX9_isTrue h v0 v1 v2 = some r) : CT (d) YX9_isTrue [.int v0, .int v1, .ref v2] h (oI r) h := CT_of (by decide +kernel) (Nat.le_of_ble_eq_true rfl) (eX9_isTrue H)
noncomputable def MX9_depthAfter_146 (h : Hp) (v0 : Nat) (v1 : Int32) (v2 : Nat) (v3 : Int32) (v4 : Int32) : Option (Int32 × Hp) :=
  if (27 : Int32) ≤ v4 then
    some (v3, h)
  else
    gg (β := (Int32 × Hp)) (kd h v0 = 8) <|
    gg (β := (Int32 × Hp)) (kd h (gP h v0 8) = 22) <|
    if v3 < (nI (ln h (gP h v0 8))) then
      Option.bind (α := Int32) (β := (Int32 × Hp)) (MX9_isTrue h v4 (v1 >>> ((5 : Int32) &&& 31)) v2) fun (t9 : Int32) =>
      gg (β := (Int32 × Hp)) (inB v3 (ln h (gP h v0 8)) = true) <|
      lt (α := Hp) (β := Option (Int32 × Hp)) (sI h (gP h v0 8) v3.toNatClampNeg (vp_nar .boolean t9)) fun (h11 : Hp) =>
      some ((v3 + (1 : Int32)), h11)
    else
      some (v3, h)
set_option maxRecDepth 100000 in
set_option maxHeartbeats 8000000 in
theorem kX9_depthAfter_146 {d : Nat} {h : Hp} {v0 : Nat} {v1 : Int32} {v2 : Nat} {v3 : Int32} {v4 : Int32} {r : Int32} {h9 : Hp} (H : MX9_depthAfter_146 h v0 v1 v2 v3 v4 = some (r, h9)) : J (d + 1) YX9_depthAfter 146 [.ref v0, .int v1, .ref v2, .int v3, .int v4] [] h (oI r) h9 := by
  unfold MX9_depthAfter_146 at H
  refine J_iload dX9_depthAfter_146 rfl ?_
  refine J_bipush (27 : Int32) dX9_depthAfter_148 kb_27 ?_
  refine J_icmp_ge 162 dX9_depthAfter_150 rfl (fun q4 => ?_) (fun q4 => ?_)
  · replace H := br1 q4 H
    refine J_iload_n 3 dX9_depthAfter_162 rfl rfl ?_
    cases H
    exact J_iretI dX9_depthAfter_163 rfl
  · replace H := br0 q4 H
    refine J_iload_n 3 dX9_depthAfter_153 rfl rfl ?_
    refine J_aload_n 0 dX9_depthAfter_154 rfl rfl ?_
    obtain ⟨g5, H⟩ := gd H
    refine J_gP 8 8 dX9_depthAfter_155 g5 flX9_38 rfl rfl ?_
    obtain ⟨g6, H⟩ := gd H
    refine J_len 22 dX9_depthAfter_158 g6 rfl ?_
    refine J_icmp_lt 164 dX9_depthAfter_159 rfl (fun q7 => ?_) (fun q7 => ?_)
    · replace H := br1 q7 H
      refine J_aload_n 0 dX9_depthAfter_164 rfl rfl ?_
      refine J_gP 8 8 dX9_depthAfter_165 g5 flX9_38 rfl rfl ?_
      refine J_iload_n 3 dX9_depthAfter_168 rfl rfl ?_
      refine J_iload dX9_depthAfter_169 rfl ?_
      refine J_iload_n 1 dX9_depthAfter_171 rfl rfl ?_
      refine J_iconst (5 : Int32) dX9_depthAfter_172 kc_5 ?_
      refine J_ishr dX9_depthAfter_173 ?_
      refine J_aload_n 2 dX9_depthAfter_174 rfl rfl ?_
      obtain ⟨t9, e8, H⟩ := bd H
      refine J_cS (as := [.int v4, .int (v1 >>> ((5 : Int32) &&& 31)), .ref v2]) YX9_isTrue 3 dX9_depthAfter_175 moX9_isTrue msX9_isTrue mlX9_51 (okX9_isTrue (d := d) e8) rfl rfl [.int v3, .ref (gP h v0 8)] rfl rfl (st2 := [.int t9, .int v3, .ref (gP h v0 8)]) rfl ?_
      obtain ⟨g10, H⟩ := gd H
      obtain ⟨h11, e12, H⟩ := lt_el H
      refine J_sZ dX9_depthAfter_178 g6 (inB_ok g10) e12 ?_
      have c13 := ekI e12
      have c14 := elI e12
      have c15 := epI e12
      refine J_iload_n 3 dX9_depthAfter_179 rfl rfl ?_
      refine J_iconst (1 : Int32) dX9_depthAfter_180 kc_1 ?_
      refine J_iadd dX9_depthAfter_181 ?_
      cases H
      exact J_iretI dX9_depthAfter_182 rfl
    · replace H := br0 q7 H
      refine J_iload_n 3 dX9_depthAfter_162 rfl rfl ?_
      cases H
      exact J_iretI dX9_depthAfter_163 rfl
noncomputable def MX9_depthAfter_141 (h : Hp) (v3 : Int32) (s0 : Nat) (s1 : Int32) (s2 : Int32) : Option (Int32 × Hp) :=
  gg (β := (Int32 × Hp)) (kd h s0 = 22) <|
  gg (β := (Int32 × Hp)) (inB s1 (ln h s0) = true) <|
  lt (α := Hp) (β := Option (Int32 × Hp)) (sI h s0 s1.toNatClampNeg (vp_nar .boolean s2)) fun (h23 : Hp) =>
  some ((v3 - (1 : Int32)), h23)
set_option maxRecDepth 100000 in
set_option maxHeartbeats 8000000 in
theorem kX9_depthAfter_141 {d : Nat} {h : Hp} {v3 : Int32} {s0 : Nat} {s1 : Int32} {s2 : Int32} {r : Int32} {h9 : Hp} (H : MX9_depthAfter_141 h v3 s0 s1 s2 = some (r, h9)) : J (d + 1) YX9_depthAfter 141 [Value.null, Value.null, Value.null, .int v3, Value.null] [.int s2, .int s1, .ref s0] h (oI r) h9 := by
  unfold MX9_depthAfter_141 at H
  obtain ⟨g21, H⟩ := gd H
  obtain ⟨g22, H⟩ := gd H
  obtain ⟨h23, e24, H⟩ := lt_el H
  refine J_sZ dX9_depthAfter_141 g21 (inB_ok g22) e24 ?_
  have c25 := ekI e24
  have c26 := elI e24
  have c27 := epI e24
  refine J_iload_n 3 dX9_depthAfter_142 rfl rfl ?_
  refine J_iconst (1 : Int32) dX9_depthAfter_143 kc_1 ?_
  refine J_isub dX9_depthAfter_144 ?_
  cases H
  exact J_iretI dX9_depthAfter_145 rfl
noncomputable def MX9_depthAfter_136 (h : Hp) (v3 : Int32) (s0 : Nat) (s1 : Int32) : Option (Int32 × Hp) :=
  MX9_depthAfter_141 h v3 s0 s1 (1 : Int32)
set_option maxRecDepth 100000 in
set_option maxHeartbeats 8000000 in
theorem kX9_depthAfter_136 {d : Nat} {h : Hp} {v3 : Int32} {s0 : Nat} {s1 : Int32} {r : Int32} {h9 : Hp} (H : MX9_depthAfter_136 h v3 s0 s1 = some (r, h9)) : J (d + 1) YX9_depthAfter 136 [Value.null, Value.null, Value.null, .int v3, Value.null] [.int s1, .ref s0] h (oI r) h9 := by
  unfold MX9_depthAfter_136 at H
  refine J_iconst (1 : Int32) dX9_depthAfter_136 kc_1 ?_
  refine J_goto 141 dX9_depthAfter_137 rfl ?_
  exact J_dr (kX9_depthAfter_141 H ) ⟨rfl, trivial⟩
noncomputable def MX9_depthAfter_95 (h : Hp) (v0 : Nat) (v1 : Int32) (v2 : Nat) (v3 : Int32) (v4 : Int32) : Option (Int32 × Hp) :=
  if v4 = (28 : Int32) then
    if v3 < (2 : Int32) then
      MX9_depthAfter_146 h v0 v1 v2 v3 v4
    else
      gg (β := (Int32 × Hp)) (kd h v0 = 8) <|
      gg (β := (Int32 × Hp)) (kd h (gP h v0 8) = 22) <|
      gg (β := (Int32 × Hp)) (inB (v3 - (2 : Int32)) (ln h (gP h v0 8)) = true) <|
      if (gI h (gP h v0 8) (v3 - (2 : Int32)).toNatClampNeg) = 0 then
        gg (β := (Int32 × Hp)) (inB (v3 - (1 : Int32)) (ln h (gP h v0 8)) = true) <|
        if (gI h (gP h v0 8) (v3 - (1 : Int32)).toNatClampNeg) = 0 then
          MX9_depthAfter_141 h v3 (gP h v0 8) (v3 - (2 : Int32)) (0 : Int32)
        else
          MX9_depthAfter_136 h v3 (gP h v0 8) (v3 - (2 : Int32))
      else
        MX9_depthAfter_136 h v3 (gP h v0 8) (v3 - (2 : Int32))
  else
    MX9_depthAfter_146 h v0 v1 v2 v3 v4
set_option maxRecDepth 100000 in
set_option maxHeartbeats 8000000 in
theorem kX9_depthAfter_95 {d : Nat} {h : Hp} {v0 : Nat} {v1 : Int32} {v2 : Nat} {v3 : Int32} {v4 : Int32} {r : Int32} {h9 : Hp} (H : MX9_depthAfter_95 h v0 v1 v2 v3 v4 = some (r, h9)) : J (d + 1) YX9_depthAfter 95 [.ref v0, .int v1, .ref v2, .int v3, .int v4] [] h (oI r) h9 := by
  unfold MX9_depthAfter_95 at H
  refine J_iload dX9_depthAfter_95 rfl ?_
  refine J_bipush (28 : Int32) dX9_depthAfter_97 kb_28 ?_
  refine J_icmp_ne 146 dX9_depthAfter_99 rfl (fun q3 => ?_) (fun q3 => ?_)
  · replace H := br0 q3 H
    exact J_dr (kX9_depthAfter_146 H ) ⟨rfl, ⟨rfl, ⟨rfl, ⟨rfl, ⟨rfl, trivial⟩⟩⟩⟩⟩
  · replace H := br1 q3 H
    refine J_iload_n 3 dX9_depthAfter_102 rfl rfl ?_
    refine J_iconst (2 : Int32) dX9_depthAfter_103 kc_2 ?_
    refine J_icmp_lt 146 dX9_depthAfter_104 rfl (fun q16 => ?_) (fun q16 => ?_)
    · replace H := br1 q16 H
      exact J_dr (kX9_depthAfter_146 H ) ⟨rfl, ⟨rfl, ⟨rfl, ⟨rfl, ⟨rfl, trivial⟩⟩⟩⟩⟩
    · replace H := br0 q16 H
      refine J_aload_n 0 dX9_depthAfter_107 rfl rfl ?_
      obtain ⟨g17, H⟩ := gd H
      refine J_gP 8 8 dX9_depthAfter_108 g17 flX9_38 rfl rfl ?_
      refine J_iload_n 3 dX9_depthAfter_111 rfl rfl ?_
      refine J_iconst (2 : Int32) dX9_depthAfter_112 kc_2 ?_
      refine J_isub dX9_depthAfter_113 ?_
      refine J_aload_n 0 dX9_depthAfter_114 rfl rfl ?_
      refine J_gP 8 8 dX9_depthAfter_115 g17 flX9_38 rfl rfl ?_
      refine J_iload_n 3 dX9_depthAfter_118 rfl rfl ?_
      refine J_iconst (2 : Int32) dX9_depthAfter_119 kc_2 ?_
      refine J_isub dX9_depthAfter_120 ?_
      obtain ⟨g18, H⟩ := gd H
      obtain ⟨g19, H⟩ := gd H
      refine J_zald dX9_depthAfter_121 g18 (inB_ok g19) ?_
      refine J_if_ne 136 dX9_depthAfter_122 rfl (fun q20 => ?_) (fun q20 => ?_)
      · replace H := br0 q20 H
        exact J_dr (kX9_depthAfter_136 H ) ⟨rfl, trivial⟩
      · replace H := br1 q20 H
        refine J_aload_n 0 dX9_depthAfter_125 rfl rfl ?_
        refine J_gP 8 8 dX9_depthAfter_126 g17 flX9_38 rfl rfl ?_
        refine J_iload_n 3 dX9_depthAfter_129 rfl rfl ?_
        refine J_iconst (1 : Int32) dX9_depthAfter_130 kc_1 ?_
        refine J_isub dX9_depthAfter_131 ?_
        obtain ⟨g28, H⟩ := gd H
        refine J_zald dX9_depthAfter_132 g18 (inB_ok g28) ?_
        refine J_if_eq 140 dX9_depthAfter_133 rfl (fun q29 => ?_) (fun q29 => ?_)
        · replace H := br1 q29 H
          refine J_iconst (0 : Int32) dX9_depthAfter_140 kc_0 ?_
          exact J_dr (kX9_depthAfter_141 H ) ⟨rfl, trivial⟩
        · replace H := br0 q29 H
          exact J_dr (kX9_depthAfter_136 H ) ⟨rfl, trivial⟩
noncomputable def MX9_depthAfter_90 (h : Hp) (v3 : Int32) (s0 : Nat) (s1 : Int32) (s2 : Int32) : Option (Int32 × Hp) :=
  gg (β := (Int32 × Hp)) (kd h s0 = 22) <|
  gg (β := (Int32 × Hp)) (inB s1 (ln h s0) = true) <|
  lt (α := Hp) (β := Option (Int32 × Hp)) (sI h s0 s1.toNatClampNeg (vp_nar .boolean s2)) fun (h37 : Hp) =>
  some ((v3 - (1 : Int32)), h37)
set_option maxRecDepth 100000 in
set_option maxHeartbeats 8000000 in
theorem kX9_depthAfter_90 {d : Nat} {h : Hp} {v3 : Int32} {s0 : Nat} {s1 : Int32} {s2 : Int32} {r : Int32} {h9 : Hp} (H : MX9_depthAfter_90 h v3 s0 s1 s2 = some (r, h9)) : J (d + 1) YX9_depthAfter 90 [Value.null, Value.null, Value.null, .int v3, Value.null] [.int s2, .int s1, .ref s0] h (oI r) h9 := by
  unfold MX9_depthAfter_90 at H
  obtain ⟨g35, H⟩ := gd H
  obtain ⟨g36, H⟩ := gd H
  obtain ⟨h37, e38, H⟩ := lt_el H
  refine J_sZ dX9_depthAfter_90 g35 (inB_ok g36) e38 ?_
  have c39 := ekI e38
  have c40 := elI e38
  have c41 := epI e38
  refine J_iload_n 3 dX9_depthAfter_91 rfl rfl ?_
  refine J_iconst (1 : Int32) dX9_depthAfter_92 kc_1 ?_
  refine J_isub dX9_depthAfter_93 ?_
  cases H
  exact J_iretI dX9_depthAfter_94 rfl
noncomputable def MX9_depthAfter_89 (h : Hp) (v3 : Int32) (s0 : Nat) (s1 : Int32) : Option (Int32 × Hp) :=
  MX9_depthAfter_90 h v3 s0 s1 (0 : Int32)
set_option maxRecDepth 100000 in
set_option maxHeartbeats 8000000 in
theorem kX9_depthAfter_89 {d : Nat} {h : Hp} {v3 : Int32} {s0 : Nat} {s1 : Int32} {r : Int32} {h9 : Hp} (H : MX9_depthAfter_89 h v3 s0 s1 = some (r, h9)) : J (d + 1) YX9_depthAfter 89 [Value.null, Value.null, Value.null, .int v3, Value.null] [.int s1, .ref s0] h (oI r) h9 := by
  unfold MX9_depthAfter_89 at H
  refine J_iconst (0 : Int32) dX9_depthAfter_89 kc_0 ?_
  exact J_dr (kX9_depthAfter_90 H ) ⟨rfl, trivial⟩
noncomputable def MX9_depthAfter_44 (h : Hp) (v0 : Nat) (v1 : Int32) (v2 : Nat) (v3 : Int32) (v4 : Int32) : Option (Int32 × Hp) :=
  if v4 = (27 : Int32) then
    if v3 < (2 : Int32) then
      MX9_depthAfter_95 h v0 v1 v2 v3 v4
    else
      gg (β := (Int32 × Hp)) (kd h v0 = 8) <|
      gg (β := (Int32 × Hp)) (kd h (gP h v0 8) = 22) <|
      gg (β := (Int32 × Hp)) (inB (v3 - (2 : Int32)) (ln h (gP h v0 8)) = true) <|
      if (gI h (gP h v0 8) (v3 - (2 : Int32)).toNatClampNeg) = 0 then
        MX9_depthAfter_89 h v3 (gP h v0 8) (v3 - (2 : Int32))
      else
        gg (β := (Int32 × Hp)) (inB (v3 - (1 : Int32)) (ln h (gP h v0 8)) = true) <|
        if (gI h (gP h v0 8) (v3 - (1 : Int32)).toNatClampNeg) = 0 then
          MX9_depthAfter_89 h v3 (gP h v0 8) (v3 - (2 : Int32))
        else
          MX9_depthAfter_90 h v3 (gP h v0 8) (v3 - (2 : Int32)) (1 : Int32)
  else
    MX9_depthAfter_95 h v0 v1 v2 v3 v4
set_option maxRecDepth 100000 in
set_option maxHeartbeats 8000000 in
theorem kX9_depthAfter_44 {d : Nat} {h : Hp} {v0 : Nat} {v1 : Int32} {v2 : Nat} {v3 : Int32} {v4 : Int32} {r : Int32} {h9 : Hp} (H : MX9_depthAfter_44 h v0 v1 v2 v3 v4 = some (r, h9)) : J (d + 1) YX9_depthAfter 44 [.ref v0, .int v1, .ref v2, .int v3, .int v4] [] h (oI r) h9 := by
  unfold MX9_depthAfter_44 at H
  refine J_iload dX9_depthAfter_44 rfl ?_
  refine J_bipush (27 : Int32) dX9_depthAfter_46 kb_27 ?_
  refine J_icmp_ne 95 dX9_depthAfter_48 rfl (fun q2 => ?_) (fun q2 => ?_)
  · replace H := br0 q2 H
    exact J_dr (kX9_depthAfter_95 H ) ⟨rfl, ⟨rfl, ⟨rfl, ⟨rfl, ⟨rfl, trivial⟩⟩⟩⟩⟩
  · replace H := br1 q2 H
    refine J_iload_n 3 dX9_depthAfter_51 rfl rfl ?_
    refine J_iconst (2 : Int32) dX9_depthAfter_52 kc_2 ?_
    refine J_icmp_lt 95 dX9_depthAfter_53 rfl (fun q30 => ?_) (fun q30 => ?_)
    · replace H := br1 q30 H
      exact J_dr (kX9_depthAfter_95 H ) ⟨rfl, ⟨rfl, ⟨rfl, ⟨rfl, ⟨rfl, trivial⟩⟩⟩⟩⟩
    · replace H := br0 q30 H
      refine J_aload_n 0 dX9_depthAfter_56 rfl rfl ?_
      obtain ⟨g31, H⟩ := gd H
      refine J_gP 8 8 dX9_depthAfter_57 g31 flX9_38 rfl rfl ?_
      refine J_iload_n 3 dX9_depthAfter_60 rfl rfl ?_
      refine J_iconst (2 : Int32) dX9_depthAfter_61 kc_2 ?_
      refine J_isub dX9_depthAfter_62 ?_
      refine J_aload_n 0 dX9_depthAfter_63 rfl rfl ?_
      refine J_gP 8 8 dX9_depthAfter_64 g31 flX9_38 rfl rfl ?_
      refine J_iload_n 3 dX9_depthAfter_67 rfl rfl ?_
      refine J_iconst (2 : Int32) dX9_depthAfter_68 kc_2 ?_
      refine J_isub dX9_depthAfter_69 ?_
      obtain ⟨g32, H⟩ := gd H
      obtain ⟨g33, H⟩ := gd H
      refine J_zald dX9_depthAfter_70 g32 (inB_ok g33) ?_
      refine J_if_eq 89 dX9_depthAfter_71 rfl (fun q34 => ?_) (fun q34 => ?_)
      · replace H := br1 q34 H
        exact J_dr (kX9_depthAfter_89 H ) ⟨rfl, trivial⟩
      · replace H := br0 q34 H
        refine J_aload_n 0 dX9_depthAfter_74 rfl rfl ?_
        refine J_gP 8 8 dX9_depthAfter_75 g31 flX9_38 rfl rfl ?_
        refine J_iload_n 3 dX9_depthAfter_78 rfl rfl ?_
        refine J_iconst (1 : Int32) dX9_depthAfter_79 kc_1 ?_
        refine J_isub dX9_depthAfter_80 ?_
        obtain ⟨g42, H⟩ := gd H
        refine J_zald dX9_depthAfter_81 g32 (inB_ok g42) ?_
        refine J_if_eq 89 dX9_depthAfter_82 rfl (fun q43 => ?_) (fun q43 => ?_)
        · replace H := br1 q43 H
          exact J_dr (kX9_depthAfter_89 H ) ⟨rfl, trivial⟩
        · replace H := br0 q43 H
          refine J_iconst (1 : Int32) dX9_depthAfter_85 kc_1 ?_
          refine J_goto 90 dX9_depthAfter_86 rfl ?_
          exact J_dr (kX9_depthAfter_90 H ) ⟨rfl, trivial⟩
noncomputable def MX9_depthAfter_41 (h : Hp) (v3 : Int32) (s0 : Nat) (s1 : Int32) (s2 : Int32) : Option (Int32 × Hp) :=
  gg (β := (Int32 × Hp)) (kd h s0 = 22) <|
  gg (β := (Int32 × Hp)) (inB s1 (ln h s0) = true) <|
  lt (α := Hp) (β := Option (Int32 × Hp)) (sI h s0 s1.toNatClampNeg (vp_nar .boolean s2)) fun (h51 : Hp) =>
  some (v3, h51)
set_option maxRecDepth 100000 in
set_option maxHeartbeats 8000000 in
theorem kX9_depthAfter_41 {d : Nat} {h : Hp} {v3 : Int32} {s0 : Nat} {s1 : Int32} {s2 : Int32} {r : Int32} {h9 : Hp} (H : MX9_depthAfter_41 h v3 s0 s1 s2 = some (r, h9)) : J (d + 1) YX9_depthAfter 41 [Value.null, Value.null, Value.null, .int v3, Value.null] [.int s2, .int s1, .ref s0] h (oI r) h9 := by
  unfold MX9_depthAfter_41 at H
  obtain ⟨g49, H⟩ := gd H
  obtain ⟨g50, H⟩ := gd H
  obtain ⟨h51, e52, H⟩ := lt_el H
  refine J_sZ dX9_depthAfter_41 g49 (inB_ok g50) e52 ?_
  have c53 := ekI e52
  have c54 := elI e52
  have c55 := epI e52
  refine J_iload_n 3 dX9_depthAfter_42 rfl rfl ?_
  cases H
  exact J_iretI dX9_depthAfter_43 rfl
noncomputable def MX9_depthAfter (h : Hp) (v0 : Nat) (v1 : Int32) (v2 : Nat) (v3 : Int32) : Option (Int32 × Hp) :=
  if (v1 &&& (31 : Int32)) = (29 : Int32) then
    if v3 < (1 : Int32) then
      MX9_depthAfter_44 h v0 v1 v2 v3 (v1 &&& (31 : Int32))
    else
      gg (β := (Int32 × Hp)) (kd h v0 = 8) <|
      gg (β := (Int32 × Hp)) (kd h (gP h v0 8) = 22) <|
      gg (β := (Int32 × Hp)) (inB (v3 - (1 : Int32)) (ln h (gP h v0 8)) = true) <|
      if (gI h (gP h v0 8) (v3 - (1 : Int32)).toNatClampNeg) = 0 then
        MX9_depthAfter_41 h v3 (gP h v0 8) (v3 - (1 : Int32)) (1 : Int32)
      else
        MX9_depthAfter_41 h v3 (gP h v0 8) (v3 - (1 : Int32)) (0 : Int32)
  else
    MX9_depthAfter_44 h v0 v1 v2 v3 (v1 &&& (31 : Int32))
set_option maxRecDepth 100000 in
set_option maxHeartbeats 8000000 in
theorem eX9_depthAfter {d : Nat} {h : Hp} {v0 : Nat} {v1 : Int32} {v2 : Nat} {v3 : Int32} {r : Int32} {h9 : Hp} (H : MX9_depthAfter h v0 v1 v2 v3 = some (r, h9)) : J (d + 1) YX9_depthAfter 0 [.ref v0, .int v1, .ref v2, .int v3, Value.null] [] h (oI r) h9 := by
  unfold MX9_depthAfter at H
  refine J_iload_n 1 dX9_depthAfter_0 rfl rfl ?_
  refine J_bipush (31 : Int32) dX9_depthAfter_1 kb_31 ?_
  refine J_iand dX9_depthAfter_3 ?_
  refine J_istore dX9_depthAfter_4 (by decide) (ls' := [.ref v0, .int v1, .ref v2, .int v3, .int (v1 &&& (31 : Int32))]) rfl ?_
  refine J_iload dX9_depthAfter_6 rfl ?_
  refine J_bipush (29 : Int32) dX9_depthAfter_8 kb_29 ?_
  refine J_icmp_ne 44 dX9_depthAfter_10 rfl (fun q1 => ?_) (fun q1 => ?_)
  · replace H := br0 q1 H
    exact J_dr (kX9_depthAfter_44 H ) ⟨rfl, ⟨rfl, ⟨rfl, ⟨rfl, ⟨rfl, trivial⟩⟩⟩⟩⟩
  · replace H := br1 q1 H
    refine J_iload_n 3 dX9_depthAfter_13 rfl rfl ?_
    refine J_iconst (1 : Int32) dX9_depthAfter_14 kc_1 ?_
    refine J_icmp_lt 44 dX9_depthAfter_15 rfl (fun q44 => ?_) (fun q44 => ?_)
    · replace H := br1 q44 H
      exact J_dr (kX9_depthAfter_44 H ) ⟨rfl, ⟨rfl, ⟨rfl, ⟨rfl, ⟨rfl, trivial⟩⟩⟩⟩⟩
    · replace H := br0 q44 H
      refine J_aload_n 0 dX9_depthAfter_18 rfl rfl ?_
      obtain ⟨g45, H⟩ := gd H
      refine J_gP 8 8 dX9_depthAfter_19 g45 flX9_38 rfl rfl ?_
      refine J_iload_n 3 dX9_depthAfter_22 rfl rfl ?_
      refine J_iconst (1 : Int32) dX9_depthAfter_23 kc_1 ?_
      refine J_isub dX9_depthAfter_24 ?_
      refine J_aload_n 0 dX9_depthAfter_25 rfl rfl ?_
      refine J_gP 8 8 dX9_depthAfter_26 g45 flX9_38 rfl rfl ?_
      refine J_iload_n 3 dX9_depthAfter_29 rfl rfl ?_
      refine J_iconst (1 : Int32) dX9_depthAfter_30 kc_1 ?_
      refine J_isub dX9_depthAfter_31 ?_
      obtain ⟨g46, H⟩ := gd H
      obtain ⟨g47, H⟩ := gd H
      refine J_zald dX9_depthAfter_32 g46 (inB_ok g47) ?_
      refine J_if_ne 40 dX9_depthAfter_33 rfl (fun q48 => ?_) (fun q48 => ?_)
      · replace H := br0 q48 H
        refine J_iconst (0 : Int32) dX9_depthAfter_40 kc_0 ?_
        exact J_dr (kX9_depthAfter_41 H ) ⟨rfl, trivial⟩
      · replace H := br1 q48 H
        refine J_iconst (1 : Int32) dX9_depthAfter_36 kc_1 ?_
        refine J_goto 41 dX9_depthAfter_37 rfl ?_
        exact J_dr (kX9_depthAfter_41 H ) ⟨rfl, trivial⟩
theorem okX9_depthAfter {d : Nat} {h : Hp} {v0 : Nat} {v1 : Int32} {v2 : Nat} {v3 : Int32} {r : Int32} {h9 : Hp} (H : MX9_depthAfter h v0 v1 v2 v3 = some (r, h9)) : CT (d + 1) YX9_depthAfter [.ref v0, .int v1, .ref v2, .int v3] h (oI r) h9 := CT_of (by decide +kernel) (Nat.le_of_ble_eq_true rfl) (eX9_depthAfter H)
noncomputable def MX9_weigh_85 (h : Hp) (v0 : Nat) (v1 : Nat) (v3 : Int32) (s0 : Nat) (s1 : Int32) (s2 : Int32) : Option ((Int32 × Int32 × Hp) ⊕ Hp) :=
  gg (β := ((Int32 × Int32 × Hp) ⊕ Hp)) (kd h s0 = 22) <|
  gg (β := ((Int32 × Int32 × Hp) ⊕ Hp)) (inB s1 (ln h s0) = true) <|
  lt (α := Hp) (β := Option ((Int32 × Int32 × Hp) ⊕ Hp)) (sI h s0 s1.toNatClampNeg (vp_nar .boolean s2)) fun (h11 : Hp) =>
  gg (β := ((Int32 × Int32 × Hp) ⊕ Hp)) (kd h v0 = 8) <|
  gg (β := ((Int32 × Int32 × Hp) ⊕ Hp)) (kd h (gP h v0 5) = 20) <|
  gg (β := ((Int32 × Int32 × Hp) ⊕ Hp)) (inB v3 (ln h (gP h v0 5)) = true) <|
  some (.inl ((gI h11 (gP h v0 5) v3.toNatClampNeg), (v3 + (1 : Int32)), h11))
set_option maxRecDepth 100000 in
set_option maxHeartbeats 8000000 in
theorem kX9_weigh_85 {d : Nat} {h : Hp} {v0 : Nat} {v1 : Nat} {v3 : Int32} {s0 : Nat} {s1 : Int32} {s2 : Int32} {h9 : Hp} {x : ((Int32 × Int32 × Hp) ⊕ Hp)} (H : MX9_weigh_85 h v0 v1 v3 s0 s1 s2 = some x) (hb0 : ∀ s : Int32 × Int32 × Hp, x = .inl s → J (d + 2) YX9_weigh 4 [.ref v0, .ref v1, .int s.1, .int s.2.1, Value.null, Value.null] [] s.2.2 oV h9) (hx : ∀ z : Hp, x = .inr (z) → z = h9) : J (d + 2) YX9_weigh 85 [.ref v0, .ref v1, Value.null, .int v3, Value.null, Value.null] [.int s2, .int s1, .ref s0] h oV h9 := by
  unfold MX9_weigh_85 at H
  obtain ⟨g9, H⟩ := gd H
  obtain ⟨g10, H⟩ := gd H
  obtain ⟨h11, e12, H⟩ := lt_el H
  refine J_sZ dX9_weigh_85 g9 (inB_ok g10) e12 ?_
  have c13 := ekI e12
  have c14 := elI e12
  have c15 := epI e12
  refine J_aload_n 0 dX9_weigh_86 rfl rfl ?_
  obtain ⟨g16, H⟩ := gd H
  refine J_gP 8 5 dX9_weigh_87 (kq c13 g16) flX9_28 rfl (congrFun (congrFun c15 v0) 5) ?_
  refine J_iload_n 3 dX9_weigh_90 rfl rfl ?_
  obtain ⟨g17, H⟩ := gd H
  obtain ⟨g18, H⟩ := gd H
  refine J_iald dX9_weigh_91 (kq c13 g17) (lq c14 g18) ?_
  refine J_istore_n 2 dX9_weigh_92 rfl (by decide) (ls' := [.ref v0, .ref v1, .int (gI h11 (gP h v0 5) v3.toNatClampNeg), .int v3, Value.null, Value.null]) rfl ?_
  refine J_iinc (v3 + (1 : Int32)) dX9_weigh_93 rfl (congrArg (HAdd.hAdd v3) kc_1) (by decide) (ls' := [.ref v0, .ref v1, .int (gI h11 (gP h v0 5) v3.toNatClampNeg), .int (v3 + (1 : Int32)), Value.null, Value.null]) rfl ?_
  refine J_goto 4 dX9_weigh_96 rfl ?_
  cases H
  exact J_dr (hb0 _ rfl) ⟨rfl, ⟨rfl, ⟨rfl, ⟨rfl, trivial⟩⟩⟩⟩
noncomputable def MX9_weigh_80 (h : Hp) (v0 : Nat) (v1 : Nat) (v3 : Int32) (s0 : Nat) (s1 : Int32) : Option ((Int32 × Int32 × Hp) ⊕ Hp) :=
  MX9_weigh_85 h v0 v1 v3 s0 s1 (1 : Int32)
set_option maxRecDepth 100000 in
set_option maxHeartbeats 8000000 in
theorem kX9_weigh_80 {d : Nat} {h : Hp} {v0 : Nat} {v1 : Nat} {v3 : Int32} {s0 : Nat} {s1 : Int32} {h9 : Hp} {x : ((Int32 × Int32 × Hp) ⊕ Hp)} (H : MX9_weigh_80 h v0 v1 v3 s0 s1 = some x) (hb0 : ∀ s : Int32 × Int32 × Hp, x = .inl s → J (d + 2) YX9_weigh 4 [.ref v0, .ref v1, .int s.1, .int s.2.1, Value.null, Value.null] [] s.2.2 oV h9) (hx : ∀ z : Hp, x = .inr (z) → z = h9) : J (d + 2) YX9_weigh 80 [.ref v0, .ref v1, Value.null, .int v3, Value.null, Value.null] [.int s1, .ref s0] h oV h9 := by
  unfold MX9_weigh_80 at H
  refine J_iconst (1 : Int32) dX9_weigh_80 kc_1 ?_
  refine J_goto 85 dX9_weigh_81 rfl ?_
  exact J_dr (kX9_weigh_85 H hb0 hx) ⟨rfl, ⟨rfl, ⟨rfl, trivial⟩⟩⟩
noncomputable def MX9_weigh_61 (h : Hp) (v0 : Nat) (v1 : Nat) (v3 : Int32) (v4 : Int32) : Option ((Int32 × Int32 × Hp) ⊕ Hp) :=
  gg (β := ((Int32 × Int32 × Hp) ⊕ Hp)) (kd h v0 = 8) <|
  if v4 = 0 then
    MX9_weigh_80 h v0 v1 v3 (gP h v0 7) v3
  else
    gg (β := ((Int32 × Int32 × Hp) ⊕ Hp)) (kd h (gP h v0 8) = 22) <|
    gg (β := ((Int32 × Int32 × Hp) ⊕ Hp)) (inB (0 : Int32) (ln h (gP h v0 8)) = true) <|
    if (gI h (gP h v0 8) (0 : Int32).toNatClampNeg) = 0 then
      MX9_weigh_85 h v0 v1 v3 (gP h v0 7) v3 (0 : Int32)
    else
      MX9_weigh_80 h v0 v1 v3 (gP h v0 7) v3
set_option maxRecDepth 100000 in
set_option maxHeartbeats 8000000 in
theorem kX9_weigh_61 {d : Nat} {h : Hp} {v0 : Nat} {v1 : Nat} {v3 : Int32} {v4 : Int32} {h9 : Hp} {x : ((Int32 × Int32 × Hp) ⊕ Hp)} (H : MX9_weigh_61 h v0 v1 v3 v4 = some x) (hb0 : ∀ s : Int32 × Int32 × Hp, x = .inl s → J (d + 2) YX9_weigh 4 [.ref v0, .ref v1, .int s.1, .int s.2.1, Value.null, Value.null] [] s.2.2 oV h9) (hx : ∀ z : Hp, x = .inr (z) → z = h9) : J (d + 2) YX9_weigh 61 [.ref v0, .ref v1, Value.null, .int v3, .int v4, Value.null] [] h oV h9 := by
  unfold MX9_weigh_61 at H
  refine J_aload_n 0 dX9_weigh_61 rfl rfl ?_
  obtain ⟨g7, H⟩ := gd H
  refine J_gP 8 7 dX9_weigh_62 g7 flX9_34 rfl rfl ?_
  refine J_iload_n 3 dX9_weigh_65 rfl rfl ?_
  refine J_iload dX9_weigh_66 rfl ?_
  refine J_if_eq 80 dX9_weigh_68 rfl (fun q8 => ?_) (fun q8 => ?_)
  · replace H := br1 q8 H
    exact J_dr (kX9_weigh_80 H hb0 hx) ⟨rfl, ⟨rfl, ⟨rfl, trivial⟩⟩⟩
  · replace H := br0 q8 H
    refine J_aload_n 0 dX9_weigh_71 rfl rfl ?_
    refine J_gP 8 8 dX9_weigh_72 g7 flX9_38 rfl rfl ?_
    refine J_iconst (0 : Int32) dX9_weigh_75 kc_0 ?_
    obtain ⟨g19, H⟩ := gd H
    obtain ⟨g20, H⟩ := gd H
    refine J_zald dX9_weigh_76 g19 (inB_ok g20) ?_
    refine J_if_eq 84 dX9_weigh_77 rfl (fun q21 => ?_) (fun q21 => ?_)
    · replace H := br1 q21 H
      refine J_iconst (0 : Int32) dX9_weigh_84 kc_0 ?_
      exact J_dr (kX9_weigh_85 H hb0 hx) ⟨rfl, ⟨rfl, ⟨rfl, trivial⟩⟩⟩
    · replace H := br0 q21 H
      exact J_dr (kX9_weigh_80 H hb0 hx) ⟨rfl, ⟨rfl, ⟨rfl, trivial⟩⟩⟩
noncomputable def BX9_weigh_18 (h : Hp) (v0 : Nat) (v1 : Nat) (v3 : Int32) (v4 : Int32) (v5 : Int32) : Option ((Int32 × Int32 × Hp) ⊕ ((Int32 × Int32 × Hp) ⊕ Hp)) :=
  gg (β := ((Int32 × Int32 × Hp) ⊕ ((Int32 × Int32 × Hp) ⊕ Hp))) (kd h v0 = 8) <|
  gg (β := ((Int32 × Int32 × Hp) ⊕ ((Int32 × Int32 × Hp) ⊕ Hp))) (kd h (gP h v0 5) = 20) <|
  gg (β := ((Int32 × Int32 × Hp) ⊕ ((Int32 × Int32 × Hp) ⊕ Hp))) (inB v3 (ln h (gP h v0 5)) = true) <|
  if (gI h (gP h v0 5) v3.toNatClampNeg) ≤ v5 then
    up1 (MX9_weigh_61 h v0 v1 v3 v4)
  else
    gg (β := ((Int32 × Int32 × Hp) ⊕ ((Int32 × Int32 × Hp) ⊕ Hp))) (kd h (gP h v0 6) = 20) <|
    if (nI (ln h (gP h v0 6))) ≤ v5 then
      up1 (MX9_weigh_61 h v0 v1 v3 v4)
    else
      gg (β := ((Int32 × Int32 × Hp) ⊕ ((Int32 × Int32 × Hp) ⊕ Hp))) (inB v5 (ln h (gP h v0 6)) = true) <|
      b2 (α := Int32) (β := Hp) (γ := ((Int32 × Int32 × Hp) ⊕ ((Int32 × Int32 × Hp) ⊕ Hp))) (MX9_depthAfter h v0 (gI h (gP h v0 6) v5.toNatClampNeg) v1 v4) fun (t27 : Int32) (h26 : Hp) =>
      some (.inl (t27, (v5 + (1 : Int32)), h26))
set_option maxRecDepth 100000 in
set_option maxHeartbeats 8000000 in
theorem bX9_weigh_18 {d : Nat} {h : Hp} {v0 : Nat} {v1 : Nat} {v3 : Int32} {v4 : Int32} {v5 : Int32} {h9 : Hp} {x : ((Int32 × Int32 × Hp) ⊕ ((Int32 × Int32 × Hp) ⊕ Hp))} (H : BX9_weigh_18 h v0 v1 v3 v4 v5 = some x) (hb0 : ∀ s : Int32 × Int32 × Hp, x = .inl s → J (d + 2) YX9_weigh 18 [.ref v0, .ref v1, Value.null, .int v3, .int s.1, .int s.2.1] [] s.2.2 oV h9) (hb1 : ∀ s : Int32 × Int32 × Hp, x = .inr (.inl s) → J (d + 2) YX9_weigh 4 [.ref v0, .ref v1, .int s.1, .int s.2.1, Value.null, Value.null] [] s.2.2 oV h9) (hx : ∀ z : Hp, x = .inr (.inr (z)) → z = h9) : J (d + 2) YX9_weigh 18 [.ref v0, .ref v1, Value.null, .int v3, .int v4, .int v5] [] h oV h9 := by
  unfold BX9_weigh_18 at H
  refine J_iload dX9_weigh_18 rfl ?_
  refine J_aload_n 0 dX9_weigh_20 rfl rfl ?_
  obtain ⟨g3, H⟩ := gd H
  refine J_gP 8 5 dX9_weigh_21 g3 flX9_28 rfl rfl ?_
  refine J_iload_n 3 dX9_weigh_24 rfl rfl ?_
  obtain ⟨g4, H⟩ := gd H
  obtain ⟨g5, H⟩ := gd H
  refine J_iald dX9_weigh_25 g4 (inB_ok g5) ?_
  refine J_icmp_ge 61 dX9_weigh_26 rfl (fun q6 => ?_) (fun q6 => ?_)
  · replace H := br1 q6 H
    obtain ⟨y0, H90, rfl⟩ := up1_el H
    replace H := H90
    exact J_dr (kX9_weigh_61 H (fun s hs => hb1 s (congrArg Sum.inr hs)) (fun s hs => hx s (congrArg Sum.inr hs))) ⟨rfl, ⟨rfl, ⟨rfl, ⟨rfl, trivial⟩⟩⟩⟩
  · replace H := br0 q6 H
    refine J_iload dX9_weigh_29 rfl ?_
    refine J_aload_n 0 dX9_weigh_31 rfl rfl ?_
    refine J_gP 8 6 dX9_weigh_32 g3 flX9_31 rfl rfl ?_
    obtain ⟨g22, H⟩ := gd H
    refine J_len 20 dX9_weigh_35 g22 rfl ?_
    refine J_icmp_ge 61 dX9_weigh_36 rfl (fun q23 => ?_) (fun q23 => ?_)
    · replace H := br1 q23 H
      obtain ⟨y0, H90, rfl⟩ := up1_el H
      replace H := H90
      exact J_dr (kX9_weigh_61 H (fun s hs => hb1 s (congrArg Sum.inr hs)) (fun s hs => hx s (congrArg Sum.inr hs))) ⟨rfl, ⟨rfl, ⟨rfl, ⟨rfl, trivial⟩⟩⟩⟩
    · replace H := br0 q23 H
      refine J_aload_n 0 dX9_weigh_39 rfl rfl ?_
      refine J_aload_n 0 dX9_weigh_40 rfl rfl ?_
      refine J_gP 8 6 dX9_weigh_41 g3 flX9_31 rfl rfl ?_
      refine J_iload dX9_weigh_44 rfl ?_
      obtain ⟨g24, H⟩ := gd H
      refine J_iald dX9_weigh_46 g22 (inB_ok g24) ?_
      refine J_aload_n 1 dX9_weigh_47 rfl rfl ?_
      refine J_iload dX9_weigh_48 rfl ?_
      obtain ⟨t27, h26, e25, H⟩ := b2_el H
      refine J_cV (as := [.int (gI h (gP h v0 6) v5.toNatClampNeg), .ref v1, .int v4]) 8 YX9_depthAfter 3 dX9_weigh_50 moX9_depthAfter mvX9_depthAfter mlX9_47 g3 rfl rfl (okX9_depthAfter (d := d) e25) rfl rfl [] rfl rfl (st2 := [.int t27]) rfl ?_
      refine J_istore dX9_weigh_53 (by decide) (ls' := [.ref v0, .ref v1, Value.null, .int v3, .int t27, .int v5]) rfl ?_
      refine J_iinc (v5 + (1 : Int32)) dX9_weigh_55 rfl (congrArg (HAdd.hAdd v5) kc_1) (by decide) (ls' := [.ref v0, .ref v1, Value.null, .int v3, .int t27, .int (v5 + (1 : Int32))]) rfl ?_
      refine J_goto 18 dX9_weigh_58 rfl ?_
      cases H
      exact J_dr (hb0 _ rfl) ⟨rfl, ⟨rfl, ⟨rfl, ⟨rfl, ⟨rfl, trivial⟩⟩⟩⟩⟩
noncomputable def MX9_weigh_18 (h : Hp) (v0 : Nat) (v1 : Nat) (v3 : Int32) (v4 : Int32) (v5 : Int32) : Option ((Int32 × Int32 × Hp) ⊕ Hp) := it (fun q : Int32 × Int32 × Hp => BX9_weigh_18 q.2.2 v0 v1 v3 q.1 q.2.1) (v4, v5, h)
set_option maxRecDepth 100000 in
set_option maxHeartbeats 8000000 in
theorem kX9_weigh_18 {d : Nat} {h : Hp} {v0 : Nat} {v1 : Nat} {v3 : Int32} {v4 : Int32} {v5 : Int32} {h9 : Hp} {x : ((Int32 × Int32 × Hp) ⊕ Hp)} (H : MX9_weigh_18 h v0 v1 v3 v4 v5 = some x) (hb0 : ∀ s : Int32 × Int32 × Hp, x = .inl s → J (d + 2) YX9_weigh 4 [.ref v0, .ref v1, .int s.1, .int s.2.1, Value.null, Value.null] [] s.2.2 oV h9) (hx : ∀ z : Hp, x = .inr (z) → z = h9) : J (d + 2) YX9_weigh 18 [.ref v0, .ref v1, Value.null, .int v3, .int v4, .int v5] [] h oV h9 := by
  unfold MX9_weigh_18 at H
  refine it_J (G := (fun q : Int32 × Int32 × Hp => J (d + 2) YX9_weigh 18 [.ref v0, .ref v1, Value.null, .int v3, .int q.1, .int q.2.1] [] q.2.2 oV h9)) (Q := (fun y : ((Int32 × Int32 × Hp) ⊕ Hp) => (∀ s : Int32 × Int32 × Hp, y = .inl s → J (d + 2) YX9_weigh 4 [.ref v0, .ref v1, .int s.1, .int s.2.1, Value.null, Value.null] [] s.2.2 oV h9) ∧ (∀ z : Hp, y = .inr (z) → z = h9))) (fun q x Hq hm => ?_) H ⟨hb0, hx⟩
  exact bX9_weigh_18 Hq (fun s hs => by subst hs; exact hm) (fun s hs => by subst hs; exact (hm.1) s rfl) (fun z hz => by subst hz; exact (hm.2) z rfl)
noncomputable def BX9_weigh_4 (h : Hp) (v0 : Nat) (v1 : Nat) (v2 : Int32) (v3 : Int32) : Option ((Int32 × Int32 × Hp) ⊕ Hp) :=
  gg (β := ((Int32 × Int32 × Hp) ⊕ Hp)) (kd h v0 = 8) <|
  if (gI h v0 1) ≤ v3 then
    some (.inr (h))
  else
    MX9_weigh_18 h v0 v1 v3 (0 : Int32) v2
set_option maxRecDepth 100000 in
set_option maxHeartbeats 8000000 in
theorem bX9_weigh_4 {d : Nat} {h : Hp} {v0 : Nat} {v1 : Nat} {v2 : Int32} {v3 : Int32} {h9 : Hp} {x : ((Int32 × Int32 × Hp) ⊕ Hp)} (H : BX9_weigh_4 h v0 v1 v2 v3 = some x) (hb0 : ∀ s : Int32 × Int32 × Hp, x = .inl s → J (d + 2) YX9_weigh 4 [.ref v0, .ref v1, .int s.1, .int s.2.1, Value.null, Value.null] [] s.2.2 oV h9) (hx : ∀ z : Hp, x = .inr (z) → z = h9) : J (d + 2) YX9_weigh 4 [.ref v0, .ref v1, .int v2, .int v3, Value.null, Value.null] [] h oV h9 := by
  unfold BX9_weigh_4 at H
  refine J_iload_n 3 dX9_weigh_4 rfl rfl ?_
  refine J_aload_n 0 dX9_weigh_5 rfl rfl ?_
  obtain ⟨g1, H⟩ := gd H
  refine J_getI 8 1 dX9_weigh_6 g1 flX9_15 rfl ?_
  refine J_icmp_ge 99 dX9_weigh_9 rfl (fun q2 => ?_) (fun q2 => ?_)
  · replace H := br1 q2 H
    cases H
    cases hx _ rfl
    exact J_ret dX9_weigh_99 rfl
  · replace H := br0 q2 H
    refine J_iconst (0 : Int32) dX9_weigh_12 kc_0 ?_
    refine J_istore dX9_weigh_13 (by decide) (ls' := [.ref v0, .ref v1, .int v2, .int v3, .int (0 : Int32), Value.null]) rfl ?_
    refine J_iload_n 2 dX9_weigh_15 rfl rfl ?_
    refine J_istore dX9_weigh_16 (by decide) (ls' := [.ref v0, .ref v1, .int v2, .int v3, .int (0 : Int32), .int v2]) rfl ?_
    exact J_dr (kX9_weigh_18 H hb0 hx) ⟨rfl, ⟨rfl, ⟨rfl, ⟨rfl, ⟨rfl, trivial⟩⟩⟩⟩⟩
noncomputable def MX9_weigh_4 (h : Hp) (v0 : Nat) (v1 : Nat) (v2 : Int32) (v3 : Int32) : Option Hp := it (fun q : Int32 × Int32 × Hp => BX9_weigh_4 q.2.2 v0 v1 q.1 q.2.1) (v2, v3, h)
set_option maxRecDepth 100000 in
set_option maxHeartbeats 8000000 in
theorem kX9_weigh_4 {d : Nat} {h : Hp} {v0 : Nat} {v1 : Nat} {v2 : Int32} {v3 : Int32} {h9 : Hp} (H : MX9_weigh_4 h v0 v1 v2 v3 = some h9) : J (d + 2) YX9_weigh 4 [.ref v0, .ref v1, .int v2, .int v3, Value.null, Value.null] [] h oV h9 := by
  unfold MX9_weigh_4 at H
  refine it_J (G := (fun q : Int32 × Int32 × Hp => J (d + 2) YX9_weigh 4 [.ref v0, .ref v1, .int q.1, .int q.2.1, Value.null, Value.null] [] q.2.2 oV h9)) (Q := (fun y : Hp => y = h9)) (fun q x Hq hm => ?_) H rfl
  exact bX9_weigh_4 Hq (fun s hs => by subst hs; exact hm) (fun z hz => by subst hz; exact hm)
noncomputable def MX9_weigh (h : Hp) (v0 : Nat) (v1 : Nat) : Option Hp :=
  MX9_weigh_4 h v0 v1 (0 : Int32) (0 : Int32)
set_option maxRecDepth 100000 in
set_option maxHeartbeats 8000000 in
theorem eX9_weigh {d : Nat} {h : Hp} {v0 : Nat} {v1 : Nat} {h9 : Hp} (H : MX9_weigh h v0 v1 = some h9) : J (d + 2) YX9_weigh 0 [.ref v0, .ref v1, Value.null, Value.null, Value.null, Value.null] [] h oV h9 := by
  unfold MX9_weigh at H
  refine J_iconst (0 : Int32) dX9_weigh_0 kc_0 ?_
  refine J_istore_n 2 dX9_weigh_1 rfl (by decide) (ls' := [.ref v0, .ref v1, .int (0 : Int32), Value.null, Value.null, Value.null]) rfl ?_
  refine J_iconst (0 : Int32) dX9_weigh_2 kc_0 ?_
  refine J_istore_n 3 dX9_weigh_3 rfl (by decide) (ls' := [.ref v0, .ref v1, .int (0 : Int32), .int (0 : Int32), Value.null, Value.null]) rfl ?_
  exact J_dr (kX9_weigh_4 H ) ⟨rfl, ⟨rfl, ⟨rfl, ⟨rfl, trivial⟩⟩⟩⟩
theorem okX9_weigh {d : Nat} {h : Hp} {v0 : Nat} {v1 : Nat} {h9 : Hp} (H : MX9_weigh h v0 v1 = some h9) : CT (d + 2) YX9_weigh [.ref v0, .ref v1] h oV h9 := CT_of (by decide +kernel) (Nat.le_of_ble_eq_true rfl) (eX9_weigh H)
noncomputable def MX7_breakerFor (h : Hp) (v0 : Nat) (v1 : Nat) (v2 : Int32) : Option (Nat × Hp) :=
  gg (β := (Nat × Hp)) (kd h v0 = 6) <|
  b2 (α := Nat) (β := Hp) (γ := (Nat × Hp)) (MX7_styleAt h v0 v2) fun (t4 : Nat) (h3 : Hp) =>
  gg (β := (Nat × Hp)) (kd h3 v0 = 6) <|
  Option.bind (α := Hp) (β := (Nat × Hp)) (MX7_factsOfPart h3 v0 v1 v2) fun (h7 : Hp) =>
  gg (β := (Nat × Hp)) (kd h7 v0 = 6) <|
  gg (β := (Nat × Hp)) (kd h7 t4 = 8) <|
  Option.bind (α := Hp) (β := (Nat × Hp)) (MX9_weigh h7 t4 (gP h7 v0 15)) fun (h11 : Hp) =>
  gg (β := (Nat × Hp)) (kd h11 v0 = 6) <|
  gg (β := (Nat × Hp)) (kd h11 (gP h11 v0 14) = 0) <|
  Option.bind (α := Hp) (β := (Nat × Hp)) (MX0_loadRules h11 (gP h11 v0 14) t4) fun (h15 : Hp) =>
  gg (β := (Nat × Hp)) (kd h15 v0 = 6) <|
  gg (β := (Nat × Hp)) (kd h15 (gP h15 v0 14) = 0) <|
  Option.bind (α := Hp) (β := (Nat × Hp)) (MX0_loadCopy h15 (gP h15 v0 14) v1 (gP h15 v0 1)) fun (h19 : Hp) =>
  gg (β := (Nat × Hp)) (kd h19 v0 = 6) <|
  some ((gP h19 v0 14), h19)
set_option maxRecDepth 100000 in
set_option maxHeartbeats 8000000 in
theorem eX7_breakerFor {d : Nat} {h : Hp} {v0 : Nat} {v1 : Nat} {v2 : Int32} {r : Nat} {h9 : Hp} (H : MX7_breakerFor h v0 v1 v2 = some (r, h9)) : J (d + 3) YX7_breakerFor 0 [.ref v0, .ref v1, .int v2, Value.null] [] h (oA r) h9 := by
  unfold MX7_breakerFor at H
  refine J_aload_n 0 dX7_breakerFor_0 rfl rfl ?_
  refine J_iload_n 2 dX7_breakerFor_1 rfl rfl ?_
  obtain ⟨g2, H⟩ := gd H
  obtain ⟨t4, h3, e1, H⟩ := b2_el H
  refine J_cV (as := [.int v2]) 6 YX7_styleAt 1 dX7_breakerFor_2 moX7_styleAt mvX7_styleAt mlX7_145 g2 rfl rfl (okX7_styleAt (d := d) e1) rfl rfl [] rfl rfl (st2 := [.ref t4]) rfl ?_
  refine J_astore_n 3 dX7_breakerFor_5 rfl (by decide) (ls' := [.ref v0, .ref v1, .int v2, .ref t4]) rfl ?_
  refine J_aload_n 0 dX7_breakerFor_6 rfl rfl ?_
  refine J_aload_n 1 dX7_breakerFor_7 rfl rfl ?_
  refine J_iload_n 2 dX7_breakerFor_8 rfl rfl ?_
  obtain ⟨g6, H⟩ := gd H
  obtain ⟨h7, e5, H⟩ := bd H
  refine J_cV (as := [.ref v1, .int v2]) 6 YX7_factsOfPart 2 dX7_breakerFor_9 moX7_factsOfPart mvX7_factsOfPart mlX7_164 g6 rfl rfl (okX7_factsOfPart (d := d + 2) e5) rfl rfl [] rfl rfl (st2 := []) rfl ?_
  refine J_aload_n 3 dX7_breakerFor_12 rfl rfl ?_
  refine J_aload_n 0 dX7_breakerFor_13 rfl rfl ?_
  obtain ⟨g8, H⟩ := gd H
  refine J_gP 6 15 dX7_breakerFor_14 g8 flX7_76 rfl rfl ?_
  obtain ⟨g10, H⟩ := gd H
  obtain ⟨h11, e9, H⟩ := bd H
  refine J_cV (as := [.ref (gP h7 v0 15)]) 8 YX9_weigh 1 dX7_breakerFor_17 moX9_weigh mvX9_weigh mlX7_178 g10 rfl rfl (okX9_weigh (d := d) e9) rfl rfl [] rfl rfl (st2 := []) rfl ?_
  refine J_aload_n 0 dX7_breakerFor_20 rfl rfl ?_
  obtain ⟨g12, H⟩ := gd H
  refine J_gP 6 14 dX7_breakerFor_21 g12 flX7_72 rfl rfl ?_
  refine J_aload_n 3 dX7_breakerFor_24 rfl rfl ?_
  obtain ⟨g14, H⟩ := gd H
  obtain ⟨h15, e13, H⟩ := bd H
  refine J_cV (as := [.ref t4]) 0 YX0_loadRules 1 dX7_breakerFor_25 moX0_loadRules mvX0_loadRules mlX7_182 g14 rfl rfl (okX0_loadRules (d := d + 1) e13) rfl rfl [] rfl rfl (st2 := []) rfl ?_
  refine J_aload_n 0 dX7_breakerFor_28 rfl rfl ?_
  obtain ⟨g16, H⟩ := gd H
  refine J_gP 6 14 dX7_breakerFor_29 g16 flX7_72 rfl rfl ?_
  refine J_aload_n 1 dX7_breakerFor_32 rfl rfl ?_
  refine J_aload_n 0 dX7_breakerFor_33 rfl rfl ?_
  refine J_gP 6 1 dX7_breakerFor_34 g16 flX7_15 rfl rfl ?_
  obtain ⟨g18, H⟩ := gd H
  obtain ⟨h19, e17, H⟩ := bd H
  refine J_cV (as := [.ref v1, .ref (gP h15 v0 1)]) 0 YX0_loadCopy 2 dX7_breakerFor_37 moX0_loadCopy mvX0_loadCopy mlX7_185 g18 rfl rfl (okX0_loadCopy (d := d + 1) e17) rfl rfl [] rfl rfl (st2 := []) rfl ?_
  refine J_aload_n 0 dX7_breakerFor_40 rfl rfl ?_
  obtain ⟨g20, H⟩ := gd H
  refine J_gP 6 14 dX7_breakerFor_41 g20 flX7_72 rfl rfl ?_
  cases H
  exact J_aret dX7_breakerFor_44 rfl (Or.inl ⟨_, rfl⟩)
theorem okX7_breakerFor {d : Nat} {h : Hp} {v0 : Nat} {v1 : Nat} {v2 : Int32} {r : Nat} {h9 : Hp} (H : MX7_breakerFor h v0 v1 v2 = some (r, h9)) : CT (d + 3) YX7_breakerFor [.ref v0, .ref v1, .int v2] h (oA r) h9 := CT_of (by decide +kernel) (Nat.le_of_ble_eq_true rfl) (eX7_breakerFor H)
noncomputable def MX7_setPart (h : Hp) (v0 : Nat) (v1 : Nat) : Option (Int32 × Hp) :=
  gg (β := (Int32 × Hp)) (kd h v0 = 6) <|
  b2 (α := Nat) (β := Hp) (γ := (Int32 × Hp)) (MX7_breakerFor h v0 v1 (gI h v0 0)) fun (t4 : Nat) (h3 : Hp) =>
  gg (β := (Int32 × Hp)) (kd h3 t4 = 0) <|
  b2 (α := Int32) (β := Hp) (γ := (Int32 × Hp)) (MX0_solve h3 t4 (0 : Int32)) fun (t8 : Int32) (h7 : Hp) =>
  if t8 = (-1 : Int32) then
    some ((0 : Int32), h7)
  else
    gg (β := (Int32 × Hp)) (kd h7 v0 = 6) <|
    gg (β := (Int32 × Hp)) (kd h7 (gP h7 v0 14) = 0) <|
    Option.bind (α := Hp) (β := (Int32 × Hp)) (MX0_putLines h7 (gP h7 v0 14) v1 (0 : Int32) (0 : Int32)) fun (h13 : Hp) =>
    gg (β := (Int32 × Hp)) (kd h13 v1 = 4) <|
    lt (α := Hp) (β := Option (Int32 × Hp)) (sI h13 v1 11 (1 : Int32)) fun (h15 : Hp) =>
    some ((1 : Int32), h15)
set_option maxRecDepth 100000 in
set_option maxHeartbeats 8000000 in
theorem eX7_setPart {d : Nat} {h : Hp} {v0 : Nat} {v1 : Nat} {r : Int32} {h9 : Hp} (H : MX7_setPart h v0 v1 = some (r, h9)) : J (d + 4) YX7_setPart 0 [.ref v0, .ref v1] [] h (oI r) h9 := by
  unfold MX7_setPart at H
  refine J_aload_n 0 dX7_setPart_0 rfl rfl ?_
  refine J_aload_n 1 dX7_setPart_1 rfl rfl ?_
  refine J_aload_n 0 dX7_setPart_2 rfl rfl ?_
  obtain ⟨g1, H⟩ := gd H
  refine J_getI 6 0 dX7_setPart_3 g1 flX7_9 rfl ?_
  obtain ⟨t4, h3, e2, H⟩ := b2_el H
  refine J_cV (as := [.ref v1, .int (gI h v0 0)]) 6 YX7_breakerFor 2 dX7_setPart_6 moX7_breakerFor mvX7_breakerFor mlX7_256 g1 rfl rfl (okX7_breakerFor (d := d) e2) rfl rfl [] rfl rfl (st2 := [.ref t4]) rfl ?_
  refine J_iconst (0 : Int32) dX7_setPart_9 kc_0 ?_
  obtain ⟨g6, H⟩ := gd H
  obtain ⟨t8, h7, e5, H⟩ := b2_el H
  refine J_cV (as := [.int (0 : Int32)]) 0 YX0_solve 1 dX7_setPart_10 moX0_solve mvX0_solve mlX7_260 g6 rfl rfl (okX0_solve (d := d) e5) rfl rfl [] rfl rfl (st2 := [.int t8]) rfl ?_
  refine J_iconst (-1 : Int32) dX7_setPart_13 kc_m1 ?_
  refine J_icmp_ne 19 dX7_setPart_14 rfl (fun q9 => ?_) (fun q9 => ?_)
  · replace H := br0 q9 H
    refine J_aload_n 0 dX7_setPart_19 rfl rfl ?_
    obtain ⟨g10, H⟩ := gd H
    refine J_gP 6 14 dX7_setPart_20 g10 flX7_72 rfl rfl ?_
    refine J_aload_n 1 dX7_setPart_23 rfl rfl ?_
    refine J_iconst (0 : Int32) dX7_setPart_24 kc_0 ?_
    refine J_iconst (0 : Int32) dX7_setPart_25 kc_0 ?_
    obtain ⟨g12, H⟩ := gd H
    obtain ⟨h13, e11, H⟩ := bd H
    refine J_cV (as := [.ref v1, .int (0 : Int32), .int (0 : Int32)]) 0 YX0_putLines 3 dX7_setPart_26 moX0_putLines mvX0_putLines mlX7_263 g12 rfl rfl (okX0_putLines (d := d + 3) e11) rfl rfl [] rfl rfl (st2 := []) rfl ?_
    refine J_aload_n 1 dX7_setPart_29 rfl rfl ?_
    refine J_iconst (1 : Int32) dX7_setPart_30 kc_1 ?_
    obtain ⟨g14, H⟩ := gd H
    obtain ⟨h15, e16, H⟩ := lt_el H
    refine J_pZ 4 11 dX7_setPart_31 g14 flX7_212 rfl rfl rfl e16 ?_
    have c17 := ekI e16
    have c18 := elI e16
    have c19 := epI e16
    refine J_iconst (1 : Int32) dX7_setPart_34 kc_1 ?_
    cases H
    exact J_rZ dX7_setPart_35 rfl rfl
  · replace H := br1 q9 H
    refine J_iconst (0 : Int32) dX7_setPart_17 kc_0 ?_
    cases H
    exact J_rZ dX7_setPart_18 rfl rfl
theorem okX7_setPart {d : Nat} {h : Hp} {v0 : Nat} {v1 : Nat} {r : Int32} {h9 : Hp} (H : MX7_setPart h v0 v1 = some (r, h9)) : CT (d + 4) YX7_setPart [.ref v0, .ref v1] h (oI r) h9 := CT_of (by decide +kernel) (Nat.le_of_ble_eq_true rfl) (eX7_setPart H)
noncomputable def MX7_work_30 (h : Hp) (v2 : Nat) : Option Hp :=
  gg (β := Hp) (kd h v2 = 3) <|
  Option.bind (α := Hp) (β := Hp) (MX4_spike h v2) fun (h10 : Hp) =>
  some h10
set_option maxRecDepth 100000 in
set_option maxHeartbeats 8000000 in
theorem kX7_work_30 {d : Nat} {h : Hp} {v2 : Nat} {h9 : Hp} (H : MX7_work_30 h v2 = some h9) : J (d + 5) YX7_work 30 [Value.null, Value.null, .ref v2, Value.null] [] h oV h9 := by
  unfold MX7_work_30 at H
  refine J_aload_n 2 dX7_work_30 rfl rfl ?_
  obtain ⟨g9, H⟩ := gd H
  obtain ⟨h10, e8, H⟩ := bd H
  refine J_cV (as := []) 3 YX4_spike 0 dX7_work_31 moX4_spike mvX4_spike mlX7_219 g9 rfl rfl (okX4_spike (d := d + 3) e8) rfl rfl [] rfl rfl (st2 := []) rfl ?_
  cases H
  exact J_ret dX7_work_34 rfl
noncomputable def MX7_work_127 (h : Hp) (v2 : Nat) : Option Hp :=
  gg (β := Hp) (kd h v2 = 3) <|
  lt (α := Hp) (β := Option Hp) (sI h v2 5 ((gI h v2 5) + (1 : Int32))) fun (h33 : Hp) =>
  some h33
set_option maxRecDepth 100000 in
set_option maxHeartbeats 8000000 in
theorem kX7_work_127 {d : Nat} {h : Hp} {v2 : Nat} {h9 : Hp} (H : MX7_work_127 h v2 = some h9) : J (d + 5) YX7_work 127 [Value.null, Value.null, .ref v2, Value.null] [] h oV h9 := by
  unfold MX7_work_127 at H
  refine J_aload_n 2 dX7_work_127 rfl rfl ?_
  refine J_dup dX7_work_128 rfl ?_
  obtain ⟨g32, H⟩ := gd H
  refine J_getI 3 5 dX7_work_129 g32 flX7_249 rfl ?_
  refine J_iconst (1 : Int32) dX7_work_132 kc_1 ?_
  refine J_iadd dX7_work_133 ?_
  obtain ⟨h33, e34, H⟩ := lt_el H
  refine J_pI 3 5 dX7_work_134 g32 flX7_249 rfl rfl e34 ?_
  have c35 := ekI e34
  have c36 := elI e34
  have c37 := epI e34
  cases H
  exact J_ret dX7_work_137 rfl
noncomputable def MX7_work_55 (h : Hp) (v0 : Nat) (v1 : Int32) (v2 : Nat) (v3 : Nat) : Option Hp :=
  gg (β := Hp) (kd h v2 = 3) <|
  gg (β := Hp) (kd h (gP h v2 8) = 20) <|
  gg (β := Hp) (inB (0 : Int32) (ln h (gP h v2 8)) = true) <|
  gg (β := Hp) (kd h v0 = 6) <|
  Option.bind (α := Hp) (β := Hp) (MX7_countNeed h v0 v3 (gI h (gP h v2 8) (0 : Int32).toNatClampNeg)) fun (h22 : Hp) =>
  gg (β := Hp) (kd h22 v0 = 6) <|
  gg (β := Hp) (kd h22 v2 = 3) <|
  Option.bind (α := Int32) (β := Hp) (MX4_cannotCast h22 v2 (gP h22 v0 17)) fun (t26 : Int32) =>
  if t26 = 0 then
    Option.bind (α := Hp) (β := Hp) (MX7_countOut h22 v0 v1 ((gI h22 v0 0) - (gI h22 v2 1)) ((gI h22 v0 0) - (1 : Int32))) fun (h29 : Hp) =>
    gg (β := Hp) (kd h29 v0 = 6) <|
    if (300 : Int32) ≤ (gI h29 v0 11) then
      MX7_work_127 h29 v2
    else
      gg (β := Hp) (kd h29 v2 = 3) <|
      Option.bind (α := Int32) (β := Hp) (MX4_isShort h29 v2 (gP h29 v0 17) (gP h29 v0 16)) fun (t40 : Int32) =>
      if t40 = 0 then
        Option.bind (α := Hp) (β := Hp) (MX7_castLine h29 v0 v1 v2 v3) fun (h43 : Hp) =>
        some h43
      else
        MX7_work_127 h29 v2
  else
    Option.bind (α := Hp) (β := Hp) (MX4_spike h22 v2) fun (h45 : Hp) =>
    some h45
set_option maxRecDepth 100000 in
set_option maxHeartbeats 8000000 in
theorem kX7_work_55 {d : Nat} {h : Hp} {v0 : Nat} {v1 : Int32} {v2 : Nat} {v3 : Nat} {h9 : Hp} (H : MX7_work_55 h v0 v1 v2 v3 = some h9) : J (d + 5) YX7_work 55 [.ref v0, .int v1, .ref v2, .ref v3] [] h oV h9 := by
  unfold MX7_work_55 at H
  refine J_aload_n 0 dX7_work_55 rfl rfl ?_
  refine J_aload_n 3 dX7_work_56 rfl rfl ?_
  refine J_aload_n 2 dX7_work_57 rfl rfl ?_
  obtain ⟨g17, H⟩ := gd H
  refine J_gP 3 8 dX7_work_58 g17 flX7_228 rfl rfl ?_
  refine J_iconst (0 : Int32) dX7_work_61 kc_0 ?_
  obtain ⟨g18, H⟩ := gd H
  obtain ⟨g19, H⟩ := gd H
  refine J_iald dX7_work_62 g18 (inB_ok g19) ?_
  obtain ⟨g21, H⟩ := gd H
  obtain ⟨h22, e20, H⟩ := bd H
  refine J_cV (as := [.ref v3, .int (gI h (gP h v2 8) (0 : Int32).toNatClampNeg)]) 6 YX7_countNeed 2 dX7_work_63 moX7_countNeed mvX7_countNeed mlX7_231 g21 rfl rfl (okX7_countNeed (d := d + 2) e20) rfl rfl [] rfl rfl (st2 := []) rfl ?_
  refine J_aload_n 2 dX7_work_66 rfl rfl ?_
  refine J_aload_n 0 dX7_work_67 rfl rfl ?_
  obtain ⟨g23, H⟩ := gd H
  refine J_gP 6 17 dX7_work_68 g23 flX7_82 rfl rfl ?_
  obtain ⟨g25, H⟩ := gd H
  obtain ⟨t26, e24, H⟩ := bd H
  refine J_cV (as := [.ref (gP h22 v0 17)]) 3 YX4_cannotCast 1 dX7_work_71 moX4_cannotCast mvX4_cannotCast mlX7_234 g25 rfl rfl (okX4_cannotCast (d := d + 4) e24) rfl rfl [] rfl rfl (st2 := [.int t26]) rfl ?_
  refine J_if_eq 82 dX7_work_74 rfl (fun q27 => ?_) (fun q27 => ?_)
  · replace H := br1 q27 H
    refine J_aload_n 0 dX7_work_82 rfl rfl ?_
    refine J_iload_n 1 dX7_work_83 rfl rfl ?_
    refine J_aload_n 0 dX7_work_84 rfl rfl ?_
    refine J_getI 6 0 dX7_work_85 g23 flX7_9 rfl ?_
    refine J_aload_n 2 dX7_work_88 rfl rfl ?_
    refine J_getI 3 1 dX7_work_89 g25 flX7_238 rfl ?_
    refine J_isub dX7_work_92 ?_
    refine J_aload_n 0 dX7_work_93 rfl rfl ?_
    refine J_getI 6 0 dX7_work_94 g23 flX7_9 rfl ?_
    refine J_iconst (1 : Int32) dX7_work_97 kc_1 ?_
    refine J_isub dX7_work_98 ?_
    obtain ⟨h29, e28, H⟩ := bd H
    refine J_cV (as := [.int v1, .int ((gI h22 v0 0) - (gI h22 v2 1)), .int ((gI h22 v0 0) - (1 : Int32))]) 6 YX7_countOut 3 dX7_work_99 moX7_countOut mvX7_countOut mlX7_241 g23 rfl rfl (okX7_countOut (d := d + 2) e28) rfl rfl [] rfl rfl (st2 := []) rfl ?_
    refine J_aload_n 0 dX7_work_102 rfl rfl ?_
    obtain ⟨g30, H⟩ := gd H
    refine J_getI 6 11 dX7_work_103 g30 flX7_60 rfl ?_
    refine J_sipush (300 : Int32) dX7_work_106 ks_300 ?_
    refine J_icmp_ge 127 dX7_work_109 rfl (fun q31 => ?_) (fun q31 => ?_)
    · replace H := br1 q31 H
      exact J_dr (kX7_work_127 H ) ⟨rfl, trivial⟩
    · replace H := br0 q31 H
      refine J_aload_n 2 dX7_work_112 rfl rfl ?_
      refine J_aload_n 0 dX7_work_113 rfl rfl ?_
      refine J_gP 6 17 dX7_work_114 g30 flX7_82 rfl rfl ?_
      refine J_aload_n 0 dX7_work_117 rfl rfl ?_
      refine J_gP 6 16 dX7_work_118 g30 flX7_79 rfl rfl ?_
      obtain ⟨g39, H⟩ := gd H
      obtain ⟨t40, e38, H⟩ := bd H
      refine J_cV (as := [.ref (gP h29 v0 17), .ref (gP h29 v0 16)]) 3 YX4_isShort 2 dX7_work_121 moX4_isShort mvX4_isShort mlX7_245 g39 rfl rfl (okX4_isShort (d := d + 4) e38) rfl rfl [] rfl rfl (st2 := [.int t40]) rfl ?_
      refine J_if_eq 138 dX7_work_124 rfl (fun q41 => ?_) (fun q41 => ?_)
      · replace H := br1 q41 H
        refine J_aload_n 0 dX7_work_138 rfl rfl ?_
        refine J_iload_n 1 dX7_work_139 rfl rfl ?_
        refine J_aload_n 2 dX7_work_140 rfl rfl ?_
        refine J_aload_n 3 dX7_work_141 rfl rfl ?_
        obtain ⟨h43, e42, H⟩ := bd H
        refine J_cV (as := [.int v1, .ref v2, .ref v3]) 6 YX7_castLine 3 dX7_work_142 moX7_castLine mvX7_castLine mlX7_252 g30 rfl rfl (okX7_castLine (d := d + 1) e42) rfl rfl [] rfl rfl (st2 := []) rfl ?_
        cases H
        exact J_ret dX7_work_145 rfl
      · replace H := br0 q41 H
        exact J_dr (kX7_work_127 H ) ⟨rfl, trivial⟩
  · replace H := br0 q27 H
    refine J_aload_n 2 dX7_work_77 rfl rfl ?_
    obtain ⟨h45, e44, H⟩ := bd H
    refine J_cV (as := []) 3 YX4_spike 0 dX7_work_78 moX4_spike mvX4_spike mlX7_219 g25 rfl rfl (okX4_spike (d := d + 3) e44) rfl rfl [] rfl rfl (st2 := []) rfl ?_
    cases H
    exact J_ret dX7_work_81 rfl
noncomputable def MX7_work_35 (h : Hp) (v0 : Nat) (v1 : Int32) (v2 : Nat) (v3 : Nat) : Option Hp :=
  gg (β := Hp) (kd h v2 = 3) <|
  gg (β := Hp) (kd h (gP h v2 9) = 20) <|
  gg (β := Hp) (inB (0 : Int32) (ln h (gP h v2 9)) = true) <|
  if (gI h (gP h v2 9) (0 : Int32).toNatClampNeg) = (-1 : Int32) then
    gg (β := Hp) (kd h v3 = 4) <|
    lt (α := Hp) (β := Option Hp) (sI h (gP h v2 9) (0 : Int32).toNatClampNeg (gI h v3 9)) fun (h47 : Hp) =>
    MX7_work_55 h47 v0 v1 v2 v3
  else
    MX7_work_55 h v0 v1 v2 v3
set_option maxRecDepth 100000 in
set_option maxHeartbeats 8000000 in
theorem kX7_work_35 {d : Nat} {h : Hp} {v0 : Nat} {v1 : Int32} {v2 : Nat} {v3 : Nat} {h9 : Hp} (H : MX7_work_35 h v0 v1 v2 v3 = some h9) : J (d + 5) YX7_work 35 [.ref v0, .int v1, .ref v2, .ref v3] [] h oV h9 := by
  unfold MX7_work_35 at H
  refine J_aload_n 2 dX7_work_35 rfl rfl ?_
  obtain ⟨g13, H⟩ := gd H
  refine J_gP 3 9 dX7_work_36 g13 flX7_222 rfl rfl ?_
  refine J_iconst (0 : Int32) dX7_work_39 kc_0 ?_
  obtain ⟨g14, H⟩ := gd H
  obtain ⟨g15, H⟩ := gd H
  refine J_iald dX7_work_40 g14 (inB_ok g15) ?_
  refine J_iconst (-1 : Int32) dX7_work_41 kc_m1 ?_
  refine J_icmp_ne 55 dX7_work_42 rfl (fun q16 => ?_) (fun q16 => ?_)
  · replace H := br0 q16 H
    exact J_dr (kX7_work_55 H ) ⟨rfl, ⟨rfl, ⟨rfl, ⟨rfl, trivial⟩⟩⟩⟩
  · replace H := br1 q16 H
    refine J_aload_n 2 dX7_work_45 rfl rfl ?_
    refine J_gP 3 9 dX7_work_46 g13 flX7_222 rfl rfl ?_
    refine J_iconst (0 : Int32) dX7_work_49 kc_0 ?_
    refine J_aload_n 3 dX7_work_50 rfl rfl ?_
    obtain ⟨g46, H⟩ := gd H
    refine J_getI 4 9 dX7_work_51 g46 flX7_225 rfl ?_
    obtain ⟨h47, e48, H⟩ := lt_el H
    refine J_sI dX7_work_54 g14 (inB_ok g15) e48 ?_
    have c49 := ekI e48
    have c50 := elI e48
    have c51 := epI e48
    exact J_dr (kX7_work_55 H ) ⟨rfl, ⟨rfl, ⟨rfl, ⟨rfl, trivial⟩⟩⟩⟩
noncomputable def MX7_work (h : Hp) (v0 : Nat) (v1 : Int32) (v2 : Nat) : Option Hp :=
  gg (β := Hp) (kd h v2 = 3) <|
  gg (β := Hp) (kd h (gP h v2 7) = 20) <|
  gg (β := Hp) (inB (0 : Int32) (ln h (gP h v2 7)) = true) <|
  gg (β := Hp) (kd h v0 = 6) <|
  Option.bind (α := Nat) (β := Hp) (MX7_findPart h v0 (gI h (gP h v2 7) (0 : Int32).toNatClampNeg)) fun (t6 : Nat) =>
  if t6 = 0 then
    MX7_work_30 h v2
  else
    gg (β := Hp) (kd h t6 = 4) <|
    if (gI h t6 11) = 0 then
      b2 (α := Int32) (β := Hp) (γ := Hp) (MX7_setPart h v0 t6) fun (t54 : Int32) (h53 : Hp) =>
      if t54 = 0 then
        MX7_work_30 h53 v2
      else
        MX7_work_35 h53 v0 v1 v2 t6
    else
      MX7_work_35 h v0 v1 v2 t6
set_option maxRecDepth 100000 in
set_option maxHeartbeats 8000000 in
theorem eX7_work {d : Nat} {h : Hp} {v0 : Nat} {v1 : Int32} {v2 : Nat} {h9 : Hp} (H : MX7_work h v0 v1 v2 = some h9) : J (d + 5) YX7_work 0 [.ref v0, .int v1, .ref v2, Value.null] [] h oV h9 := by
  unfold MX7_work at H
  refine J_aload_n 0 dX7_work_0 rfl rfl ?_
  refine J_aload_n 2 dX7_work_1 rfl rfl ?_
  obtain ⟨g1, H⟩ := gd H
  refine J_gP 3 7 dX7_work_2 g1 flX7_209 rfl rfl ?_
  refine J_iconst (0 : Int32) dX7_work_5 kc_0 ?_
  obtain ⟨g2, H⟩ := gd H
  obtain ⟨g3, H⟩ := gd H
  refine J_iald dX7_work_6 g2 (inB_ok g3) ?_
  obtain ⟨g5, H⟩ := gd H
  obtain ⟨t6, e4, H⟩ := bd H
  refine J_cV (as := [.int (gI h (gP h v2 7) (0 : Int32).toNatClampNeg)]) 6 YX7_findPart 1 dX7_work_7 moX7_findPart mvX7_findPart mlX7_120 g5 rfl rfl (okX7_findPart (d := d + 4) e4) rfl rfl [] rfl rfl (st2 := [.ref t6]) rfl ?_
  refine J_astore_n 3 dX7_work_10 rfl (by decide) (ls' := [.ref v0, .int v1, .ref v2, .ref t6]) rfl ?_
  refine J_aload_n 3 dX7_work_11 rfl rfl ?_
  refine J_ifnull 30 dX7_work_12 rfl (fun q7 => ?_) (fun q7 => ?_)
  · replace H := br1 q7 H
    exact J_dr (kX7_work_30 H ) ⟨rfl, trivial⟩
  · replace H := br0 q7 H
    refine J_aload_n 3 dX7_work_15 rfl rfl ?_
    obtain ⟨g11, H⟩ := gd H
    refine J_getI 4 11 dX7_work_16 g11 flX7_212 rfl ?_
    refine J_if_ne 35 dX7_work_19 rfl (fun q12 => ?_) (fun q12 => ?_)
    · replace H := br0 q12 H
      exact J_dr (kX7_work_35 H ) ⟨rfl, ⟨rfl, ⟨rfl, ⟨rfl, trivial⟩⟩⟩⟩
    · replace H := br1 q12 H
      refine J_aload_n 0 dX7_work_22 rfl rfl ?_
      refine J_aload_n 3 dX7_work_23 rfl rfl ?_
      obtain ⟨t54, h53, e52, H⟩ := b2_el H
      refine J_cV (as := [.ref t6]) 6 YX7_setPart 1 dX7_work_24 moX7_setPart mvX7_setPart mlX7_215 g5 rfl rfl (okX7_setPart (d := d) e52) rfl rfl [] rfl rfl (st2 := [.int t54]) rfl ?_
      refine J_if_ne 35 dX7_work_27 rfl (fun q55 => ?_) (fun q55 => ?_)
      · replace H := br0 q55 H
        exact J_dr (kX7_work_35 H ) ⟨rfl, ⟨rfl, ⟨rfl, ⟨rfl, trivial⟩⟩⟩⟩
      · replace H := br1 q55 H
        exact J_dr (kX7_work_30 H ) ⟨rfl, trivial⟩
theorem okX7_work {d : Nat} {h : Hp} {v0 : Nat} {v1 : Int32} {v2 : Nat} {h9 : Hp} (H : MX7_work h v0 v1 v2 = some h9) : CT (d + 5) YX7_work [.ref v0, .int v1, .ref v2] h oV h9 := CT_of (by decide +kernel) (Nat.le_of_ble_eq_true rfl) (eX7_work H)
noncomputable def BX7_passMinute_55 (h : Hp) (v0 : Nat) (v2 : Int32) : Option ((Int32 × Hp) ⊕ Hp) :=
  gg (β := ((Int32 × Hp) ⊕ Hp)) (kd h v0 = 6) <|
  if (gI h v0 9) ≤ v2 then
    some (.inr (h))
  else
    b2 (α := Nat) (β := Hp) (γ := ((Int32 × Hp) ⊕ Hp)) (MX7_ownMachine h v0 v2) fun (t14 : Nat) (h13 : Hp) =>
    gg (β := ((Int32 × Hp) ⊕ Hp)) (kd h13 t14 = 3) <|
    if (gI h13 t14 2) = 0 then
      if (gI h13 t14 3) ≤ 0 then
        some (.inl ((v2 + (1 : Int32)), h13))
      else
        gg (β := ((Int32 × Hp) ⊕ Hp)) (kd h13 v0 = 6) <|
        Option.bind (α := Hp) (β := ((Int32 × Hp) ⊕ Hp)) (MX7_work h13 v0 v2 t14) fun (h20 : Hp) =>
        some (.inl ((v2 + (1 : Int32)), h20))
    else
      some (.inl ((v2 + (1 : Int32)), h13))
set_option maxRecDepth 100000 in
set_option maxHeartbeats 8000000 in
theorem bX7_passMinute_55 {d : Nat} {h : Hp} {v0 : Nat} {v2 : Int32} {h9 : Hp} {x : ((Int32 × Hp) ⊕ Hp)} (H : BX7_passMinute_55 h v0 v2 = some x) (hb0 : ∀ s : Int32 × Hp, x = .inl s → J (d + 6) YX7_passMinute 55 [.ref v0, Value.null, .int s.1, Value.null] [] s.2 oV h9) (hx : ∀ z : Hp, x = .inr (z) → z = h9) : J (d + 6) YX7_passMinute 55 [.ref v0, Value.null, .int v2, Value.null] [] h oV h9 := by
  unfold BX7_passMinute_55 at H
  refine J_iload_n 2 dX7_passMinute_55 rfl rfl ?_
  refine J_aload_n 0 dX7_passMinute_56 rfl rfl ?_
  obtain ⟨g10, H⟩ := gd H
  refine J_getI 6 9 dX7_passMinute_57 g10 flX7_51 rfl ?_
  refine J_icmp_ge 95 dX7_passMinute_60 rfl (fun q11 => ?_) (fun q11 => ?_)
  · replace H := br1 q11 H
    cases H
    cases hx _ rfl
    exact J_ret dX7_passMinute_95 rfl
  · replace H := br0 q11 H
    refine J_aload_n 0 dX7_passMinute_63 rfl rfl ?_
    refine J_iload_n 2 dX7_passMinute_64 rfl rfl ?_
    obtain ⟨t14, h13, e12, H⟩ := b2_el H
    refine J_cV (as := [.int v2]) 6 YX7_ownMachine 1 dX7_passMinute_65 moX7_ownMachine mvX7_ownMachine mlX7_106 g10 rfl rfl (okX7_ownMachine (d := d + 4) e12) rfl rfl [] rfl rfl (st2 := [.ref t14]) rfl ?_
    refine J_astore_n 3 dX7_passMinute_68 rfl (by decide) (ls' := [.ref v0, Value.null, .int v2, .ref t14]) rfl ?_
    refine J_aload_n 3 dX7_passMinute_69 rfl rfl ?_
    obtain ⟨g15, H⟩ := gd H
    refine J_getI 3 2 dX7_passMinute_70 g15 flX7_199 rfl ?_
    refine J_if_ne 89 dX7_passMinute_73 rfl (fun q16 => ?_) (fun q16 => ?_)
    · replace H := br0 q16 H
      refine J_iinc (v2 + (1 : Int32)) dX7_passMinute_89 rfl (congrArg (HAdd.hAdd v2) kc_1) (by decide) (ls' := [.ref v0, Value.null, .int (v2 + (1 : Int32)), .ref t14]) rfl ?_
      refine J_goto 55 dX7_passMinute_92 rfl ?_
      cases H
      exact J_dr (hb0 _ rfl) ⟨rfl, ⟨rfl, trivial⟩⟩
    · replace H := br1 q16 H
      refine J_aload_n 3 dX7_passMinute_76 rfl rfl ?_
      refine J_getI 3 3 dX7_passMinute_77 g15 flX7_202 rfl ?_
      refine J_if_le 89 dX7_passMinute_80 rfl (fun q17 => ?_) (fun q17 => ?_)
      · replace H := br1 q17 H
        refine J_iinc (v2 + (1 : Int32)) dX7_passMinute_89 rfl (congrArg (HAdd.hAdd v2) kc_1) (by decide) (ls' := [.ref v0, Value.null, .int (v2 + (1 : Int32)), .ref t14]) rfl ?_
        refine J_goto 55 dX7_passMinute_92 rfl ?_
        cases H
        exact J_dr (hb0 _ rfl) ⟨rfl, ⟨rfl, trivial⟩⟩
      · replace H := br0 q17 H
        refine J_aload_n 0 dX7_passMinute_83 rfl rfl ?_
        refine J_iload_n 2 dX7_passMinute_84 rfl rfl ?_
        refine J_aload_n 3 dX7_passMinute_85 rfl rfl ?_
        obtain ⟨g19, H⟩ := gd H
        obtain ⟨h20, e18, H⟩ := bd H
        refine J_cV (as := [.int v2, .ref t14]) 6 YX7_work 2 dX7_passMinute_86 moX7_work mvX7_work mlX7_205 g19 rfl rfl (okX7_work (d := d) e18) rfl rfl [] rfl rfl (st2 := []) rfl ?_
        refine J_iinc (v2 + (1 : Int32)) dX7_passMinute_89 rfl (congrArg (HAdd.hAdd v2) kc_1) (by decide) (ls' := [.ref v0, Value.null, .int (v2 + (1 : Int32)), .ref t14]) rfl ?_
        refine J_goto 55 dX7_passMinute_92 rfl ?_
        cases H
        exact J_dr (hb0 _ rfl) ⟨rfl, ⟨rfl, trivial⟩⟩
noncomputable def MX7_passMinute_55 (h : Hp) (v0 : Nat) (v2 : Int32) : Option Hp := it (fun q : Int32 × Hp => BX7_passMinute_55 q.2 v0 q.1) (v2, h)
set_option maxRecDepth 100000 in
set_option maxHeartbeats 8000000 in
theorem kX7_passMinute_55 {d : Nat} {h : Hp} {v0 : Nat} {v2 : Int32} {h9 : Hp} (H : MX7_passMinute_55 h v0 v2 = some h9) : J (d + 6) YX7_passMinute 55 [.ref v0, Value.null, .int v2, Value.null] [] h oV h9 := by
  unfold MX7_passMinute_55 at H
  refine it_J (G := (fun q : Int32 × Hp => J (d + 6) YX7_passMinute 55 [.ref v0, Value.null, .int q.1, Value.null] [] q.2 oV h9)) (Q := (fun y : Hp => y = h9)) (fun q x Hq hm => ?_) H rfl
  exact bX7_passMinute_55 Hq (fun s hs => by subst hs; exact hm) (fun z hz => by subst hz; exact hm)
noncomputable def MX7_passMinute_53 (h : Hp) (v0 : Nat) : Option Hp :=
  MX7_passMinute_55 h v0 (0 : Int32)
set_option maxRecDepth 100000 in
set_option maxHeartbeats 8000000 in
theorem kX7_passMinute_53 {d : Nat} {h : Hp} {v0 : Nat} {h9 : Hp} (H : MX7_passMinute_53 h v0 = some h9) : J (d + 6) YX7_passMinute 53 [.ref v0, Value.null, Value.null, Value.null] [] h oV h9 := by
  unfold MX7_passMinute_53 at H
  refine J_iconst (0 : Int32) dX7_passMinute_53 kc_0 ?_
  refine J_istore_n 2 dX7_passMinute_54 rfl (by decide) (ls' := [.ref v0, Value.null, .int (0 : Int32), Value.null]) rfl ?_
  exact J_dr (kX7_passMinute_55 H ) ⟨rfl, ⟨rfl, trivial⟩⟩
noncomputable def BX7_passMinute_24 (h : Hp) (v0 : Nat) (v1 : Int32) (v2 : Int32) : Option ((Int32 × Hp) ⊕ Hp) :=
  if (4 : Int32) ≤ v2 then
    up1 (MX7_passMinute_53 h v0)
  else
    gg (β := ((Int32 × Hp) ⊕ Hp)) (kd h v0 = 6) <|
    gg (β := ((Int32 × Hp) ⊕ Hp)) (kd h (gP h v0 12) = 20) <|
    gg (β := ((Int32 × Hp) ⊕ Hp)) (inB (v1 + v2) (ln h (gP h v0 12)) = true) <|
    lt (α := Hp) (β := Option ((Int32 × Hp) ⊕ Hp)) (sI h (gP h v0 12) (v1 + v2).toNatClampNeg (-1 : Int32)) fun (h24 : Hp) =>
    gg (β := ((Int32 × Hp) ⊕ Hp)) (kd h (gP h v0 13) = 20) <|
    gg (β := ((Int32 × Hp) ⊕ Hp)) (inB (v1 + v2) (ln h (gP h v0 13)) = true) <|
    lt (α := Hp) (β := Option ((Int32 × Hp) ⊕ Hp)) (sI h24 (gP h v0 13) (v1 + v2).toNatClampNeg (-1 : Int32)) fun (h31 : Hp) =>
    some (.inl ((v2 + (1 : Int32)), h31))
set_option maxRecDepth 100000 in
set_option maxHeartbeats 8000000 in
theorem bX7_passMinute_24 {d : Nat} {h : Hp} {v0 : Nat} {v1 : Int32} {v2 : Int32} {h9 : Hp} {x : ((Int32 × Hp) ⊕ Hp)} (H : BX7_passMinute_24 h v0 v1 v2 = some x) (hb0 : ∀ s : Int32 × Hp, x = .inl s → J (d + 6) YX7_passMinute 24 [.ref v0, .int v1, .int s.1, Value.null] [] s.2 oV h9) (hx : ∀ z : Hp, x = .inr (z) → z = h9) : J (d + 6) YX7_passMinute 24 [.ref v0, .int v1, .int v2, Value.null] [] h oV h9 := by
  unfold BX7_passMinute_24 at H
  refine J_iload_n 2 dX7_passMinute_24 rfl rfl ?_
  refine J_iconst (4 : Int32) dX7_passMinute_25 kc_4 ?_
  refine J_icmp_ge 53 dX7_passMinute_26 rfl (fun q9 => ?_) (fun q9 => ?_)
  · replace H := br1 q9 H
    obtain ⟨y0, H90, rfl⟩ := up1_el H
    replace H := H90
    obtain rfl := hx _ rfl
    exact J_dr (kX7_passMinute_53 H ) ⟨rfl, trivial⟩
  · replace H := br0 q9 H
    refine J_aload_n 0 dX7_passMinute_29 rfl rfl ?_
    obtain ⟨g21, H⟩ := gd H
    refine J_gP 6 12 dX7_passMinute_30 g21 flX7_63 rfl rfl ?_
    refine J_iload_n 1 dX7_passMinute_33 rfl rfl ?_
    refine J_iload_n 2 dX7_passMinute_34 rfl rfl ?_
    refine J_iadd dX7_passMinute_35 ?_
    refine J_iconst (-1 : Int32) dX7_passMinute_36 kc_m1 ?_
    obtain ⟨g22, H⟩ := gd H
    obtain ⟨g23, H⟩ := gd H
    obtain ⟨h24, e25, H⟩ := lt_el H
    refine J_sI dX7_passMinute_37 g22 (inB_ok g23) e25 ?_
    have c26 := ekI e25
    have c27 := elI e25
    have c28 := epI e25
    refine J_aload_n 0 dX7_passMinute_38 rfl rfl ?_
    refine J_gP 6 13 dX7_passMinute_39 (kq c26 g21) flX7_66 rfl (congrFun (congrFun c28 v0) 13) ?_
    refine J_iload_n 1 dX7_passMinute_42 rfl rfl ?_
    refine J_iload_n 2 dX7_passMinute_43 rfl rfl ?_
    refine J_iadd dX7_passMinute_44 ?_
    refine J_iconst (-1 : Int32) dX7_passMinute_45 kc_m1 ?_
    obtain ⟨g29, H⟩ := gd H
    obtain ⟨g30, H⟩ := gd H
    obtain ⟨h31, e32, H⟩ := lt_el H
    refine J_sI dX7_passMinute_46 (kq c26 g29) (lq c27 g30) e32 ?_
    have c33 := (ekI e32).trans c26
    have c34 := (elI e32).trans c27
    have c35 := (epI e32).trans c28
    refine J_iinc (v2 + (1 : Int32)) dX7_passMinute_47 rfl (congrArg (HAdd.hAdd v2) kc_1) (by decide) (ls' := [.ref v0, .int v1, .int (v2 + (1 : Int32)), Value.null]) rfl ?_
    refine J_goto 24 dX7_passMinute_50 rfl ?_
    cases H
    exact J_dr (hb0 _ rfl) ⟨rfl, ⟨rfl, ⟨rfl, trivial⟩⟩⟩
noncomputable def MX7_passMinute_24 (h : Hp) (v0 : Nat) (v1 : Int32) (v2 : Int32) : Option Hp := it (fun q : Int32 × Hp => BX7_passMinute_24 q.2 v0 v1 q.1) (v2, h)
set_option maxRecDepth 100000 in
set_option maxHeartbeats 8000000 in
theorem kX7_passMinute_24 {d : Nat} {h : Hp} {v0 : Nat} {v1 : Int32} {v2 : Int32} {h9 : Hp} (H : MX7_passMinute_24 h v0 v1 v2 = some h9) : J (d + 6) YX7_passMinute 24 [.ref v0, .int v1, .int v2, Value.null] [] h oV h9 := by
  unfold MX7_passMinute_24 at H
  refine it_J (G := (fun q : Int32 × Hp => J (d + 6) YX7_passMinute 24 [.ref v0, .int v1, .int q.1, Value.null] [] q.2 oV h9)) (Q := (fun y : Hp => y = h9)) (fun q x Hq hm => ?_) H rfl
  exact bX7_passMinute_24 Hq (fun s hs => by subst hs; exact hm) (fun z hz => by subst hz; exact hm)
noncomputable def MX7_passMinute (h : Hp) (v0 : Nat) : Option Hp :=
  gg (β := Hp) (kd h v0 = 6) <|
  lt (α := Hp) (β := Option Hp) (sI h v0 0 ((gI h v0 0) + (1 : Int32))) fun (h2 : Hp) =>
  lt (α := Int32) (β := Option Hp) ((((gI h2 v0 0) - (1 : Int32)) - ((gI h2 v0 0) - (1 : Int32)) / (8 : Int32) * (8 : Int32)) * (4 : Int32)) fun (w7 : Int32) =>
  MX7_passMinute_24 h2 v0 w7 (0 : Int32)
set_option maxRecDepth 100000 in
set_option maxHeartbeats 8000000 in
theorem eX7_passMinute {d : Nat} {h : Hp} {v0 : Nat} {h9 : Hp} (H : MX7_passMinute h v0 = some h9) : J (d + 6) YX7_passMinute 0 [.ref v0, Value.null, Value.null, Value.null] [] h oV h9 := by
  unfold MX7_passMinute at H
  refine J_aload_n 0 dX7_passMinute_0 rfl rfl ?_
  refine J_dup dX7_passMinute_1 rfl ?_
  obtain ⟨g1, H⟩ := gd H
  refine J_getI 6 0 dX7_passMinute_2 g1 flX7_9 rfl ?_
  refine J_iconst (1 : Int32) dX7_passMinute_5 kc_1 ?_
  refine J_iadd dX7_passMinute_6 ?_
  obtain ⟨h2, e3, H⟩ := lt_el H
  refine J_pI 6 0 dX7_passMinute_7 g1 flX7_9 rfl rfl e3 ?_
  have c4 := ekI e3
  have c5 := elI e3
  have c6 := epI e3
  refine J_aload_n 0 dX7_passMinute_10 rfl rfl ?_
  refine J_getI 6 0 dX7_passMinute_11 (kq c4 g1) flX7_9 rfl ?_
  refine J_iconst (1 : Int32) dX7_passMinute_14 kc_1 ?_
  refine J_isub dX7_passMinute_15 ?_
  refine J_bipush (8 : Int32) dX7_passMinute_16 kb_8 ?_
  refine J_irem dX7_passMinute_18 (by decide) ?_
  refine J_iconst (4 : Int32) dX7_passMinute_19 kc_4 ?_
  refine J_imul dX7_passMinute_20 ?_
  obtain ⟨w7, e8, H⟩ := lt_el H
  refine J_nmI e8 ?_
  refine J_istore_n 1 dX7_passMinute_21 rfl (by decide) (ls' := [.ref v0, .int w7, Value.null, Value.null]) rfl ?_
  refine J_iconst (0 : Int32) dX7_passMinute_22 kc_0 ?_
  refine J_istore_n 2 dX7_passMinute_23 rfl (by decide) (ls' := [.ref v0, .int w7, .int (0 : Int32), Value.null]) rfl ?_
  exact J_dr (kX7_passMinute_24 H ) ⟨rfl, ⟨rfl, ⟨rfl, trivial⟩⟩⟩
theorem okX7_passMinute {d : Nat} {h : Hp} {v0 : Nat} {h9 : Hp} (H : MX7_passMinute h v0 = some h9) : CT (d + 6) YX7_passMinute [.ref v0] h oV h9 := CT_of (by decide +kernel) (Nat.le_of_ble_eq_true rfl) (eX7_passMinute H)
noncomputable def BX11_copyFlags_2 (h : Hp) (v0 : Nat) (v1 : Nat) (v2 : Int32) : Option ((Int32 × Hp) ⊕ Hp) :=
  gg (β := ((Int32 × Hp) ⊕ Hp)) (kd h v0 = 22) <|
  if (nI (ln h v0)) ≤ v2 then
    some (.inr (h))
  else
    gg (β := ((Int32 × Hp) ⊕ Hp)) (kd h v1 = 22) <|
    if (nI (ln h v1)) ≤ v2 then
      some (.inr (h))
    else
      gg (β := ((Int32 × Hp) ⊕ Hp)) (inB v2 (ln h v0) = true) <|
      gg (β := ((Int32 × Hp) ⊕ Hp)) (inB v2 (ln h v1) = true) <|
      lt (α := Hp) (β := Option ((Int32 × Hp) ⊕ Hp)) (sI h v1 v2.toNatClampNeg (vp_nar .boolean (gI h v0 v2.toNatClampNeg))) fun (h7 : Hp) =>
      some (.inl ((v2 + (1 : Int32)), h7))
set_option maxRecDepth 100000 in
set_option maxHeartbeats 8000000 in
theorem bX11_copyFlags_2 {d : Nat} {h : Hp} {v0 : Nat} {v1 : Nat} {v2 : Int32} {h9 : Hp} {x : ((Int32 × Hp) ⊕ Hp)} (H : BX11_copyFlags_2 h v0 v1 v2 = some x) (hb0 : ∀ s : Int32 × Hp, x = .inl s → J (d) YX11_copyFlags 2 [.ref v0, .ref v1, .int s.1] [] s.2 oV h9) (hx : ∀ z : Hp, x = .inr (z) → z = h9) : J (d) YX11_copyFlags 2 [.ref v0, .ref v1, .int v2] [] h oV h9 := by
  unfold BX11_copyFlags_2 at H
  refine J_iload_n 2 dX11_copyFlags_2 rfl rfl ?_
  refine J_aload_n 0 dX11_copyFlags_3 rfl rfl ?_
  obtain ⟨g1, H⟩ := gd H
  refine J_len 22 dX11_copyFlags_4 g1 rfl ?_
  refine J_icmp_ge 26 dX11_copyFlags_5 rfl (fun q2 => ?_) (fun q2 => ?_)
  · replace H := br1 q2 H
    cases H
    cases hx _ rfl
    exact J_ret dX11_copyFlags_26 rfl
  · replace H := br0 q2 H
    refine J_iload_n 2 dX11_copyFlags_8 rfl rfl ?_
    refine J_aload_n 1 dX11_copyFlags_9 rfl rfl ?_
    obtain ⟨g3, H⟩ := gd H
    refine J_len 22 dX11_copyFlags_10 g3 rfl ?_
    refine J_icmp_ge 26 dX11_copyFlags_11 rfl (fun q4 => ?_) (fun q4 => ?_)
    · replace H := br1 q4 H
      cases H
      cases hx _ rfl
      exact J_ret dX11_copyFlags_26 rfl
    · replace H := br0 q4 H
      refine J_aload_n 1 dX11_copyFlags_14 rfl rfl ?_
      refine J_iload_n 2 dX11_copyFlags_15 rfl rfl ?_
      refine J_aload_n 0 dX11_copyFlags_16 rfl rfl ?_
      refine J_iload_n 2 dX11_copyFlags_17 rfl rfl ?_
      obtain ⟨g5, H⟩ := gd H
      refine J_zald dX11_copyFlags_18 g1 (inB_ok g5) ?_
      obtain ⟨g6, H⟩ := gd H
      obtain ⟨h7, e8, H⟩ := lt_el H
      refine J_sZ dX11_copyFlags_19 g3 (inB_ok g6) e8 ?_
      have c9 := ekI e8
      have c10 := elI e8
      have c11 := epI e8
      refine J_iinc (v2 + (1 : Int32)) dX11_copyFlags_20 rfl (congrArg (HAdd.hAdd v2) kc_1) (by decide) (ls' := [.ref v0, .ref v1, .int (v2 + (1 : Int32))]) rfl ?_
      refine J_goto 2 dX11_copyFlags_23 rfl ?_
      cases H
      exact J_dr (hb0 _ rfl) ⟨rfl, ⟨rfl, ⟨rfl, trivial⟩⟩⟩
noncomputable def MX11_copyFlags_2 (h : Hp) (v0 : Nat) (v1 : Nat) (v2 : Int32) : Option Hp := it (fun q : Int32 × Hp => BX11_copyFlags_2 q.2 v0 v1 q.1) (v2, h)
set_option maxRecDepth 100000 in
set_option maxHeartbeats 8000000 in
theorem kX11_copyFlags_2 {d : Nat} {h : Hp} {v0 : Nat} {v1 : Nat} {v2 : Int32} {h9 : Hp} (H : MX11_copyFlags_2 h v0 v1 v2 = some h9) : J (d) YX11_copyFlags 2 [.ref v0, .ref v1, .int v2] [] h oV h9 := by
  unfold MX11_copyFlags_2 at H
  refine it_J (G := (fun q : Int32 × Hp => J (d) YX11_copyFlags 2 [.ref v0, .ref v1, .int q.1] [] q.2 oV h9)) (Q := (fun y : Hp => y = h9)) (fun q x Hq hm => ?_) H rfl
  exact bX11_copyFlags_2 Hq (fun s hs => by subst hs; exact hm) (fun z hz => by subst hz; exact hm)
noncomputable def MX11_copyFlags (h : Hp) (v0 : Nat) (v1 : Nat) : Option Hp :=
  MX11_copyFlags_2 h v0 v1 (0 : Int32)
set_option maxRecDepth 100000 in
set_option maxHeartbeats 8000000 in
theorem eX11_copyFlags {d : Nat} {h : Hp} {v0 : Nat} {v1 : Nat} {h9 : Hp} (H : MX11_copyFlags h v0 v1 = some h9) : J (d) YX11_copyFlags 0 [.ref v0, .ref v1, Value.null] [] h oV h9 := by
  unfold MX11_copyFlags at H
  refine J_iconst (0 : Int32) dX11_copyFlags_0 kc_0 ?_
  refine J_istore_n 2 dX11_copyFlags_1 rfl (by decide) (ls' := [.ref v0, .ref v1, .int (0 : Int32)]) rfl ?_
  exact J_dr (kX11_copyFlags_2 H ) ⟨rfl, ⟨rfl, ⟨rfl, trivial⟩⟩⟩
theorem okX11_copyFlags {d : Nat} {h : Hp} {v0 : Nat} {v1 : Nat} {h9 : Hp} (H : MX11_copyFlags h v0 v1 = some h9) : CT (d) YX11_copyFlags [.ref v0, .ref v1] h oV h9 := CT_of (by decide +kernel) (Nat.le_of_ble_eq_true rfl) (eX11_copyFlags H)
noncomputable def MX4_takeAll (h : Hp) (v0 : Nat) (v1 : Nat) : Option Hp :=
  gg (β := Hp) (kd h v1 = 3) <|
  gg (β := Hp) (kd h v0 = 3) <|
  gg (β := Hp) (kd h (gP h v0 0) = 20) <|
  gg (β := Hp) (kd h (gP h v1 0) = 20) <|
  gg (β := Hp) (cpB (0 : Int32) (0 : Int32) (nI (ln h (gP h v0 0))) (ln h (gP h v1 0)) (ln h (gP h v0 0)) = true) <|
  lt (α := Hp) (β := Option Hp) (rI h (gP h v0 0) (va_cpy (gI h (gP h v1 0)) (gI h (gP h v0 0)) (0 : Int32).toNatClampNeg (0 : Int32).toNatClampNeg (nI (ln h (gP h v0 0))).toNatClampNeg)) fun (h6 : Hp) =>
  gg (β := Hp) (kd h (gP h v0 7) = 20) <|
  gg (β := Hp) (kd h (gP h v1 7) = 20) <|
  gg (β := Hp) (cpB (0 : Int32) (0 : Int32) (nI (ln h6 (gP h v0 7))) (ln h6 (gP h v1 7)) (ln h6 (gP h v0 7)) = true) <|
  lt (α := Hp) (β := Option Hp) (rI h6 (gP h v0 7) (va_cpy (gI h6 (gP h v1 7)) (gI h6 (gP h v0 7)) (0 : Int32).toNatClampNeg (0 : Int32).toNatClampNeg (nI (ln h6 (gP h v0 7))).toNatClampNeg)) fun (h14 : Hp) =>
  gg (β := Hp) (kd h (gP h v0 8) = 20) <|
  gg (β := Hp) (kd h (gP h v1 8) = 20) <|
  gg (β := Hp) (cpB (0 : Int32) (0 : Int32) (nI (ln h14 (gP h v0 8))) (ln h14 (gP h v1 8)) (ln h14 (gP h v0 8)) = true) <|
  lt (α := Hp) (β := Option Hp) (rI h14 (gP h v0 8) (va_cpy (gI h14 (gP h v1 8)) (gI h14 (gP h v0 8)) (0 : Int32).toNatClampNeg (0 : Int32).toNatClampNeg (nI (ln h14 (gP h v0 8))).toNatClampNeg)) fun (h22 : Hp) =>
  gg (β := Hp) (kd h (gP h v0 9) = 20) <|
  gg (β := Hp) (kd h (gP h v1 9) = 20) <|
  gg (β := Hp) (cpB (0 : Int32) (0 : Int32) (nI (ln h22 (gP h v0 9))) (ln h22 (gP h v1 9)) (ln h22 (gP h v0 9)) = true) <|
  lt (α := Hp) (β := Option Hp) (rI h22 (gP h v0 9) (va_cpy (gI h22 (gP h v1 9)) (gI h22 (gP h v0 9)) (0 : Int32).toNatClampNeg (0 : Int32).toNatClampNeg (nI (ln h22 (gP h v0 9))).toNatClampNeg)) fun (h30 : Hp) =>
  Option.bind (α := Hp) (β := Hp) (MX11_copyFlags h30 (gP h v1 10) (gP h v0 10)) fun (h36 : Hp) =>
  gg (β := Hp) (kd h36 v1 = 3) <|
  gg (β := Hp) (kd h36 v0 = 3) <|
  lt (α := Hp) (β := Option Hp) (sI h36 v0 1 (gI h36 v1 1)) fun (h39 : Hp) =>
  gg (β := Hp) (zOk (gI h39 v1 2) = true) <|
  lt (α := Hp) (β := Option Hp) (sI h39 v0 2 (gI h39 v1 2)) fun (h44 : Hp) =>
  lt (α := Hp) (β := Option Hp) (sI h44 v0 3 (gI h44 v1 3)) fun (h50 : Hp) =>
  lt (α := Hp) (β := Option Hp) (sI h50 v0 4 (gI h50 v1 4)) fun (h55 : Hp) =>
  lt (α := Hp) (β := Option Hp) (sI h55 v0 5 (gI h55 v1 5)) fun (h60 : Hp) =>
  lt (α := Hp) (β := Option Hp) (sI h60 v0 6 (gI h60 v1 6)) fun (h65 : Hp) =>
  some h65
set_option maxRecDepth 100000 in
set_option maxHeartbeats 8000000 in
theorem eX4_takeAll {d : Nat} {h : Hp} {v0 : Nat} {v1 : Nat} {h9 : Hp} (H : MX4_takeAll h v0 v1 = some h9) : J (d + 1) YX4_takeAll 0 [.ref v0, .ref v1] [] h oV h9 := by
  unfold MX4_takeAll at H
  refine J_aload_n 1 dX4_takeAll_0 rfl rfl ?_
  obtain ⟨g1, H⟩ := gd H
  refine J_gP 3 0 dX4_takeAll_1 g1 flX4_9 rfl rfl ?_
  refine J_iconst (0 : Int32) dX4_takeAll_4 kc_0 ?_
  refine J_aload_n 0 dX4_takeAll_5 rfl rfl ?_
  obtain ⟨g2, H⟩ := gd H
  refine J_gP 3 0 dX4_takeAll_6 g2 flX4_9 rfl rfl ?_
  refine J_iconst (0 : Int32) dX4_takeAll_9 kc_0 ?_
  refine J_aload_n 0 dX4_takeAll_10 rfl rfl ?_
  refine J_gP 3 0 dX4_takeAll_11 g2 flX4_9 rfl rfl ?_
  obtain ⟨g3, H⟩ := gd H
  refine J_len 20 dX4_takeAll_14 g3 rfl ?_
  obtain ⟨g4, H⟩ := gd H
  obtain ⟨g5, H⟩ := gd H
  obtain ⟨h6, e7, H⟩ := lt_el H
  refine J_cp 20 dX4_takeAll_15 mlX4_48 (Or.inl rfl) g4 g3 g5 rfl e7 ?_
  have c8 := ekR e7
  have c9 := elR e7
  have c10 := epR e7
  refine J_aload_n 1 dX4_takeAll_18 rfl rfl ?_
  refine J_gP 3 7 dX4_takeAll_19 (kq c8 g1) flX4_35 rfl (congrFun (congrFun c10 v1) 7) ?_
  refine J_iconst (0 : Int32) dX4_takeAll_22 kc_0 ?_
  refine J_aload_n 0 dX4_takeAll_23 rfl rfl ?_
  refine J_gP 3 7 dX4_takeAll_24 (kq c8 g2) flX4_35 rfl (congrFun (congrFun c10 v0) 7) ?_
  refine J_iconst (0 : Int32) dX4_takeAll_27 kc_0 ?_
  refine J_aload_n 0 dX4_takeAll_28 rfl rfl ?_
  refine J_gP 3 7 dX4_takeAll_29 (kq c8 g2) flX4_35 rfl (congrFun (congrFun c10 v0) 7) ?_
  obtain ⟨g11, H⟩ := gd H
  refine J_len 20 dX4_takeAll_32 (kq c8 g11) rfl ?_
  obtain ⟨g12, H⟩ := gd H
  obtain ⟨g13, H⟩ := gd H
  obtain ⟨h14, e15, H⟩ := lt_el H
  refine J_cp 20 dX4_takeAll_33 mlX4_48 (Or.inl rfl) (kq c8 g12) (kq c8 g11) g13 rfl e15 ?_
  have c16 := (ekR e15).trans c8
  have c17 := (elR e15).trans c9
  have c18 := (epR e15).trans c10
  refine J_aload_n 1 dX4_takeAll_36 rfl rfl ?_
  refine J_gP 3 8 dX4_takeAll_37 (kq c16 g1) flX4_38 rfl (congrFun (congrFun c18 v1) 8) ?_
  refine J_iconst (0 : Int32) dX4_takeAll_40 kc_0 ?_
  refine J_aload_n 0 dX4_takeAll_41 rfl rfl ?_
  refine J_gP 3 8 dX4_takeAll_42 (kq c16 g2) flX4_38 rfl (congrFun (congrFun c18 v0) 8) ?_
  refine J_iconst (0 : Int32) dX4_takeAll_45 kc_0 ?_
  refine J_aload_n 0 dX4_takeAll_46 rfl rfl ?_
  refine J_gP 3 8 dX4_takeAll_47 (kq c16 g2) flX4_38 rfl (congrFun (congrFun c18 v0) 8) ?_
  obtain ⟨g19, H⟩ := gd H
  refine J_len 20 dX4_takeAll_50 (kq c16 g19) rfl ?_
  obtain ⟨g20, H⟩ := gd H
  obtain ⟨g21, H⟩ := gd H
  obtain ⟨h22, e23, H⟩ := lt_el H
  refine J_cp 20 dX4_takeAll_51 mlX4_48 (Or.inl rfl) (kq c16 g20) (kq c16 g19) g21 rfl e23 ?_
  have c24 := (ekR e23).trans c16
  have c25 := (elR e23).trans c17
  have c26 := (epR e23).trans c18
  refine J_aload_n 1 dX4_takeAll_54 rfl rfl ?_
  refine J_gP 3 9 dX4_takeAll_55 (kq c24 g1) flX4_41 rfl (congrFun (congrFun c26 v1) 9) ?_
  refine J_iconst (0 : Int32) dX4_takeAll_58 kc_0 ?_
  refine J_aload_n 0 dX4_takeAll_59 rfl rfl ?_
  refine J_gP 3 9 dX4_takeAll_60 (kq c24 g2) flX4_41 rfl (congrFun (congrFun c26 v0) 9) ?_
  refine J_iconst (0 : Int32) dX4_takeAll_63 kc_0 ?_
  refine J_aload_n 0 dX4_takeAll_64 rfl rfl ?_
  refine J_gP 3 9 dX4_takeAll_65 (kq c24 g2) flX4_41 rfl (congrFun (congrFun c26 v0) 9) ?_
  obtain ⟨g27, H⟩ := gd H
  refine J_len 20 dX4_takeAll_68 (kq c24 g27) rfl ?_
  obtain ⟨g28, H⟩ := gd H
  obtain ⟨g29, H⟩ := gd H
  obtain ⟨h30, e31, H⟩ := lt_el H
  refine J_cp 20 dX4_takeAll_69 mlX4_48 (Or.inl rfl) (kq c24 g28) (kq c24 g27) g29 rfl e31 ?_
  have c32 := (ekR e31).trans c24
  have c33 := (elR e31).trans c25
  have c34 := (epR e31).trans c26
  refine J_aload_n 1 dX4_takeAll_72 rfl rfl ?_
  refine J_gP 3 10 dX4_takeAll_73 (kq c32 g1) flX4_44 rfl (congrFun (congrFun c34 v1) 10) ?_
  refine J_aload_n 0 dX4_takeAll_76 rfl rfl ?_
  refine J_gP 3 10 dX4_takeAll_77 (kq c32 g2) flX4_44 rfl (congrFun (congrFun c34 v0) 10) ?_
  obtain ⟨h36, e35, H⟩ := bd H
  refine J_cSN (as := [.ref (gP h v1 10), .ref (gP h v0 10)]) YX11_copyFlags "LeadRoom" 2 dX4_takeAll_80 moX11_copyFlags msX11_copyFlags mlX4_54 (okX11_copyFlags (d := d) e35) rfl rfl [] rfl rfl (st2 := []) rfl ?_
  refine J_aload_n 0 dX4_takeAll_83 rfl rfl ?_
  refine J_aload_n 1 dX4_takeAll_84 rfl rfl ?_
  obtain ⟨g37, H⟩ := gd H
  refine J_getI 3 1 dX4_takeAll_85 g37 flX4_15 rfl ?_
  obtain ⟨g38, H⟩ := gd H
  obtain ⟨h39, e40, H⟩ := lt_el H
  refine J_pI 3 1 dX4_takeAll_88 g38 flX4_15 rfl rfl e40 ?_
  have c41 := ekI e40
  have c42 := elI e40
  have c43 := epI e40
  refine J_aload_n 0 dX4_takeAll_91 rfl rfl ?_
  refine J_aload_n 1 dX4_takeAll_92 rfl rfl ?_
  refine J_getI 3 2 dX4_takeAll_93 (kq c41 g37) flX4_19 rfl ?_
  obtain ⟨g46, H⟩ := gd H
  obtain ⟨h44, e45, H⟩ := lt_el H
  refine J_pZ 3 2 dX4_takeAll_96 (kq c41 g38) flX4_19 rfl rfl g46 e45 ?_
  have c47 := (ekI e45).trans c41
  have c48 := (elI e45).trans c42
  have c49 := (epI e45).trans c43
  refine J_aload_n 0 dX4_takeAll_99 rfl rfl ?_
  refine J_aload_n 1 dX4_takeAll_100 rfl rfl ?_
  refine J_getI 3 3 dX4_takeAll_101 (kq c47 g37) flX4_23 rfl ?_
  obtain ⟨h50, e51, H⟩ := lt_el H
  refine J_pI 3 3 dX4_takeAll_104 (kq c47 g38) flX4_23 rfl rfl e51 ?_
  have c52 := (ekI e51).trans c47
  have c53 := (elI e51).trans c48
  have c54 := (epI e51).trans c49
  refine J_aload_n 0 dX4_takeAll_107 rfl rfl ?_
  refine J_aload_n 1 dX4_takeAll_108 rfl rfl ?_
  refine J_getI 3 4 dX4_takeAll_109 (kq c52 g37) flX4_26 rfl ?_
  obtain ⟨h55, e56, H⟩ := lt_el H
  refine J_pI 3 4 dX4_takeAll_112 (kq c52 g38) flX4_26 rfl rfl e56 ?_
  have c57 := (ekI e56).trans c52
  have c58 := (elI e56).trans c53
  have c59 := (epI e56).trans c54
  refine J_aload_n 0 dX4_takeAll_115 rfl rfl ?_
  refine J_aload_n 1 dX4_takeAll_116 rfl rfl ?_
  refine J_getI 3 5 dX4_takeAll_117 (kq c57 g37) flX4_29 rfl ?_
  obtain ⟨h60, e61, H⟩ := lt_el H
  refine J_pI 3 5 dX4_takeAll_120 (kq c57 g38) flX4_29 rfl rfl e61 ?_
  have c62 := (ekI e61).trans c57
  have c63 := (elI e61).trans c58
  have c64 := (epI e61).trans c59
  refine J_aload_n 0 dX4_takeAll_123 rfl rfl ?_
  refine J_aload_n 1 dX4_takeAll_124 rfl rfl ?_
  refine J_getI 3 6 dX4_takeAll_125 (kq c62 g37) flX4_32 rfl ?_
  obtain ⟨h65, e66, H⟩ := lt_el H
  refine J_pI 3 6 dX4_takeAll_128 (kq c62 g38) flX4_32 rfl rfl e66 ?_
  have c67 := (ekI e66).trans c62
  have c68 := (elI e66).trans c63
  have c69 := (epI e66).trans c64
  cases H
  exact J_ret dX4_takeAll_131 rfl
theorem okX4_takeAll {d : Nat} {h : Hp} {v0 : Nat} {v1 : Nat} {h9 : Hp} (H : MX4_takeAll h v0 v1 = some h9) : CT (d + 1) YX4_takeAll [.ref v0, .ref v1] h oV h9 := CT_of (by decide +kernel) (Nat.le_of_ble_eq_true rfl) (eX4_takeAll H)
noncomputable def MX5_takeCopy (h : Hp) (v0 : Nat) (v1 : Nat) : Option Hp :=
  gg (β := Hp) (kd h v1 = 4) <|
  gg (β := Hp) (kd h v0 = 4) <|
  gg (β := Hp) (kd h (gP h v0 0) = 21) <|
  gg (β := Hp) (kd h (gP h v1 0) = 21) <|
  gg (β := Hp) (cpB (0 : Int32) (0 : Int32) (nI (ln h (gP h v0 0))) (ln h (gP h v1 0)) (ln h (gP h v0 0)) = true) <|
  lt (α := Hp) (β := Option Hp) (rI h (gP h v0 0) (va_cpy (gI h (gP h v1 0)) (gI h (gP h v0 0)) (0 : Int32).toNatClampNeg (0 : Int32).toNatClampNeg (nI (ln h (gP h v0 0))).toNatClampNeg)) fun (h6 : Hp) =>
  gg (β := Hp) (kd h (gP h v0 1) = 20) <|
  gg (β := Hp) (kd h (gP h v1 1) = 20) <|
  gg (β := Hp) (cpB (0 : Int32) (0 : Int32) (nI (ln h6 (gP h v0 1))) (ln h6 (gP h v1 1)) (ln h6 (gP h v0 1)) = true) <|
  lt (α := Hp) (β := Option Hp) (rI h6 (gP h v0 1) (va_cpy (gI h6 (gP h v1 1)) (gI h6 (gP h v0 1)) (0 : Int32).toNatClampNeg (0 : Int32).toNatClampNeg (nI (ln h6 (gP h v0 1))).toNatClampNeg)) fun (h14 : Hp) =>
  Option.bind (α := Hp) (β := Hp) (MX11_copyFlags h14 (gP h v1 2) (gP h v0 2)) fun (h20 : Hp) =>
  gg (β := Hp) (kd h20 v1 = 4) <|
  gg (β := Hp) (kd h20 v0 = 4) <|
  lt (α := Hp) (β := Option Hp) (sI h20 v0 5 (gI h20 v1 5)) fun (h23 : Hp) =>
  lt (α := Hp) (β := Option Hp) (sI h23 v0 6 (gI h23 v1 6)) fun (h28 : Hp) =>
  some h28
set_option maxRecDepth 100000 in
set_option maxHeartbeats 8000000 in
theorem eX5_takeCopy {d : Nat} {h : Hp} {v0 : Nat} {v1 : Nat} {h9 : Hp} (H : MX5_takeCopy h v0 v1 = some h9) : J (d + 1) YX5_takeCopy 0 [.ref v0, .ref v1] [] h oV h9 := by
  unfold MX5_takeCopy at H
  refine J_aload_n 1 dX5_takeCopy_0 rfl rfl ?_
  obtain ⟨g1, H⟩ := gd H
  refine J_gP 4 0 dX5_takeCopy_1 g1 flX5_9 rfl rfl ?_
  refine J_iconst (0 : Int32) dX5_takeCopy_4 kc_0 ?_
  refine J_aload_n 0 dX5_takeCopy_5 rfl rfl ?_
  obtain ⟨g2, H⟩ := gd H
  refine J_gP 4 0 dX5_takeCopy_6 g2 flX5_9 rfl rfl ?_
  refine J_iconst (0 : Int32) dX5_takeCopy_9 kc_0 ?_
  refine J_aload_n 0 dX5_takeCopy_10 rfl rfl ?_
  refine J_gP 4 0 dX5_takeCopy_11 g2 flX5_9 rfl rfl ?_
  obtain ⟨g3, H⟩ := gd H
  refine J_len 21 dX5_takeCopy_14 g3 rfl ?_
  obtain ⟨g4, H⟩ := gd H
  obtain ⟨g5, H⟩ := gd H
  obtain ⟨h6, e7, H⟩ := lt_el H
  refine J_cp 21 dX5_takeCopy_15 mlX5_59 (Or.inr rfl) g4 g3 g5 rfl e7 ?_
  have c8 := ekR e7
  have c9 := elR e7
  have c10 := epR e7
  refine J_aload_n 1 dX5_takeCopy_18 rfl rfl ?_
  refine J_gP 4 1 dX5_takeCopy_19 (kq c8 g1) flX5_15 rfl (congrFun (congrFun c10 v1) 1) ?_
  refine J_iconst (0 : Int32) dX5_takeCopy_22 kc_0 ?_
  refine J_aload_n 0 dX5_takeCopy_23 rfl rfl ?_
  refine J_gP 4 1 dX5_takeCopy_24 (kq c8 g2) flX5_15 rfl (congrFun (congrFun c10 v0) 1) ?_
  refine J_iconst (0 : Int32) dX5_takeCopy_27 kc_0 ?_
  refine J_aload_n 0 dX5_takeCopy_28 rfl rfl ?_
  refine J_gP 4 1 dX5_takeCopy_29 (kq c8 g2) flX5_15 rfl (congrFun (congrFun c10 v0) 1) ?_
  obtain ⟨g11, H⟩ := gd H
  refine J_len 20 dX5_takeCopy_32 (kq c8 g11) rfl ?_
  obtain ⟨g12, H⟩ := gd H
  obtain ⟨g13, H⟩ := gd H
  obtain ⟨h14, e15, H⟩ := lt_el H
  refine J_cp 20 dX5_takeCopy_33 mlX5_59 (Or.inl rfl) (kq c8 g12) (kq c8 g11) g13 rfl e15 ?_
  have c16 := (ekR e15).trans c8
  have c17 := (elR e15).trans c9
  have c18 := (epR e15).trans c10
  refine J_aload_n 1 dX5_takeCopy_36 rfl rfl ?_
  refine J_gP 4 2 dX5_takeCopy_37 (kq c16 g1) flX5_19 rfl (congrFun (congrFun c18 v1) 2) ?_
  refine J_aload_n 0 dX5_takeCopy_40 rfl rfl ?_
  refine J_gP 4 2 dX5_takeCopy_41 (kq c16 g2) flX5_19 rfl (congrFun (congrFun c18 v0) 2) ?_
  obtain ⟨h20, e19, H⟩ := bd H
  refine J_cSN (as := [.ref (gP h v1 2), .ref (gP h v0 2)]) YX11_copyFlags "LeadRoom" 2 dX5_takeCopy_44 moX11_copyFlags msX11_copyFlags mlX5_65 (okX11_copyFlags (d := d) e19) rfl rfl [] rfl rfl (st2 := []) rfl ?_
  refine J_aload_n 0 dX5_takeCopy_47 rfl rfl ?_
  refine J_aload_n 1 dX5_takeCopy_48 rfl rfl ?_
  obtain ⟨g21, H⟩ := gd H
  refine J_getI 4 5 dX5_takeCopy_49 g21 flX5_29 rfl ?_
  obtain ⟨g22, H⟩ := gd H
  obtain ⟨h23, e24, H⟩ := lt_el H
  refine J_pI 4 5 dX5_takeCopy_52 g22 flX5_29 rfl rfl e24 ?_
  have c25 := ekI e24
  have c26 := elI e24
  have c27 := epI e24
  refine J_aload_n 0 dX5_takeCopy_55 rfl rfl ?_
  refine J_aload_n 1 dX5_takeCopy_56 rfl rfl ?_
  refine J_getI 4 6 dX5_takeCopy_57 (kq c25 g21) flX5_33 rfl ?_
  obtain ⟨h28, e29, H⟩ := lt_el H
  refine J_pI 4 6 dX5_takeCopy_60 (kq c25 g22) flX5_33 rfl rfl e29 ?_
  have c30 := (ekI e29).trans c25
  have c31 := (elI e29).trans c26
  have c32 := (epI e29).trans c27
  cases H
  exact J_ret dX5_takeCopy_63 rfl
theorem okX5_takeCopy {d : Nat} {h : Hp} {v0 : Nat} {v1 : Nat} {h9 : Hp} (H : MX5_takeCopy h v0 v1 = some h9) : CT (d + 1) YX5_takeCopy [.ref v0, .ref v1] h oV h9 := CT_of (by decide +kernel) (Nat.le_of_ble_eq_true rfl) (eX5_takeCopy H)
noncomputable def MX5_takeLines (h : Hp) (v0 : Nat) (v1 : Nat) : Option Hp :=
  gg (β := Hp) (kd h v1 = 4) <|
  gg (β := Hp) (kd h v0 = 4) <|
  gg (β := Hp) (kd h (gP h v0 3) = 20) <|
  gg (β := Hp) (kd h (gP h v1 3) = 20) <|
  gg (β := Hp) (cpB (0 : Int32) (0 : Int32) (nI (ln h (gP h v0 3))) (ln h (gP h v1 3)) (ln h (gP h v0 3)) = true) <|
  lt (α := Hp) (β := Option Hp) (rI h (gP h v0 3) (va_cpy (gI h (gP h v1 3)) (gI h (gP h v0 3)) (0 : Int32).toNatClampNeg (0 : Int32).toNatClampNeg (nI (ln h (gP h v0 3))).toNatClampNeg)) fun (h6 : Hp) =>
  gg (β := Hp) (kd h (gP h v0 4) = 20) <|
  gg (β := Hp) (kd h (gP h v1 4) = 20) <|
  gg (β := Hp) (cpB (0 : Int32) (0 : Int32) (nI (ln h6 (gP h v0 4))) (ln h6 (gP h v1 4)) (ln h6 (gP h v0 4)) = true) <|
  lt (α := Hp) (β := Option Hp) (rI h6 (gP h v0 4) (va_cpy (gI h6 (gP h v1 4)) (gI h6 (gP h v0 4)) (0 : Int32).toNatClampNeg (0 : Int32).toNatClampNeg (nI (ln h6 (gP h v0 4))).toNatClampNeg)) fun (h14 : Hp) =>
  lt (α := Hp) (β := Option Hp) (sI h14 v0 9 (gI h14 v1 9)) fun (h19 : Hp) =>
  some h19
set_option maxRecDepth 100000 in
set_option maxHeartbeats 8000000 in
theorem eX5_takeLines {d : Nat} {h : Hp} {v0 : Nat} {v1 : Nat} {h9 : Hp} (H : MX5_takeLines h v0 v1 = some h9) : J (d) YX5_takeLines 0 [.ref v0, .ref v1] [] h oV h9 := by
  unfold MX5_takeLines at H
  refine J_aload_n 1 dX5_takeLines_0 rfl rfl ?_
  obtain ⟨g1, H⟩ := gd H
  refine J_gP 4 3 dX5_takeLines_1 g1 flX5_23 rfl rfl ?_
  refine J_iconst (0 : Int32) dX5_takeLines_4 kc_0 ?_
  refine J_aload_n 0 dX5_takeLines_5 rfl rfl ?_
  obtain ⟨g2, H⟩ := gd H
  refine J_gP 4 3 dX5_takeLines_6 g2 flX5_23 rfl rfl ?_
  refine J_iconst (0 : Int32) dX5_takeLines_9 kc_0 ?_
  refine J_aload_n 0 dX5_takeLines_10 rfl rfl ?_
  refine J_gP 4 3 dX5_takeLines_11 g2 flX5_23 rfl rfl ?_
  obtain ⟨g3, H⟩ := gd H
  refine J_len 20 dX5_takeLines_14 g3 rfl ?_
  obtain ⟨g4, H⟩ := gd H
  obtain ⟨g5, H⟩ := gd H
  obtain ⟨h6, e7, H⟩ := lt_el H
  refine J_cp 20 dX5_takeLines_15 mlX5_59 (Or.inl rfl) g4 g3 g5 rfl e7 ?_
  have c8 := ekR e7
  have c9 := elR e7
  have c10 := epR e7
  refine J_aload_n 1 dX5_takeLines_18 rfl rfl ?_
  refine J_gP 4 4 dX5_takeLines_19 (kq c8 g1) flX5_26 rfl (congrFun (congrFun c10 v1) 4) ?_
  refine J_iconst (0 : Int32) dX5_takeLines_22 kc_0 ?_
  refine J_aload_n 0 dX5_takeLines_23 rfl rfl ?_
  refine J_gP 4 4 dX5_takeLines_24 (kq c8 g2) flX5_26 rfl (congrFun (congrFun c10 v0) 4) ?_
  refine J_iconst (0 : Int32) dX5_takeLines_27 kc_0 ?_
  refine J_aload_n 0 dX5_takeLines_28 rfl rfl ?_
  refine J_gP 4 4 dX5_takeLines_29 (kq c8 g2) flX5_26 rfl (congrFun (congrFun c10 v0) 4) ?_
  obtain ⟨g11, H⟩ := gd H
  refine J_len 20 dX5_takeLines_32 (kq c8 g11) rfl ?_
  obtain ⟨g12, H⟩ := gd H
  obtain ⟨g13, H⟩ := gd H
  obtain ⟨h14, e15, H⟩ := lt_el H
  refine J_cp 20 dX5_takeLines_33 mlX5_59 (Or.inl rfl) (kq c8 g12) (kq c8 g11) g13 rfl e15 ?_
  have c16 := (ekR e15).trans c8
  have c17 := (elR e15).trans c9
  have c18 := (epR e15).trans c10
  refine J_aload_n 0 dX5_takeLines_36 rfl rfl ?_
  refine J_aload_n 1 dX5_takeLines_37 rfl rfl ?_
  refine J_getI 4 9 dX5_takeLines_38 (kq c16 g1) flX5_42 rfl ?_
  obtain ⟨h19, e20, H⟩ := lt_el H
  refine J_pI 4 9 dX5_takeLines_41 (kq c16 g2) flX5_42 rfl rfl e20 ?_
  have c21 := (ekI e20).trans c16
  have c22 := (elI e20).trans c17
  have c23 := (epI e20).trans c18
  cases H
  exact J_ret dX5_takeLines_44 rfl
theorem okX5_takeLines {d : Nat} {h : Hp} {v0 : Nat} {v1 : Nat} {h9 : Hp} (H : MX5_takeLines h v0 v1 = some h9) : CT (d) YX5_takeLines [.ref v0, .ref v1] h oV h9 := CT_of (by decide +kernel) (Nat.le_of_ble_eq_true rfl) (eX5_takeLines H)
noncomputable def MX5_takeAll (h : Hp) (v0 : Nat) (v1 : Nat) : Option Hp :=
  gg (β := Hp) (kd h v0 = 4) <|
  Option.bind (α := Hp) (β := Hp) (MX5_takeCopy h v0 v1) fun (h3 : Hp) =>
  gg (β := Hp) (kd h3 v0 = 4) <|
  Option.bind (α := Hp) (β := Hp) (MX5_takeLines h3 v0 v1) fun (h6 : Hp) =>
  gg (β := Hp) (kd h6 v1 = 4) <|
  gg (β := Hp) (kd h6 v0 = 4) <|
  lt (α := Hp) (β := Option Hp) (sI h6 v0 7 (gI h6 v1 7)) fun (h9 : Hp) =>
  lt (α := Hp) (β := Option Hp) (sI h9 v0 8 (gI h9 v1 8)) fun (h14 : Hp) =>
  gg (β := Hp) (zOk (gI h14 v1 10) = true) <|
  lt (α := Hp) (β := Option Hp) (sI h14 v0 10 (gI h14 v1 10)) fun (h19 : Hp) =>
  gg (β := Hp) (zOk (gI h19 v1 11) = true) <|
  lt (α := Hp) (β := Option Hp) (sI h19 v0 11 (gI h19 v1 11)) fun (h25 : Hp) =>
  some h25
set_option maxRecDepth 100000 in
set_option maxHeartbeats 8000000 in
theorem eX5_takeAll {d : Nat} {h : Hp} {v0 : Nat} {v1 : Nat} {h9 : Hp} (H : MX5_takeAll h v0 v1 = some h9) : J (d + 2) YX5_takeAll 0 [.ref v0, .ref v1] [] h oV h9 := by
  unfold MX5_takeAll at H
  refine J_aload_n 0 dX5_takeAll_0 rfl rfl ?_
  refine J_aload_n 1 dX5_takeAll_1 rfl rfl ?_
  obtain ⟨g2, H⟩ := gd H
  obtain ⟨h3, e1, H⟩ := bd H
  refine J_cV (as := [.ref v1]) 4 YX5_takeCopy 1 dX5_takeAll_2 moX5_takeCopy mvX5_takeCopy mlX5_52 g2 rfl rfl (okX5_takeCopy (d := d) e1) rfl rfl [] rfl rfl (st2 := []) rfl ?_
  refine J_aload_n 0 dX5_takeAll_5 rfl rfl ?_
  refine J_aload_n 1 dX5_takeAll_6 rfl rfl ?_
  obtain ⟨g5, H⟩ := gd H
  obtain ⟨h6, e4, H⟩ := bd H
  refine J_cV (as := [.ref v1]) 4 YX5_takeLines 1 dX5_takeAll_7 moX5_takeLines mvX5_takeLines mlX5_56 g5 rfl rfl (okX5_takeLines (d := d + 1) e4) rfl rfl [] rfl rfl (st2 := []) rfl ?_
  refine J_aload_n 0 dX5_takeAll_10 rfl rfl ?_
  refine J_aload_n 1 dX5_takeAll_11 rfl rfl ?_
  obtain ⟨g7, H⟩ := gd H
  refine J_getI 4 7 dX5_takeAll_12 g7 flX5_36 rfl ?_
  obtain ⟨g8, H⟩ := gd H
  obtain ⟨h9, e10, H⟩ := lt_el H
  refine J_pI 4 7 dX5_takeAll_15 g8 flX5_36 rfl rfl e10 ?_
  have c11 := ekI e10
  have c12 := elI e10
  have c13 := epI e10
  refine J_aload_n 0 dX5_takeAll_18 rfl rfl ?_
  refine J_aload_n 1 dX5_takeAll_19 rfl rfl ?_
  refine J_getI 4 8 dX5_takeAll_20 (kq c11 g7) flX5_39 rfl ?_
  obtain ⟨h14, e15, H⟩ := lt_el H
  refine J_pI 4 8 dX5_takeAll_23 (kq c11 g8) flX5_39 rfl rfl e15 ?_
  have c16 := (ekI e15).trans c11
  have c17 := (elI e15).trans c12
  have c18 := (epI e15).trans c13
  refine J_aload_n 0 dX5_takeAll_26 rfl rfl ?_
  refine J_aload_n 1 dX5_takeAll_27 rfl rfl ?_
  refine J_getI 4 10 dX5_takeAll_28 (kq c16 g7) flX5_45 rfl ?_
  obtain ⟨g21, H⟩ := gd H
  obtain ⟨h19, e20, H⟩ := lt_el H
  refine J_pZ 4 10 dX5_takeAll_31 (kq c16 g8) flX5_45 rfl rfl g21 e20 ?_
  have c22 := (ekI e20).trans c16
  have c23 := (elI e20).trans c17
  have c24 := (epI e20).trans c18
  refine J_aload_n 0 dX5_takeAll_34 rfl rfl ?_
  refine J_aload_n 1 dX5_takeAll_35 rfl rfl ?_
  refine J_getI 4 11 dX5_takeAll_36 (kq c22 g7) flX5_49 rfl ?_
  obtain ⟨g27, H⟩ := gd H
  obtain ⟨h25, e26, H⟩ := lt_el H
  refine J_pZ 4 11 dX5_takeAll_39 (kq c22 g8) flX5_49 rfl rfl g27 e26 ?_
  have c28 := (ekI e26).trans c22
  have c29 := (elI e26).trans c23
  have c30 := (epI e26).trans c24
  cases H
  exact J_ret dX5_takeAll_42 rfl
theorem okX5_takeAll {d : Nat} {h : Hp} {v0 : Nat} {v1 : Nat} {h9 : Hp} (H : MX5_takeAll h v0 v1 = some h9) : CT (d + 2) YX5_takeAll [.ref v0, .ref v1] h oV h9 := CT_of (by decide +kernel) (Nat.le_of_ble_eq_true rfl) (eX5_takeAll H)
noncomputable def MX7_ownPart_13 (h : Hp)  : Option (Nat × Hp) :=
  lt (α := Hp) (β := Option (Nat × Hp)) (alc h 4 12) fun (h2 : Hp) =>
  Option.bind (α := Hp) (β := (Nat × Hp)) (MX5_init h2 (sz h + 1)) fun (h5 : Hp) =>
  some ((sz h + 1), h5)
set_option maxRecDepth 100000 in
set_option maxHeartbeats 8000000 in
theorem kX7_ownPart_13 {d : Nat} {h : Hp}  {r : Nat} {h9 : Hp} (H : MX7_ownPart_13 h  = some (r, h9)) : J (d + 1) YX7_ownPart 13 [Value.null, Value.null] [] h (oA r) h9 := by
  unfold MX7_ownPart_13 at H
  obtain ⟨h2, e3, H⟩ := lt_el H
  refine J_nO 4 12 dX7_ownPart_13 rfl rfl clX7_33 in4 ini4 e3 ?_
  refine J_dup dX7_ownPart_16 rfl ?_
  obtain ⟨h5, e4, H⟩ := bd H
  refine J_cIN (as := []) YX5_init "LeadRoom" 0 dX7_ownPart_17 moX5_init miX5_init mlX7_130 rfl rfl (kn99 (ekN e3) rfl) (okX5_init (d := d) e4) rfl rfl [.ref (sz h + 1)] rfl rfl ?_
  cases H
  exact J_aret dX7_ownPart_20 rfl (Or.inl ⟨_, rfl⟩)
noncomputable def MX7_ownPart_43 (h : Hp) (v0 : Nat) (v1 : Int32) : Option (Nat × Hp) :=
  gg (β := (Nat × Hp)) (kd h v0 = 6) <|
  gg (β := (Nat × Hp)) (kd h (gP h v0 5) = 26) <|
  gg (β := (Nat × Hp)) (inB v1 (ln h (gP h v0 5)) = true) <|
  some ((gP h (gP h v0 5) v1.toNatClampNeg), h)
set_option maxRecDepth 100000 in
set_option maxHeartbeats 8000000 in
theorem kX7_ownPart_43 {d : Nat} {h : Hp} {v0 : Nat} {v1 : Int32} {r : Nat} {h9 : Hp} (H : MX7_ownPart_43 h v0 v1 = some (r, h9)) : J (d + 1) YX7_ownPart 43 [.ref v0, .int v1] [] h (oA r) h9 := by
  unfold MX7_ownPart_43 at H
  refine J_aload_n 0 dX7_ownPart_43 rfl rfl ?_
  obtain ⟨g11, H⟩ := gd H
  refine J_gP 6 5 dX7_ownPart_44 g11 flX7_35 rfl rfl ?_
  refine J_iload_n 1 dX7_ownPart_47 rfl rfl ?_
  obtain ⟨g12, H⟩ := gd H
  obtain ⟨g13, H⟩ := gd H
  refine J_lP 26 dX7_ownPart_48 g12 rfl (inB_ok g13) rfl ?_
  cases H
  exact J_aret dX7_ownPart_49 rfl (Or.inl ⟨_, rfl⟩)
noncomputable def MX7_ownPart (h : Hp) (v0 : Nat) (v1 : Int32) : Option (Nat × Hp) :=
  if v1 < 0 then
    MX7_ownPart_13 h
  else
    gg (β := (Nat × Hp)) (kd h v0 = 6) <|
    gg (β := (Nat × Hp)) (kd h (gP h v0 5) = 26) <|
    if v1 < (nI (ln h (gP h v0 5))) then
      gg (β := (Nat × Hp)) (inB v1 (ln h (gP h v0 5)) = true) <|
      if (gP h (gP h v0 5) v1.toNatClampNeg) = 0 then
        lt (α := Hp) (β := Option (Nat × Hp)) (alc h 4 12) fun (h14 : Hp) =>
        Option.bind (α := Hp) (β := (Nat × Hp)) (MX5_init h14 (sz h + 1)) fun (h17 : Hp) =>
        gg (β := (Nat × Hp)) (kd h17 (gP h v0 5) = 26) <|
        gg (β := (Nat × Hp)) (kd h17 (sz h + 1) = 4) <|
        gg (β := (Nat × Hp)) (inB v1 (ln h17 (gP h v0 5)) = true) <|
        lt (α := Hp) (β := Option (Nat × Hp)) (sP h17 (gP h v0 5) v1.toNatClampNeg (sz h + 1)) fun (h21 : Hp) =>
        MX7_ownPart_43 h21 v0 v1
      else
        MX7_ownPart_43 h v0 v1
    else
      MX7_ownPart_13 h
set_option maxRecDepth 100000 in
set_option maxHeartbeats 8000000 in
theorem eX7_ownPart {d : Nat} {h : Hp} {v0 : Nat} {v1 : Int32} {r : Nat} {h9 : Hp} (H : MX7_ownPart h v0 v1 = some (r, h9)) : J (d + 1) YX7_ownPart 0 [.ref v0, .int v1] [] h (oA r) h9 := by
  unfold MX7_ownPart at H
  refine J_iload_n 1 dX7_ownPart_0 rfl rfl ?_
  refine J_if_lt 13 dX7_ownPart_1 rfl (fun q1 => ?_) (fun q1 => ?_)
  · replace H := br1 q1 H
    exact J_dr (kX7_ownPart_13 H ) trivial
  · replace H := br0 q1 H
    refine J_iload_n 1 dX7_ownPart_4 rfl rfl ?_
    refine J_aload_n 0 dX7_ownPart_5 rfl rfl ?_
    obtain ⟨g6, H⟩ := gd H
    refine J_gP 6 5 dX7_ownPart_6 g6 flX7_35 rfl rfl ?_
    obtain ⟨g7, H⟩ := gd H
    refine J_len 26 dX7_ownPart_9 g7 rfl ?_
    refine J_icmp_lt 21 dX7_ownPart_10 rfl (fun q8 => ?_) (fun q8 => ?_)
    · replace H := br1 q8 H
      refine J_aload_n 0 dX7_ownPart_21 rfl rfl ?_
      refine J_gP 6 5 dX7_ownPart_22 g6 flX7_35 rfl rfl ?_
      refine J_iload_n 1 dX7_ownPart_25 rfl rfl ?_
      obtain ⟨g9, H⟩ := gd H
      refine J_lP 26 dX7_ownPart_26 g7 rfl (inB_ok g9) rfl ?_
      refine J_ifnonnull 43 dX7_ownPart_27 rfl (fun q10 => ?_) (fun q10 => ?_)
      · replace H := br0 q10 H
        exact J_dr (kX7_ownPart_43 H ) ⟨rfl, ⟨rfl, trivial⟩⟩
      · replace H := br1 q10 H
        refine J_aload_n 0 dX7_ownPart_30 rfl rfl ?_
        refine J_gP 6 5 dX7_ownPart_31 g6 flX7_35 rfl rfl ?_
        refine J_iload_n 1 dX7_ownPart_34 rfl rfl ?_
        obtain ⟨h14, e15, H⟩ := lt_el H
        refine J_nO 4 12 dX7_ownPart_35 rfl rfl clX7_33 in4 ini4 e15 ?_
        refine J_dup dX7_ownPart_38 rfl ?_
        obtain ⟨h17, e16, H⟩ := bd H
        refine J_cIN (as := []) YX5_init "LeadRoom" 0 dX7_ownPart_39 moX5_init miX5_init mlX7_130 rfl rfl (kn99 (ekN e15) rfl) (okX5_init (d := d) e16) rfl rfl [.ref (sz h + 1), .int v1, .ref (gP h v0 5)] rfl rfl ?_
        obtain ⟨g18, H⟩ := gd H
        obtain ⟨g19, H⟩ := gd H
        obtain ⟨g20, H⟩ := gd H
        obtain ⟨h21, e22, H⟩ := lt_el H
        refine J_sA 26 dX7_ownPart_42 g18 rfl g19 (inB_ok g20) e22 ?_
        have c23 := ekP e22
        have c24 := elP e22
        exact J_dr (kX7_ownPart_43 H ) ⟨rfl, ⟨rfl, trivial⟩⟩
    · replace H := br0 q8 H
      exact J_dr (kX7_ownPart_13 H ) trivial
theorem okX7_ownPart {d : Nat} {h : Hp} {v0 : Nat} {v1 : Int32} {r : Nat} {h9 : Hp} (H : MX7_ownPart h v0 v1 = some (r, h9)) : CT (d + 1) YX7_ownPart [.ref v0, .int v1] h (oA r) h9 := CT_of (by decide +kernel) (Nat.le_of_ble_eq_true rfl) (eX7_ownPart H)
noncomputable def MX8_takeAll (h : Hp) (v0 : Nat) (v1 : Nat) : Option Hp :=
  gg (β := Hp) (kd h v1 = 7) <|
  gg (β := Hp) (kd h v0 = 7) <|
  Option.bind (α := Hp) (β := Hp) (MX8_takeText h v0 (gP h v1 0) (gI h v1 2)) fun (h4 : Hp) =>
  gg (β := Hp) (kd h4 v1 = 7) <|
  gg (β := Hp) (kd h4 v0 = 7) <|
  gg (β := Hp) (kd h4 (gP h4 v1 1) = 21) <|
  gg (β := Hp) (kd h4 (gP h4 v0 1) = 21) <|
  gg (β := Hp) (cpB (0 : Int32) (0 : Int32) (gI h4 v0 2) (ln h4 (gP h4 v1 1)) (ln h4 (gP h4 v0 1)) = true) <|
  lt (α := Hp) (β := Option Hp) (rI h4 (gP h4 v0 1) (va_cpy (gI h4 (gP h4 v1 1)) (gI h4 (gP h4 v0 1)) (0 : Int32).toNatClampNeg (0 : Int32).toNatClampNeg (gI h4 v0 2).toNatClampNeg)) fun (h10 : Hp) =>
  lt (α := Hp) (β := Option Hp) (sI h10 v0 4 (gI h10 v1 4)) fun (h15 : Hp) =>
  lt (α := Hp) (β := Option Hp) (sI h15 v0 5 (gI h15 v1 5)) fun (h20 : Hp) =>
  lt (α := Hp) (β := Option Hp) (sI h20 v0 6 (gI h20 v1 6)) fun (h25 : Hp) =>
  lt (α := Hp) (β := Option Hp) (sI h25 v0 7 (gI h25 v1 7)) fun (h30 : Hp) =>
  lt (α := Hp) (β := Option Hp) (sI h30 v0 8 (gI h30 v1 8)) fun (h35 : Hp) =>
  lt (α := Hp) (β := Option Hp) (sI h35 v0 9 (gI h35 v1 9)) fun (h40 : Hp) =>
  lt (α := Hp) (β := Option Hp) (sI h40 v0 10 (gI h40 v1 10)) fun (h45 : Hp) =>
  lt (α := Hp) (β := Option Hp) (sI h45 v0 11 (gI h45 v1 11)) fun (h50 : Hp) =>
  lt (α := Hp) (β := Option Hp) (sI h50 v0 12 (gI h50 v1 12)) fun (h55 : Hp) =>
  lt (α := Hp) (β := Option Hp) (sI h55 v0 13 (gI h55 v1 13)) fun (h60 : Hp) =>
  gg (β := Hp) (zOk (gI h60 v1 14) = true) <|
  lt (α := Hp) (β := Option Hp) (sI h60 v0 14 (gI h60 v1 14)) fun (h65 : Hp) =>
  some h65
set_option maxRecDepth 100000 in
set_option maxHeartbeats 8000000 in
theorem eX8_takeAll {d : Nat} {h : Hp} {v0 : Nat} {v1 : Nat} {h9 : Hp} (H : MX8_takeAll h v0 v1 = some h9) : J (d + 2) YX8_takeAll 0 [.ref v0, .ref v1] [] h oV h9 := by
  unfold MX8_takeAll at H
  refine J_aload_n 0 dX8_takeAll_0 rfl rfl ?_
  refine J_aload_n 1 dX8_takeAll_1 rfl rfl ?_
  obtain ⟨g1, H⟩ := gd H
  refine J_gP 7 0 dX8_takeAll_2 g1 flX8_9 rfl rfl ?_
  refine J_aload_n 1 dX8_takeAll_5 rfl rfl ?_
  refine J_getI 7 2 dX8_takeAll_6 g1 flX8_18 rfl ?_
  obtain ⟨g3, H⟩ := gd H
  obtain ⟨h4, e2, H⟩ := bd H
  refine J_cV (as := [.ref (gP h v1 0), .int (gI h v1 2)]) 7 YX8_takeText 2 dX8_takeAll_9 moX8_takeText mvX8_takeText mlX8_59 g3 rfl rfl (okX8_takeText (d := d) e2) rfl rfl [] rfl rfl (st2 := []) rfl ?_
  refine J_aload_n 1 dX8_takeAll_12 rfl rfl ?_
  obtain ⟨g5, H⟩ := gd H
  refine J_gP 7 1 dX8_takeAll_13 g5 flX8_15 rfl rfl ?_
  refine J_iconst (0 : Int32) dX8_takeAll_16 kc_0 ?_
  refine J_aload_n 0 dX8_takeAll_17 rfl rfl ?_
  obtain ⟨g6, H⟩ := gd H
  refine J_gP 7 1 dX8_takeAll_18 g6 flX8_15 rfl rfl ?_
  refine J_iconst (0 : Int32) dX8_takeAll_21 kc_0 ?_
  refine J_aload_n 0 dX8_takeAll_22 rfl rfl ?_
  refine J_getI 7 2 dX8_takeAll_23 g6 flX8_18 rfl ?_
  obtain ⟨g7, H⟩ := gd H
  obtain ⟨g8, H⟩ := gd H
  obtain ⟨g9, H⟩ := gd H
  obtain ⟨h10, e11, H⟩ := lt_el H
  refine J_cp 21 dX8_takeAll_26 mlX8_63 (Or.inr rfl) g7 g8 g9 rfl e11 ?_
  have c12 := ekR e11
  have c13 := elR e11
  have c14 := epR e11
  refine J_aload_n 0 dX8_takeAll_29 rfl rfl ?_
  refine J_aload_n 1 dX8_takeAll_30 rfl rfl ?_
  refine J_getI 7 4 dX8_takeAll_31 (kq c12 g5) flX8_25 rfl ?_
  obtain ⟨h15, e16, H⟩ := lt_el H
  refine J_pI 7 4 dX8_takeAll_34 (kq c12 g6) flX8_25 rfl rfl e16 ?_
  have c17 := (ekI e16).trans c12
  have c18 := (elI e16).trans c13
  have c19 := (epI e16).trans c14
  refine J_aload_n 0 dX8_takeAll_37 rfl rfl ?_
  refine J_aload_n 1 dX8_takeAll_38 rfl rfl ?_
  refine J_getI 7 5 dX8_takeAll_39 (kq c17 g5) flX8_28 rfl ?_
  obtain ⟨h20, e21, H⟩ := lt_el H
  refine J_pI 7 5 dX8_takeAll_42 (kq c17 g6) flX8_28 rfl rfl e21 ?_
  have c22 := (ekI e21).trans c17
  have c23 := (elI e21).trans c18
  have c24 := (epI e21).trans c19
  refine J_aload_n 0 dX8_takeAll_45 rfl rfl ?_
  refine J_aload_n 1 dX8_takeAll_46 rfl rfl ?_
  refine J_getI 7 6 dX8_takeAll_47 (kq c22 g5) flX8_31 rfl ?_
  obtain ⟨h25, e26, H⟩ := lt_el H
  refine J_pI 7 6 dX8_takeAll_50 (kq c22 g6) flX8_31 rfl rfl e26 ?_
  have c27 := (ekI e26).trans c22
  have c28 := (elI e26).trans c23
  have c29 := (epI e26).trans c24
  refine J_aload_n 0 dX8_takeAll_53 rfl rfl ?_
  refine J_aload_n 1 dX8_takeAll_54 rfl rfl ?_
  refine J_getI 7 7 dX8_takeAll_55 (kq c27 g5) flX8_34 rfl ?_
  obtain ⟨h30, e31, H⟩ := lt_el H
  refine J_pI 7 7 dX8_takeAll_58 (kq c27 g6) flX8_34 rfl rfl e31 ?_
  have c32 := (ekI e31).trans c27
  have c33 := (elI e31).trans c28
  have c34 := (epI e31).trans c29
  refine J_aload_n 0 dX8_takeAll_61 rfl rfl ?_
  refine J_aload_n 1 dX8_takeAll_62 rfl rfl ?_
  refine J_getI 7 8 dX8_takeAll_63 (kq c32 g5) flX8_37 rfl ?_
  obtain ⟨h35, e36, H⟩ := lt_el H
  refine J_pI 7 8 dX8_takeAll_66 (kq c32 g6) flX8_37 rfl rfl e36 ?_
  have c37 := (ekI e36).trans c32
  have c38 := (elI e36).trans c33
  have c39 := (epI e36).trans c34
  refine J_aload_n 0 dX8_takeAll_69 rfl rfl ?_
  refine J_aload_n 1 dX8_takeAll_70 rfl rfl ?_
  refine J_getI 7 9 dX8_takeAll_71 (kq c37 g5) flX8_40 rfl ?_
  obtain ⟨h40, e41, H⟩ := lt_el H
  refine J_pI 7 9 dX8_takeAll_74 (kq c37 g6) flX8_40 rfl rfl e41 ?_
  have c42 := (ekI e41).trans c37
  have c43 := (elI e41).trans c38
  have c44 := (epI e41).trans c39
  refine J_aload_n 0 dX8_takeAll_77 rfl rfl ?_
  refine J_aload_n 1 dX8_takeAll_78 rfl rfl ?_
  refine J_getI 7 10 dX8_takeAll_79 (kq c42 g5) flX8_43 rfl ?_
  obtain ⟨h45, e46, H⟩ := lt_el H
  refine J_pI 7 10 dX8_takeAll_82 (kq c42 g6) flX8_43 rfl rfl e46 ?_
  have c47 := (ekI e46).trans c42
  have c48 := (elI e46).trans c43
  have c49 := (epI e46).trans c44
  refine J_aload_n 0 dX8_takeAll_85 rfl rfl ?_
  refine J_aload_n 1 dX8_takeAll_86 rfl rfl ?_
  refine J_getI 7 11 dX8_takeAll_87 (kq c47 g5) flX8_46 rfl ?_
  obtain ⟨h50, e51, H⟩ := lt_el H
  refine J_pI 7 11 dX8_takeAll_90 (kq c47 g6) flX8_46 rfl rfl e51 ?_
  have c52 := (ekI e51).trans c47
  have c53 := (elI e51).trans c48
  have c54 := (epI e51).trans c49
  refine J_aload_n 0 dX8_takeAll_93 rfl rfl ?_
  refine J_aload_n 1 dX8_takeAll_94 rfl rfl ?_
  refine J_getI 7 12 dX8_takeAll_95 (kq c52 g5) flX8_49 rfl ?_
  obtain ⟨h55, e56, H⟩ := lt_el H
  refine J_pI 7 12 dX8_takeAll_98 (kq c52 g6) flX8_49 rfl rfl e56 ?_
  have c57 := (ekI e56).trans c52
  have c58 := (elI e56).trans c53
  have c59 := (epI e56).trans c54
  refine J_aload_n 0 dX8_takeAll_101 rfl rfl ?_
  refine J_aload_n 1 dX8_takeAll_102 rfl rfl ?_
  refine J_getI 7 13 dX8_takeAll_103 (kq c57 g5) flX8_52 rfl ?_
  obtain ⟨h60, e61, H⟩ := lt_el H
  refine J_pI 7 13 dX8_takeAll_106 (kq c57 g6) flX8_52 rfl rfl e61 ?_
  have c62 := (ekI e61).trans c57
  have c63 := (elI e61).trans c58
  have c64 := (epI e61).trans c59
  refine J_aload_n 0 dX8_takeAll_109 rfl rfl ?_
  refine J_aload_n 1 dX8_takeAll_110 rfl rfl ?_
  refine J_getI 7 14 dX8_takeAll_111 (kq c62 g5) flX8_55 rfl ?_
  obtain ⟨g67, H⟩ := gd H
  obtain ⟨h65, e66, H⟩ := lt_el H
  refine J_pZ 7 14 dX8_takeAll_114 (kq c62 g6) flX8_55 rfl rfl g67 e66 ?_
  have c68 := (ekI e66).trans c62
  have c69 := (elI e66).trans c63
  have c70 := (epI e66).trans c64
  cases H
  exact J_ret dX8_takeAll_117 rfl
theorem okX8_takeAll {d : Nat} {h : Hp} {v0 : Nat} {v1 : Nat} {h9 : Hp} (H : MX8_takeAll h v0 v1 = some h9) : CT (d + 2) YX8_takeAll [.ref v0, .ref v1] h oV h9 := CT_of (by decide +kernel) (Nat.le_of_ble_eq_true rfl) (eX8_takeAll H)
noncomputable def MX9_takeAll (h : Hp) (v0 : Nat) (v1 : Nat) : Option Hp :=
  gg (β := Hp) (kd h v1 = 8) <|
  gg (β := Hp) (kd h v0 = 8) <|
  lt (α := Hp) (β := Option Hp) (sI h v0 0 (gI h v1 0)) fun (h3 : Hp) =>
  lt (α := Hp) (β := Option Hp) (sI h3 v0 1 (gI h3 v1 1)) fun (h8 : Hp) =>
  gg (β := Hp) (kd h (gP h v0 2) = 20) <|
  gg (β := Hp) (kd h (gP h v1 2) = 20) <|
  gg (β := Hp) (cpB (0 : Int32) (0 : Int32) (nI (ln h8 (gP h v0 2))) (ln h8 (gP h v1 2)) (ln h8 (gP h v0 2)) = true) <|
  lt (α := Hp) (β := Option Hp) (rI h8 (gP h v0 2) (va_cpy (gI h8 (gP h v1 2)) (gI h8 (gP h v0 2)) (0 : Int32).toNatClampNeg (0 : Int32).toNatClampNeg (nI (ln h8 (gP h v0 2))).toNatClampNeg)) fun (h16 : Hp) =>
  gg (β := Hp) (kd h (gP h v0 3) = 20) <|
  gg (β := Hp) (kd h (gP h v1 3) = 20) <|
  gg (β := Hp) (cpB (0 : Int32) (0 : Int32) (nI (ln h16 (gP h v0 3))) (ln h16 (gP h v1 3)) (ln h16 (gP h v0 3)) = true) <|
  lt (α := Hp) (β := Option Hp) (rI h16 (gP h v0 3) (va_cpy (gI h16 (gP h v1 3)) (gI h16 (gP h v0 3)) (0 : Int32).toNatClampNeg (0 : Int32).toNatClampNeg (nI (ln h16 (gP h v0 3))).toNatClampNeg)) fun (h24 : Hp) =>
  gg (β := Hp) (kd h (gP h v0 4) = 20) <|
  gg (β := Hp) (kd h (gP h v1 4) = 20) <|
  gg (β := Hp) (cpB (0 : Int32) (0 : Int32) (nI (ln h24 (gP h v0 4))) (ln h24 (gP h v1 4)) (ln h24 (gP h v0 4)) = true) <|
  lt (α := Hp) (β := Option Hp) (rI h24 (gP h v0 4) (va_cpy (gI h24 (gP h v1 4)) (gI h24 (gP h v0 4)) (0 : Int32).toNatClampNeg (0 : Int32).toNatClampNeg (nI (ln h24 (gP h v0 4))).toNatClampNeg)) fun (h32 : Hp) =>
  gg (β := Hp) (kd h (gP h v0 5) = 20) <|
  gg (β := Hp) (kd h (gP h v1 5) = 20) <|
  gg (β := Hp) (cpB (0 : Int32) (0 : Int32) (nI (ln h32 (gP h v0 5))) (ln h32 (gP h v1 5)) (ln h32 (gP h v0 5)) = true) <|
  lt (α := Hp) (β := Option Hp) (rI h32 (gP h v0 5) (va_cpy (gI h32 (gP h v1 5)) (gI h32 (gP h v0 5)) (0 : Int32).toNatClampNeg (0 : Int32).toNatClampNeg (nI (ln h32 (gP h v0 5))).toNatClampNeg)) fun (h40 : Hp) =>
  gg (β := Hp) (kd h (gP h v0 6) = 20) <|
  gg (β := Hp) (kd h (gP h v1 6) = 20) <|
  gg (β := Hp) (cpB (0 : Int32) (0 : Int32) (nI (ln h40 (gP h v0 6))) (ln h40 (gP h v1 6)) (ln h40 (gP h v0 6)) = true) <|
  lt (α := Hp) (β := Option Hp) (rI h40 (gP h v0 6) (va_cpy (gI h40 (gP h v1 6)) (gI h40 (gP h v0 6)) (0 : Int32).toNatClampNeg (0 : Int32).toNatClampNeg (nI (ln h40 (gP h v0 6))).toNatClampNeg)) fun (h48 : Hp) =>
  some h48
set_option maxRecDepth 100000 in
set_option maxHeartbeats 8000000 in
theorem eX9_takeAll {d : Nat} {h : Hp} {v0 : Nat} {v1 : Nat} {h9 : Hp} (H : MX9_takeAll h v0 v1 = some h9) : J (d) YX9_takeAll 0 [.ref v0, .ref v1] [] h oV h9 := by
  unfold MX9_takeAll at H
  refine J_aload_n 0 dX9_takeAll_0 rfl rfl ?_
  refine J_aload_n 1 dX9_takeAll_1 rfl rfl ?_
  obtain ⟨g1, H⟩ := gd H
  refine J_getI 8 0 dX9_takeAll_2 g1 flX9_9 rfl ?_
  obtain ⟨g2, H⟩ := gd H
  obtain ⟨h3, e4, H⟩ := lt_el H
  refine J_pI 8 0 dX9_takeAll_5 g2 flX9_9 rfl rfl e4 ?_
  have c5 := ekI e4
  have c6 := elI e4
  have c7 := epI e4
  refine J_aload_n 0 dX9_takeAll_8 rfl rfl ?_
  refine J_aload_n 1 dX9_takeAll_9 rfl rfl ?_
  refine J_getI 8 1 dX9_takeAll_10 (kq c5 g1) flX9_15 rfl ?_
  obtain ⟨h8, e9, H⟩ := lt_el H
  refine J_pI 8 1 dX9_takeAll_13 (kq c5 g2) flX9_15 rfl rfl e9 ?_
  have c10 := (ekI e9).trans c5
  have c11 := (elI e9).trans c6
  have c12 := (epI e9).trans c7
  refine J_aload_n 1 dX9_takeAll_16 rfl rfl ?_
  refine J_gP 8 2 dX9_takeAll_17 (kq c10 g1) flX9_18 rfl (congrFun (congrFun c12 v1) 2) ?_
  refine J_iconst (0 : Int32) dX9_takeAll_20 kc_0 ?_
  refine J_aload_n 0 dX9_takeAll_21 rfl rfl ?_
  refine J_gP 8 2 dX9_takeAll_22 (kq c10 g2) flX9_18 rfl (congrFun (congrFun c12 v0) 2) ?_
  refine J_iconst (0 : Int32) dX9_takeAll_25 kc_0 ?_
  refine J_aload_n 0 dX9_takeAll_26 rfl rfl ?_
  refine J_gP 8 2 dX9_takeAll_27 (kq c10 g2) flX9_18 rfl (congrFun (congrFun c12 v0) 2) ?_
  obtain ⟨g13, H⟩ := gd H
  refine J_len 20 dX9_takeAll_30 (kq c10 g13) rfl ?_
  obtain ⟨g14, H⟩ := gd H
  obtain ⟨g15, H⟩ := gd H
  obtain ⟨h16, e17, H⟩ := lt_el H
  refine J_cp 20 dX9_takeAll_31 mlX9_41 (Or.inl rfl) (kq c10 g14) (kq c10 g13) g15 rfl e17 ?_
  have c18 := (ekR e17).trans c10
  have c19 := (elR e17).trans c11
  have c20 := (epR e17).trans c12
  refine J_aload_n 1 dX9_takeAll_34 rfl rfl ?_
  refine J_gP 8 3 dX9_takeAll_35 (kq c18 g1) flX9_22 rfl (congrFun (congrFun c20 v1) 3) ?_
  refine J_iconst (0 : Int32) dX9_takeAll_38 kc_0 ?_
  refine J_aload_n 0 dX9_takeAll_39 rfl rfl ?_
  refine J_gP 8 3 dX9_takeAll_40 (kq c18 g2) flX9_22 rfl (congrFun (congrFun c20 v0) 3) ?_
  refine J_iconst (0 : Int32) dX9_takeAll_43 kc_0 ?_
  refine J_aload_n 0 dX9_takeAll_44 rfl rfl ?_
  refine J_gP 8 3 dX9_takeAll_45 (kq c18 g2) flX9_22 rfl (congrFun (congrFun c20 v0) 3) ?_
  obtain ⟨g21, H⟩ := gd H
  refine J_len 20 dX9_takeAll_48 (kq c18 g21) rfl ?_
  obtain ⟨g22, H⟩ := gd H
  obtain ⟨g23, H⟩ := gd H
  obtain ⟨h24, e25, H⟩ := lt_el H
  refine J_cp 20 dX9_takeAll_49 mlX9_41 (Or.inl rfl) (kq c18 g22) (kq c18 g21) g23 rfl e25 ?_
  have c26 := (ekR e25).trans c18
  have c27 := (elR e25).trans c19
  have c28 := (epR e25).trans c20
  refine J_aload_n 1 dX9_takeAll_52 rfl rfl ?_
  refine J_gP 8 4 dX9_takeAll_53 (kq c26 g1) flX9_25 rfl (congrFun (congrFun c28 v1) 4) ?_
  refine J_iconst (0 : Int32) dX9_takeAll_56 kc_0 ?_
  refine J_aload_n 0 dX9_takeAll_57 rfl rfl ?_
  refine J_gP 8 4 dX9_takeAll_58 (kq c26 g2) flX9_25 rfl (congrFun (congrFun c28 v0) 4) ?_
  refine J_iconst (0 : Int32) dX9_takeAll_61 kc_0 ?_
  refine J_aload_n 0 dX9_takeAll_62 rfl rfl ?_
  refine J_gP 8 4 dX9_takeAll_63 (kq c26 g2) flX9_25 rfl (congrFun (congrFun c28 v0) 4) ?_
  obtain ⟨g29, H⟩ := gd H
  refine J_len 20 dX9_takeAll_66 (kq c26 g29) rfl ?_
  obtain ⟨g30, H⟩ := gd H
  obtain ⟨g31, H⟩ := gd H
  obtain ⟨h32, e33, H⟩ := lt_el H
  refine J_cp 20 dX9_takeAll_67 mlX9_41 (Or.inl rfl) (kq c26 g30) (kq c26 g29) g31 rfl e33 ?_
  have c34 := (ekR e33).trans c26
  have c35 := (elR e33).trans c27
  have c36 := (epR e33).trans c28
  refine J_aload_n 1 dX9_takeAll_70 rfl rfl ?_
  refine J_gP 8 5 dX9_takeAll_71 (kq c34 g1) flX9_28 rfl (congrFun (congrFun c36 v1) 5) ?_
  refine J_iconst (0 : Int32) dX9_takeAll_74 kc_0 ?_
  refine J_aload_n 0 dX9_takeAll_75 rfl rfl ?_
  refine J_gP 8 5 dX9_takeAll_76 (kq c34 g2) flX9_28 rfl (congrFun (congrFun c36 v0) 5) ?_
  refine J_iconst (0 : Int32) dX9_takeAll_79 kc_0 ?_
  refine J_aload_n 0 dX9_takeAll_80 rfl rfl ?_
  refine J_gP 8 5 dX9_takeAll_81 (kq c34 g2) flX9_28 rfl (congrFun (congrFun c36 v0) 5) ?_
  obtain ⟨g37, H⟩ := gd H
  refine J_len 20 dX9_takeAll_84 (kq c34 g37) rfl ?_
  obtain ⟨g38, H⟩ := gd H
  obtain ⟨g39, H⟩ := gd H
  obtain ⟨h40, e41, H⟩ := lt_el H
  refine J_cp 20 dX9_takeAll_85 mlX9_41 (Or.inl rfl) (kq c34 g38) (kq c34 g37) g39 rfl e41 ?_
  have c42 := (ekR e41).trans c34
  have c43 := (elR e41).trans c35
  have c44 := (epR e41).trans c36
  refine J_aload_n 1 dX9_takeAll_88 rfl rfl ?_
  refine J_gP 8 6 dX9_takeAll_89 (kq c42 g1) flX9_31 rfl (congrFun (congrFun c44 v1) 6) ?_
  refine J_iconst (0 : Int32) dX9_takeAll_92 kc_0 ?_
  refine J_aload_n 0 dX9_takeAll_93 rfl rfl ?_
  refine J_gP 8 6 dX9_takeAll_94 (kq c42 g2) flX9_31 rfl (congrFun (congrFun c44 v0) 6) ?_
  refine J_iconst (0 : Int32) dX9_takeAll_97 kc_0 ?_
  refine J_aload_n 0 dX9_takeAll_98 rfl rfl ?_
  refine J_gP 8 6 dX9_takeAll_99 (kq c42 g2) flX9_31 rfl (congrFun (congrFun c44 v0) 6) ?_
  obtain ⟨g45, H⟩ := gd H
  refine J_len 20 dX9_takeAll_102 (kq c42 g45) rfl ?_
  obtain ⟨g46, H⟩ := gd H
  obtain ⟨g47, H⟩ := gd H
  obtain ⟨h48, e49, H⟩ := lt_el H
  refine J_cp 20 dX9_takeAll_103 mlX9_41 (Or.inl rfl) (kq c42 g46) (kq c42 g45) g47 rfl e49 ?_
  have c50 := (ekR e49).trans c42
  have c51 := (elR e49).trans c43
  have c52 := (epR e49).trans c44
  cases H
  exact J_ret dX9_takeAll_106 rfl
theorem okX9_takeAll {d : Nat} {h : Hp} {v0 : Nat} {v1 : Nat} {h9 : Hp} (H : MX9_takeAll h v0 v1 = some h9) : CT (d) YX9_takeAll [.ref v0, .ref v1] h oV h9 := CT_of (by decide +kernel) (Nat.le_of_ble_eq_true rfl) (eX9_takeAll H)
noncomputable def BX7_takeAll_201 (h : Hp) (v0 : Nat) (v1 : Nat) (v2 : Int32) : Option ((Int32 × Hp) ⊕ Hp) :=
  gg (β := ((Int32 × Hp) ⊕ Hp)) (kd h v0 = 6) <|
  gg (β := ((Int32 × Hp) ⊕ Hp)) (kd h (gP h v0 5) = 26) <|
  if (nI (ln h (gP h v0 5))) ≤ v2 then
    some (.inr (h))
  else
    gg (β := ((Int32 × Hp) ⊕ Hp)) (kd h v1 = 6) <|
    Option.bind (α := Nat) (β := ((Int32 × Hp) ⊕ Hp)) (MX7_findPart h v1 v2) fun (t71 : Nat) =>
    if t71 = 0 then
      some (.inl ((v2 + (1 : Int32)), h))
    else
      b2 (α := Nat) (β := Hp) (γ := ((Int32 × Hp) ⊕ Hp)) (MX7_ownPart h v0 v2) fun (t75 : Nat) (h74 : Hp) =>
      gg (β := ((Int32 × Hp) ⊕ Hp)) (kd h74 t75 = 4) <|
      Option.bind (α := Hp) (β := ((Int32 × Hp) ⊕ Hp)) (MX5_takeAll h74 t75 t71) fun (h78 : Hp) =>
      some (.inl ((v2 + (1 : Int32)), h78))
set_option maxRecDepth 100000 in
set_option maxHeartbeats 8000000 in
theorem bX7_takeAll_201 {d : Nat} {h : Hp} {v0 : Nat} {v1 : Nat} {v2 : Int32} {h9 : Hp} {x : ((Int32 × Hp) ⊕ Hp)} (H : BX7_takeAll_201 h v0 v1 v2 = some x) (hb0 : ∀ s : Int32 × Hp, x = .inl s → J (d + 3) YX7_takeAll 201 [.ref v0, .ref v1, .int s.1, Value.null] [] s.2 oV h9) (hx : ∀ z : Hp, x = .inr (z) → z = h9) : J (d + 3) YX7_takeAll 201 [.ref v0, .ref v1, .int v2, Value.null] [] h oV h9 := by
  unfold BX7_takeAll_201 at H
  refine J_iload_n 2 dX7_takeAll_201 rfl rfl ?_
  refine J_aload_n 0 dX7_takeAll_202 rfl rfl ?_
  obtain ⟨g66, H⟩ := gd H
  refine J_gP 6 5 dX7_takeAll_203 g66 flX7_35 rfl rfl ?_
  obtain ⟨g67, H⟩ := gd H
  refine J_len 26 dX7_takeAll_206 g67 rfl ?_
  refine J_icmp_ge 235 dX7_takeAll_207 rfl (fun q68 => ?_) (fun q68 => ?_)
  · replace H := br1 q68 H
    cases H
    cases hx _ rfl
    exact J_ret dX7_takeAll_235 rfl
  · replace H := br0 q68 H
    refine J_aload_n 1 dX7_takeAll_210 rfl rfl ?_
    refine J_iload_n 2 dX7_takeAll_211 rfl rfl ?_
    obtain ⟨g70, H⟩ := gd H
    obtain ⟨t71, e69, H⟩ := bd H
    refine J_cV (as := [.int v2]) 6 YX7_findPart 1 dX7_takeAll_212 moX7_findPart mvX7_findPart mlX7_120 g70 rfl rfl (okX7_findPart (d := d + 2) e69) rfl rfl [] rfl rfl (st2 := [.ref t71]) rfl ?_
    refine J_astore_n 3 dX7_takeAll_215 rfl (by decide) (ls' := [.ref v0, .ref v1, .int v2, .ref t71]) rfl ?_
    refine J_aload_n 3 dX7_takeAll_216 rfl rfl ?_
    refine J_ifnull 229 dX7_takeAll_217 rfl (fun q72 => ?_) (fun q72 => ?_)
    · replace H := br1 q72 H
      refine J_iinc (v2 + (1 : Int32)) dX7_takeAll_229 rfl (congrArg (HAdd.hAdd v2) kc_1) (by decide) (ls' := [.ref v0, .ref v1, .int (v2 + (1 : Int32)), .ref t71]) rfl ?_
      refine J_goto 201 dX7_takeAll_232 rfl ?_
      cases H
      exact J_dr (hb0 _ rfl) ⟨rfl, ⟨rfl, ⟨rfl, trivial⟩⟩⟩
    · replace H := br0 q72 H
      refine J_aload_n 0 dX7_takeAll_220 rfl rfl ?_
      refine J_iload_n 2 dX7_takeAll_221 rfl rfl ?_
      obtain ⟨t75, h74, e73, H⟩ := b2_el H
      refine J_cV (as := [.int v2]) 6 YX7_ownPart 1 dX7_takeAll_222 moX7_ownPart mvX7_ownPart mlX7_124 g66 rfl rfl (okX7_ownPart (d := d + 1) e73) rfl rfl [] rfl rfl (st2 := [.ref t75]) rfl ?_
      refine J_aload_n 3 dX7_takeAll_225 rfl rfl ?_
      obtain ⟨g77, H⟩ := gd H
      obtain ⟨h78, e76, H⟩ := bd H
      refine J_cV (as := [.ref t71]) 4 YX5_takeAll 1 dX7_takeAll_226 moX5_takeAll mvX5_takeAll mlX7_127 g77 rfl rfl (okX5_takeAll (d := d) e76) rfl rfl [] rfl rfl (st2 := []) rfl ?_
      refine J_iinc (v2 + (1 : Int32)) dX7_takeAll_229 rfl (congrArg (HAdd.hAdd v2) kc_1) (by decide) (ls' := [.ref v0, .ref v1, .int (v2 + (1 : Int32)), .ref t71]) rfl ?_
      refine J_goto 201 dX7_takeAll_232 rfl ?_
      cases H
      exact J_dr (hb0 _ rfl) ⟨rfl, ⟨rfl, ⟨rfl, trivial⟩⟩⟩
noncomputable def MX7_takeAll_201 (h : Hp) (v0 : Nat) (v1 : Nat) (v2 : Int32) : Option Hp := it (fun q : Int32 × Hp => BX7_takeAll_201 q.2 v0 v1 q.1) (v2, h)
set_option maxRecDepth 100000 in
set_option maxHeartbeats 8000000 in
theorem kX7_takeAll_201 {d : Nat} {h : Hp} {v0 : Nat} {v1 : Nat} {v2 : Int32} {h9 : Hp} (H : MX7_takeAll_201 h v0 v1 v2 = some h9) : J (d + 3) YX7_takeAll 201 [.ref v0, .ref v1, .int v2, Value.null] [] h oV h9 := by
  unfold MX7_takeAll_201 at H
  refine it_J (G := (fun q : Int32 × Hp => J (d + 3) YX7_takeAll 201 [.ref v0, .ref v1, .int q.1, Value.null] [] q.2 oV h9)) (Q := (fun y : Hp => y = h9)) (fun q x Hq hm => ?_) H rfl
  exact bX7_takeAll_201 Hq (fun s hs => by subst hs; exact hm) (fun z hz => by subst hz; exact hm)
noncomputable def MX7_takeAll_199 (h : Hp) (v0 : Nat) (v1 : Nat) : Option Hp :=
  MX7_takeAll_201 h v0 v1 (0 : Int32)
set_option maxRecDepth 100000 in
set_option maxHeartbeats 8000000 in
theorem kX7_takeAll_199 {d : Nat} {h : Hp} {v0 : Nat} {v1 : Nat} {h9 : Hp} (H : MX7_takeAll_199 h v0 v1 = some h9) : J (d + 3) YX7_takeAll 199 [.ref v0, .ref v1, Value.null, Value.null] [] h oV h9 := by
  unfold MX7_takeAll_199 at H
  refine J_iconst (0 : Int32) dX7_takeAll_199 kc_0 ?_
  refine J_istore_n 2 dX7_takeAll_200 rfl (by decide) (ls' := [.ref v0, .ref v1, .int (0 : Int32), Value.null]) rfl ?_
  exact J_dr (kX7_takeAll_201 H ) ⟨rfl, ⟨rfl, ⟨rfl, trivial⟩⟩⟩
noncomputable def BX7_takeAll_172 (h : Hp) (v0 : Nat) (v1 : Nat) (v2 : Int32) : Option ((Int32 × Hp) ⊕ Hp) :=
  gg (β := ((Int32 × Hp) ⊕ Hp)) (kd h v0 = 6) <|
  if (gI h v0 11) ≤ v2 then
    up1 (MX7_takeAll_199 h v0 v1)
  else
    b2 (α := Nat) (β := Hp) (γ := ((Int32 × Hp) ⊕ Hp)) (MX7_ownSlug h v0 v2) fun (t81 : Nat) (h80 : Hp) =>
    gg (β := ((Int32 × Hp) ⊕ Hp)) (kd h80 v1 = 6) <|
    b2 (α := Nat) (β := Hp) (γ := ((Int32 × Hp) ⊕ Hp)) (MX7_ownSlug h80 v1 v2) fun (t85 : Nat) (h84 : Hp) =>
    gg (β := ((Int32 × Hp) ⊕ Hp)) (kd h84 t81 = 7) <|
    Option.bind (α := Hp) (β := ((Int32 × Hp) ⊕ Hp)) (MX8_takeAll h84 t81 t85) fun (h88 : Hp) =>
    some (.inl ((v2 + (1 : Int32)), h88))
set_option maxRecDepth 100000 in
set_option maxHeartbeats 8000000 in
theorem bX7_takeAll_172 {d : Nat} {h : Hp} {v0 : Nat} {v1 : Nat} {v2 : Int32} {h9 : Hp} {x : ((Int32 × Hp) ⊕ Hp)} (H : BX7_takeAll_172 h v0 v1 v2 = some x) (hb0 : ∀ s : Int32 × Hp, x = .inl s → J (d + 3) YX7_takeAll 172 [.ref v0, .ref v1, .int s.1, Value.null] [] s.2 oV h9) (hx : ∀ z : Hp, x = .inr (z) → z = h9) : J (d + 3) YX7_takeAll 172 [.ref v0, .ref v1, .int v2, Value.null] [] h oV h9 := by
  unfold BX7_takeAll_172 at H
  refine J_iload_n 2 dX7_takeAll_172 rfl rfl ?_
  refine J_aload_n 0 dX7_takeAll_173 rfl rfl ?_
  obtain ⟨g64, H⟩ := gd H
  refine J_getI 6 11 dX7_takeAll_174 g64 flX7_60 rfl ?_
  refine J_icmp_ge 199 dX7_takeAll_177 rfl (fun q65 => ?_) (fun q65 => ?_)
  · replace H := br1 q65 H
    obtain ⟨y0, H90, rfl⟩ := up1_el H
    replace H := H90
    obtain rfl := hx _ rfl
    exact J_dr (kX7_takeAll_199 H ) ⟨rfl, ⟨rfl, trivial⟩⟩
  · replace H := br0 q65 H
    refine J_aload_n 0 dX7_takeAll_180 rfl rfl ?_
    refine J_iload_n 2 dX7_takeAll_181 rfl rfl ?_
    obtain ⟨t81, h80, e79, H⟩ := b2_el H
    refine J_cV (as := [.int v2]) 6 YX7_ownSlug 1 dX7_takeAll_182 moX7_ownSlug mvX7_ownSlug mlX7_113 g64 rfl rfl (okX7_ownSlug (d := d + 1) e79) rfl rfl [] rfl rfl (st2 := [.ref t81]) rfl ?_
    refine J_aload_n 1 dX7_takeAll_185 rfl rfl ?_
    refine J_iload_n 2 dX7_takeAll_186 rfl rfl ?_
    obtain ⟨g83, H⟩ := gd H
    obtain ⟨t85, h84, e82, H⟩ := b2_el H
    refine J_cV (as := [.int v2]) 6 YX7_ownSlug 1 dX7_takeAll_187 moX7_ownSlug mvX7_ownSlug mlX7_113 g83 rfl rfl (okX7_ownSlug (d := d + 1) e82) rfl rfl [.ref t81] rfl rfl (st2 := [.ref t85, .ref t81]) rfl ?_
    obtain ⟨g87, H⟩ := gd H
    obtain ⟨h88, e86, H⟩ := bd H
    refine J_cV (as := [.ref t85]) 7 YX8_takeAll 1 dX7_takeAll_190 moX8_takeAll mvX8_takeAll mlX7_117 g87 rfl rfl (okX8_takeAll (d := d) e86) rfl rfl [] rfl rfl (st2 := []) rfl ?_
    refine J_iinc (v2 + (1 : Int32)) dX7_takeAll_193 rfl (congrArg (HAdd.hAdd v2) kc_1) (by decide) (ls' := [.ref v0, .ref v1, .int (v2 + (1 : Int32)), Value.null]) rfl ?_
    refine J_goto 172 dX7_takeAll_196 rfl ?_
    cases H
    exact J_dr (hb0 _ rfl) ⟨rfl, ⟨rfl, ⟨rfl, trivial⟩⟩⟩
noncomputable def MX7_takeAll_172 (h : Hp) (v0 : Nat) (v1 : Nat) (v2 : Int32) : Option Hp := it (fun q : Int32 × Hp => BX7_takeAll_172 q.2 v0 v1 q.1) (v2, h)
set_option maxRecDepth 100000 in
set_option maxHeartbeats 8000000 in
theorem kX7_takeAll_172 {d : Nat} {h : Hp} {v0 : Nat} {v1 : Nat} {v2 : Int32} {h9 : Hp} (H : MX7_takeAll_172 h v0 v1 v2 = some h9) : J (d + 3) YX7_takeAll 172 [.ref v0, .ref v1, .int v2, Value.null] [] h oV h9 := by
  unfold MX7_takeAll_172 at H
  refine it_J (G := (fun q : Int32 × Hp => J (d + 3) YX7_takeAll 172 [.ref v0, .ref v1, .int q.1, Value.null] [] q.2 oV h9)) (Q := (fun y : Hp => y = h9)) (fun q x Hq hm => ?_) H rfl
  exact bX7_takeAll_172 Hq (fun s hs => by subst hs; exact hm) (fun z hz => by subst hz; exact hm)
noncomputable def MX7_takeAll_170 (h : Hp) (v0 : Nat) (v1 : Nat) : Option Hp :=
  MX7_takeAll_172 h v0 v1 (0 : Int32)
set_option maxRecDepth 100000 in
set_option maxHeartbeats 8000000 in
theorem kX7_takeAll_170 {d : Nat} {h : Hp} {v0 : Nat} {v1 : Nat} {h9 : Hp} (H : MX7_takeAll_170 h v0 v1 = some h9) : J (d + 3) YX7_takeAll 170 [.ref v0, .ref v1, Value.null, Value.null] [] h oV h9 := by
  unfold MX7_takeAll_170 at H
  refine J_iconst (0 : Int32) dX7_takeAll_170 kc_0 ?_
  refine J_istore_n 2 dX7_takeAll_171 rfl (by decide) (ls' := [.ref v0, .ref v1, .int (0 : Int32), Value.null]) rfl ?_
  exact J_dr (kX7_takeAll_172 H ) ⟨rfl, ⟨rfl, ⟨rfl, trivial⟩⟩⟩
noncomputable def BX7_takeAll_143 (h : Hp) (v0 : Nat) (v1 : Nat) (v2 : Int32) : Option ((Int32 × Hp) ⊕ Hp) :=
  gg (β := ((Int32 × Hp) ⊕ Hp)) (kd h v0 = 6) <|
  if (gI h v0 9) ≤ v2 then
    up1 (MX7_takeAll_170 h v0 v1)
  else
    b2 (α := Nat) (β := Hp) (γ := ((Int32 × Hp) ⊕ Hp)) (MX7_ownMachine h v0 v2) fun (t91 : Nat) (h90 : Hp) =>
    gg (β := ((Int32 × Hp) ⊕ Hp)) (kd h90 v1 = 6) <|
    b2 (α := Nat) (β := Hp) (γ := ((Int32 × Hp) ⊕ Hp)) (MX7_ownMachine h90 v1 v2) fun (t95 : Nat) (h94 : Hp) =>
    gg (β := ((Int32 × Hp) ⊕ Hp)) (kd h94 t91 = 3) <|
    Option.bind (α := Hp) (β := ((Int32 × Hp) ⊕ Hp)) (MX4_takeAll h94 t91 t95) fun (h98 : Hp) =>
    some (.inl ((v2 + (1 : Int32)), h98))
set_option maxRecDepth 100000 in
set_option maxHeartbeats 8000000 in
theorem bX7_takeAll_143 {d : Nat} {h : Hp} {v0 : Nat} {v1 : Nat} {v2 : Int32} {h9 : Hp} {x : ((Int32 × Hp) ⊕ Hp)} (H : BX7_takeAll_143 h v0 v1 v2 = some x) (hb0 : ∀ s : Int32 × Hp, x = .inl s → J (d + 3) YX7_takeAll 143 [.ref v0, .ref v1, .int s.1, Value.null] [] s.2 oV h9) (hx : ∀ z : Hp, x = .inr (z) → z = h9) : J (d + 3) YX7_takeAll 143 [.ref v0, .ref v1, .int v2, Value.null] [] h oV h9 := by
  unfold BX7_takeAll_143 at H
  refine J_iload_n 2 dX7_takeAll_143 rfl rfl ?_
  refine J_aload_n 0 dX7_takeAll_144 rfl rfl ?_
  obtain ⟨g62, H⟩ := gd H
  refine J_getI 6 9 dX7_takeAll_145 g62 flX7_51 rfl ?_
  refine J_icmp_ge 170 dX7_takeAll_148 rfl (fun q63 => ?_) (fun q63 => ?_)
  · replace H := br1 q63 H
    obtain ⟨y0, H90, rfl⟩ := up1_el H
    replace H := H90
    obtain rfl := hx _ rfl
    exact J_dr (kX7_takeAll_170 H ) ⟨rfl, ⟨rfl, trivial⟩⟩
  · replace H := br0 q63 H
    refine J_aload_n 0 dX7_takeAll_151 rfl rfl ?_
    refine J_iload_n 2 dX7_takeAll_152 rfl rfl ?_
    obtain ⟨t91, h90, e89, H⟩ := b2_el H
    refine J_cV (as := [.int v2]) 6 YX7_ownMachine 1 dX7_takeAll_153 moX7_ownMachine mvX7_ownMachine mlX7_106 g62 rfl rfl (okX7_ownMachine (d := d + 1) e89) rfl rfl [] rfl rfl (st2 := [.ref t91]) rfl ?_
    refine J_aload_n 1 dX7_takeAll_156 rfl rfl ?_
    refine J_iload_n 2 dX7_takeAll_157 rfl rfl ?_
    obtain ⟨g93, H⟩ := gd H
    obtain ⟨t95, h94, e92, H⟩ := b2_el H
    refine J_cV (as := [.int v2]) 6 YX7_ownMachine 1 dX7_takeAll_158 moX7_ownMachine mvX7_ownMachine mlX7_106 g93 rfl rfl (okX7_ownMachine (d := d + 1) e92) rfl rfl [.ref t91] rfl rfl (st2 := [.ref t95, .ref t91]) rfl ?_
    obtain ⟨g97, H⟩ := gd H
    obtain ⟨h98, e96, H⟩ := bd H
    refine J_cV (as := [.ref t95]) 3 YX4_takeAll 1 dX7_takeAll_161 moX4_takeAll mvX4_takeAll mlX7_110 g97 rfl rfl (okX4_takeAll (d := d + 1) e96) rfl rfl [] rfl rfl (st2 := []) rfl ?_
    refine J_iinc (v2 + (1 : Int32)) dX7_takeAll_164 rfl (congrArg (HAdd.hAdd v2) kc_1) (by decide) (ls' := [.ref v0, .ref v1, .int (v2 + (1 : Int32)), Value.null]) rfl ?_
    refine J_goto 143 dX7_takeAll_167 rfl ?_
    cases H
    exact J_dr (hb0 _ rfl) ⟨rfl, ⟨rfl, ⟨rfl, trivial⟩⟩⟩
noncomputable def MX7_takeAll_143 (h : Hp) (v0 : Nat) (v1 : Nat) (v2 : Int32) : Option Hp := it (fun q : Int32 × Hp => BX7_takeAll_143 q.2 v0 v1 q.1) (v2, h)
set_option maxRecDepth 100000 in
set_option maxHeartbeats 8000000 in
theorem kX7_takeAll_143 {d : Nat} {h : Hp} {v0 : Nat} {v1 : Nat} {v2 : Int32} {h9 : Hp} (H : MX7_takeAll_143 h v0 v1 v2 = some h9) : J (d + 3) YX7_takeAll 143 [.ref v0, .ref v1, .int v2, Value.null] [] h oV h9 := by
  unfold MX7_takeAll_143 at H
  refine it_J (G := (fun q : Int32 × Hp => J (d + 3) YX7_takeAll 143 [.ref v0, .ref v1, .int q.1, Value.null] [] q.2 oV h9)) (Q := (fun y : Hp => y = h9)) (fun q x Hq hm => ?_) H rfl
  exact bX7_takeAll_143 Hq (fun s hs => by subst hs; exact hm) (fun z hz => by subst hz; exact hm)
noncomputable def MX7_takeAll_141 (h : Hp) (v0 : Nat) (v1 : Nat) : Option Hp :=
  MX7_takeAll_143 h v0 v1 (0 : Int32)
set_option maxRecDepth 100000 in
set_option maxHeartbeats 8000000 in
theorem kX7_takeAll_141 {d : Nat} {h : Hp} {v0 : Nat} {v1 : Nat} {h9 : Hp} (H : MX7_takeAll_141 h v0 v1 = some h9) : J (d + 3) YX7_takeAll 141 [.ref v0, .ref v1, Value.null, Value.null] [] h oV h9 := by
  unfold MX7_takeAll_141 at H
  refine J_iconst (0 : Int32) dX7_takeAll_141 kc_0 ?_
  refine J_istore_n 2 dX7_takeAll_142 rfl (by decide) (ls' := [.ref v0, .ref v1, .int (0 : Int32), Value.null]) rfl ?_
  exact J_dr (kX7_takeAll_143 H ) ⟨rfl, ⟨rfl, ⟨rfl, trivial⟩⟩⟩
noncomputable def BX7_takeAll_114 (h : Hp) (v0 : Nat) (v1 : Nat) (v2 : Int32) : Option ((Int32 × Hp) ⊕ Hp) :=
  gg (β := ((Int32 × Hp) ⊕ Hp)) (kd h v0 = 6) <|
  if (gI h v0 3) ≤ v2 then
    up1 (MX7_takeAll_141 h v0 v1)
  else
    b2 (α := Nat) (β := Hp) (γ := ((Int32 × Hp) ⊕ Hp)) (MX7_ownStyle h v0 v2) fun (t101 : Nat) (h100 : Hp) =>
    gg (β := ((Int32 × Hp) ⊕ Hp)) (kd h100 v1 = 6) <|
    b2 (α := Nat) (β := Hp) (γ := ((Int32 × Hp) ⊕ Hp)) (MX7_ownStyle h100 v1 v2) fun (t105 : Nat) (h104 : Hp) =>
    gg (β := ((Int32 × Hp) ⊕ Hp)) (kd h104 t101 = 8) <|
    Option.bind (α := Hp) (β := ((Int32 × Hp) ⊕ Hp)) (MX9_takeAll h104 t101 t105) fun (h108 : Hp) =>
    some (.inl ((v2 + (1 : Int32)), h108))
set_option maxRecDepth 100000 in
set_option maxHeartbeats 8000000 in
theorem bX7_takeAll_114 {d : Nat} {h : Hp} {v0 : Nat} {v1 : Nat} {v2 : Int32} {h9 : Hp} {x : ((Int32 × Hp) ⊕ Hp)} (H : BX7_takeAll_114 h v0 v1 v2 = some x) (hb0 : ∀ s : Int32 × Hp, x = .inl s → J (d + 3) YX7_takeAll 114 [.ref v0, .ref v1, .int s.1, Value.null] [] s.2 oV h9) (hx : ∀ z : Hp, x = .inr (z) → z = h9) : J (d + 3) YX7_takeAll 114 [.ref v0, .ref v1, .int v2, Value.null] [] h oV h9 := by
  unfold BX7_takeAll_114 at H
  refine J_iload_n 2 dX7_takeAll_114 rfl rfl ?_
  refine J_aload_n 0 dX7_takeAll_115 rfl rfl ?_
  obtain ⟨g60, H⟩ := gd H
  refine J_getI 6 3 dX7_takeAll_116 g60 flX7_25 rfl ?_
  refine J_icmp_ge 141 dX7_takeAll_119 rfl (fun q61 => ?_) (fun q61 => ?_)
  · replace H := br1 q61 H
    obtain ⟨y0, H90, rfl⟩ := up1_el H
    replace H := H90
    obtain rfl := hx _ rfl
    exact J_dr (kX7_takeAll_141 H ) ⟨rfl, ⟨rfl, trivial⟩⟩
  · replace H := br0 q61 H
    refine J_aload_n 0 dX7_takeAll_122 rfl rfl ?_
    refine J_iload_n 2 dX7_takeAll_123 rfl rfl ?_
    obtain ⟨t101, h100, e99, H⟩ := b2_el H
    refine J_cV (as := [.int v2]) 6 YX7_ownStyle 1 dX7_takeAll_124 moX7_ownStyle mvX7_ownStyle mlX7_98 g60 rfl rfl (okX7_ownStyle (d := d + 1) e99) rfl rfl [] rfl rfl (st2 := [.ref t101]) rfl ?_
    refine J_aload_n 1 dX7_takeAll_127 rfl rfl ?_
    refine J_iload_n 2 dX7_takeAll_128 rfl rfl ?_
    obtain ⟨g103, H⟩ := gd H
    obtain ⟨t105, h104, e102, H⟩ := b2_el H
    refine J_cV (as := [.int v2]) 6 YX7_ownStyle 1 dX7_takeAll_129 moX7_ownStyle mvX7_ownStyle mlX7_98 g103 rfl rfl (okX7_ownStyle (d := d + 1) e102) rfl rfl [.ref t101] rfl rfl (st2 := [.ref t105, .ref t101]) rfl ?_
    obtain ⟨g107, H⟩ := gd H
    obtain ⟨h108, e106, H⟩ := bd H
    refine J_cV (as := [.ref t105]) 8 YX9_takeAll 1 dX7_takeAll_132 moX9_takeAll mvX9_takeAll mlX7_102 g107 rfl rfl (okX9_takeAll (d := d + 2) e106) rfl rfl [] rfl rfl (st2 := []) rfl ?_
    refine J_iinc (v2 + (1 : Int32)) dX7_takeAll_135 rfl (congrArg (HAdd.hAdd v2) kc_1) (by decide) (ls' := [.ref v0, .ref v1, .int (v2 + (1 : Int32)), Value.null]) rfl ?_
    refine J_goto 114 dX7_takeAll_138 rfl ?_
    cases H
    exact J_dr (hb0 _ rfl) ⟨rfl, ⟨rfl, ⟨rfl, trivial⟩⟩⟩
noncomputable def MX7_takeAll_114 (h : Hp) (v0 : Nat) (v1 : Nat) (v2 : Int32) : Option Hp := it (fun q : Int32 × Hp => BX7_takeAll_114 q.2 v0 v1 q.1) (v2, h)
set_option maxRecDepth 100000 in
set_option maxHeartbeats 8000000 in
theorem kX7_takeAll_114 {d : Nat} {h : Hp} {v0 : Nat} {v1 : Nat} {v2 : Int32} {h9 : Hp} (H : MX7_takeAll_114 h v0 v1 v2 = some h9) : J (d + 3) YX7_takeAll 114 [.ref v0, .ref v1, .int v2, Value.null] [] h oV h9 := by
  unfold MX7_takeAll_114 at H
  refine it_J (G := (fun q : Int32 × Hp => J (d + 3) YX7_takeAll 114 [.ref v0, .ref v1, .int q.1, Value.null] [] q.2 oV h9)) (Q := (fun y : Hp => y = h9)) (fun q x Hq hm => ?_) H rfl
  exact bX7_takeAll_114 Hq (fun s hs => by subst hs; exact hm) (fun z hz => by subst hz; exact hm)
noncomputable def MX7_takeAll (h : Hp) (v0 : Nat) (v1 : Nat) : Option Hp :=
  gg (β := Hp) (kd h v1 = 6) <|
  gg (β := Hp) (kd h v0 = 6) <|
  lt (α := Hp) (β := Option Hp) (sI h v0 0 (gI h v1 0)) fun (h3 : Hp) =>
  gg (β := Hp) (kd h (gP h v0 1) = 20) <|
  gg (β := Hp) (kd h (gP h v1 1) = 20) <|
  gg (β := Hp) (cpB (0 : Int32) (0 : Int32) (nI (ln h3 (gP h v0 1))) (ln h3 (gP h v1 1)) (ln h3 (gP h v0 1)) = true) <|
  lt (α := Hp) (β := Option Hp) (rI h3 (gP h v0 1) (va_cpy (gI h3 (gP h v1 1)) (gI h3 (gP h v0 1)) (0 : Int32).toNatClampNeg (0 : Int32).toNatClampNeg (nI (ln h3 (gP h v0 1))).toNatClampNeg)) fun (h11 : Hp) =>
  gg (β := Hp) (kd h (gP h v0 6) = 20) <|
  gg (β := Hp) (kd h (gP h v1 6) = 20) <|
  gg (β := Hp) (cpB (0 : Int32) (0 : Int32) (nI (ln h11 (gP h v0 6))) (ln h11 (gP h v1 6)) (ln h11 (gP h v0 6)) = true) <|
  lt (α := Hp) (β := Option Hp) (rI h11 (gP h v0 6) (va_cpy (gI h11 (gP h v1 6)) (gI h11 (gP h v0 6)) (0 : Int32).toNatClampNeg (0 : Int32).toNatClampNeg (nI (ln h11 (gP h v0 6))).toNatClampNeg)) fun (h19 : Hp) =>
  gg (β := Hp) (kd h (gP h v0 12) = 20) <|
  gg (β := Hp) (kd h (gP h v1 12) = 20) <|
  gg (β := Hp) (cpB (0 : Int32) (0 : Int32) (nI (ln h19 (gP h v0 12))) (ln h19 (gP h v1 12)) (ln h19 (gP h v0 12)) = true) <|
  lt (α := Hp) (β := Option Hp) (rI h19 (gP h v0 12) (va_cpy (gI h19 (gP h v1 12)) (gI h19 (gP h v0 12)) (0 : Int32).toNatClampNeg (0 : Int32).toNatClampNeg (nI (ln h19 (gP h v0 12))).toNatClampNeg)) fun (h27 : Hp) =>
  gg (β := Hp) (kd h (gP h v0 13) = 20) <|
  gg (β := Hp) (kd h (gP h v1 13) = 20) <|
  gg (β := Hp) (cpB (0 : Int32) (0 : Int32) (nI (ln h27 (gP h v0 13))) (ln h27 (gP h v1 13)) (ln h27 (gP h v0 13)) = true) <|
  lt (α := Hp) (β := Option Hp) (rI h27 (gP h v0 13) (va_cpy (gI h27 (gP h v1 13)) (gI h27 (gP h v0 13)) (0 : Int32).toNatClampNeg (0 : Int32).toNatClampNeg (nI (ln h27 (gP h v0 13))).toNatClampNeg)) fun (h35 : Hp) =>
  lt (α := Hp) (β := Option Hp) (sI h35 v0 7 (gI h35 v1 7)) fun (h40 : Hp) =>
  lt (α := Hp) (β := Option Hp) (sI h40 v0 3 (gI h40 v1 3)) fun (h45 : Hp) =>
  lt (α := Hp) (β := Option Hp) (sI h45 v0 9 (gI h45 v1 9)) fun (h50 : Hp) =>
  lt (α := Hp) (β := Option Hp) (sI h50 v0 11 (gI h50 v1 11)) fun (h55 : Hp) =>
  MX7_takeAll_114 h55 v0 v1 (0 : Int32)
set_option maxRecDepth 100000 in
set_option maxHeartbeats 8000000 in
theorem eX7_takeAll {d : Nat} {h : Hp} {v0 : Nat} {v1 : Nat} {h9 : Hp} (H : MX7_takeAll h v0 v1 = some h9) : J (d + 3) YX7_takeAll 0 [.ref v0, .ref v1, Value.null, Value.null] [] h oV h9 := by
  unfold MX7_takeAll at H
  refine J_aload_n 0 dX7_takeAll_0 rfl rfl ?_
  refine J_aload_n 1 dX7_takeAll_1 rfl rfl ?_
  obtain ⟨g1, H⟩ := gd H
  refine J_getI 6 0 dX7_takeAll_2 g1 flX7_9 rfl ?_
  obtain ⟨g2, H⟩ := gd H
  obtain ⟨h3, e4, H⟩ := lt_el H
  refine J_pI 6 0 dX7_takeAll_5 g2 flX7_9 rfl rfl e4 ?_
  have c5 := ekI e4
  have c6 := elI e4
  have c7 := epI e4
  refine J_aload_n 1 dX7_takeAll_8 rfl rfl ?_
  refine J_gP 6 1 dX7_takeAll_9 (kq c5 g1) flX7_15 rfl (congrFun (congrFun c7 v1) 1) ?_
  refine J_iconst (0 : Int32) dX7_takeAll_12 kc_0 ?_
  refine J_aload_n 0 dX7_takeAll_13 rfl rfl ?_
  refine J_gP 6 1 dX7_takeAll_14 (kq c5 g2) flX7_15 rfl (congrFun (congrFun c7 v0) 1) ?_
  refine J_iconst (0 : Int32) dX7_takeAll_17 kc_0 ?_
  refine J_aload_n 0 dX7_takeAll_18 rfl rfl ?_
  refine J_gP 6 1 dX7_takeAll_19 (kq c5 g2) flX7_15 rfl (congrFun (congrFun c7 v0) 1) ?_
  obtain ⟨g8, H⟩ := gd H
  refine J_len 20 dX7_takeAll_22 (kq c5 g8) rfl ?_
  obtain ⟨g9, H⟩ := gd H
  obtain ⟨g10, H⟩ := gd H
  obtain ⟨h11, e12, H⟩ := lt_el H
  refine J_cp 20 dX7_takeAll_23 mlX7_92 (Or.inl rfl) (kq c5 g9) (kq c5 g8) g10 rfl e12 ?_
  have c13 := (ekR e12).trans c5
  have c14 := (elR e12).trans c6
  have c15 := (epR e12).trans c7
  refine J_aload_n 1 dX7_takeAll_26 rfl rfl ?_
  refine J_gP 6 6 dX7_takeAll_27 (kq c13 g1) flX7_39 rfl (congrFun (congrFun c15 v1) 6) ?_
  refine J_iconst (0 : Int32) dX7_takeAll_30 kc_0 ?_
  refine J_aload_n 0 dX7_takeAll_31 rfl rfl ?_
  refine J_gP 6 6 dX7_takeAll_32 (kq c13 g2) flX7_39 rfl (congrFun (congrFun c15 v0) 6) ?_
  refine J_iconst (0 : Int32) dX7_takeAll_35 kc_0 ?_
  refine J_aload_n 0 dX7_takeAll_36 rfl rfl ?_
  refine J_gP 6 6 dX7_takeAll_37 (kq c13 g2) flX7_39 rfl (congrFun (congrFun c15 v0) 6) ?_
  obtain ⟨g16, H⟩ := gd H
  refine J_len 20 dX7_takeAll_40 (kq c13 g16) rfl ?_
  obtain ⟨g17, H⟩ := gd H
  obtain ⟨g18, H⟩ := gd H
  obtain ⟨h19, e20, H⟩ := lt_el H
  refine J_cp 20 dX7_takeAll_41 mlX7_92 (Or.inl rfl) (kq c13 g17) (kq c13 g16) g18 rfl e20 ?_
  have c21 := (ekR e20).trans c13
  have c22 := (elR e20).trans c14
  have c23 := (epR e20).trans c15
  refine J_aload_n 1 dX7_takeAll_44 rfl rfl ?_
  refine J_gP 6 12 dX7_takeAll_45 (kq c21 g1) flX7_63 rfl (congrFun (congrFun c23 v1) 12) ?_
  refine J_iconst (0 : Int32) dX7_takeAll_48 kc_0 ?_
  refine J_aload_n 0 dX7_takeAll_49 rfl rfl ?_
  refine J_gP 6 12 dX7_takeAll_50 (kq c21 g2) flX7_63 rfl (congrFun (congrFun c23 v0) 12) ?_
  refine J_iconst (0 : Int32) dX7_takeAll_53 kc_0 ?_
  refine J_aload_n 0 dX7_takeAll_54 rfl rfl ?_
  refine J_gP 6 12 dX7_takeAll_55 (kq c21 g2) flX7_63 rfl (congrFun (congrFun c23 v0) 12) ?_
  obtain ⟨g24, H⟩ := gd H
  refine J_len 20 dX7_takeAll_58 (kq c21 g24) rfl ?_
  obtain ⟨g25, H⟩ := gd H
  obtain ⟨g26, H⟩ := gd H
  obtain ⟨h27, e28, H⟩ := lt_el H
  refine J_cp 20 dX7_takeAll_59 mlX7_92 (Or.inl rfl) (kq c21 g25) (kq c21 g24) g26 rfl e28 ?_
  have c29 := (ekR e28).trans c21
  have c30 := (elR e28).trans c22
  have c31 := (epR e28).trans c23
  refine J_aload_n 1 dX7_takeAll_62 rfl rfl ?_
  refine J_gP 6 13 dX7_takeAll_63 (kq c29 g1) flX7_66 rfl (congrFun (congrFun c31 v1) 13) ?_
  refine J_iconst (0 : Int32) dX7_takeAll_66 kc_0 ?_
  refine J_aload_n 0 dX7_takeAll_67 rfl rfl ?_
  refine J_gP 6 13 dX7_takeAll_68 (kq c29 g2) flX7_66 rfl (congrFun (congrFun c31 v0) 13) ?_
  refine J_iconst (0 : Int32) dX7_takeAll_71 kc_0 ?_
  refine J_aload_n 0 dX7_takeAll_72 rfl rfl ?_
  refine J_gP 6 13 dX7_takeAll_73 (kq c29 g2) flX7_66 rfl (congrFun (congrFun c31 v0) 13) ?_
  obtain ⟨g32, H⟩ := gd H
  refine J_len 20 dX7_takeAll_76 (kq c29 g32) rfl ?_
  obtain ⟨g33, H⟩ := gd H
  obtain ⟨g34, H⟩ := gd H
  obtain ⟨h35, e36, H⟩ := lt_el H
  refine J_cp 20 dX7_takeAll_77 mlX7_92 (Or.inl rfl) (kq c29 g33) (kq c29 g32) g34 rfl e36 ?_
  have c37 := (ekR e36).trans c29
  have c38 := (elR e36).trans c30
  have c39 := (epR e36).trans c31
  refine J_aload_n 0 dX7_takeAll_80 rfl rfl ?_
  refine J_aload_n 1 dX7_takeAll_81 rfl rfl ?_
  refine J_getI 6 7 dX7_takeAll_82 (kq c37 g1) flX7_42 rfl ?_
  obtain ⟨h40, e41, H⟩ := lt_el H
  refine J_pI 6 7 dX7_takeAll_85 (kq c37 g2) flX7_42 rfl rfl e41 ?_
  have c42 := (ekI e41).trans c37
  have c43 := (elI e41).trans c38
  have c44 := (epI e41).trans c39
  refine J_aload_n 0 dX7_takeAll_88 rfl rfl ?_
  refine J_aload_n 1 dX7_takeAll_89 rfl rfl ?_
  refine J_getI 6 3 dX7_takeAll_90 (kq c42 g1) flX7_25 rfl ?_
  obtain ⟨h45, e46, H⟩ := lt_el H
  refine J_pI 6 3 dX7_takeAll_93 (kq c42 g2) flX7_25 rfl rfl e46 ?_
  have c47 := (ekI e46).trans c42
  have c48 := (elI e46).trans c43
  have c49 := (epI e46).trans c44
  refine J_aload_n 0 dX7_takeAll_96 rfl rfl ?_
  refine J_aload_n 1 dX7_takeAll_97 rfl rfl ?_
  refine J_getI 6 9 dX7_takeAll_98 (kq c47 g1) flX7_51 rfl ?_
  obtain ⟨h50, e51, H⟩ := lt_el H
  refine J_pI 6 9 dX7_takeAll_101 (kq c47 g2) flX7_51 rfl rfl e51 ?_
  have c52 := (ekI e51).trans c47
  have c53 := (elI e51).trans c48
  have c54 := (epI e51).trans c49
  refine J_aload_n 0 dX7_takeAll_104 rfl rfl ?_
  refine J_aload_n 1 dX7_takeAll_105 rfl rfl ?_
  refine J_getI 6 11 dX7_takeAll_106 (kq c52 g1) flX7_60 rfl ?_
  obtain ⟨h55, e56, H⟩ := lt_el H
  refine J_pI 6 11 dX7_takeAll_109 (kq c52 g2) flX7_60 rfl rfl e56 ?_
  have c57 := (ekI e56).trans c52
  have c58 := (elI e56).trans c53
  have c59 := (epI e56).trans c54
  refine J_iconst (0 : Int32) dX7_takeAll_112 kc_0 ?_
  refine J_istore_n 2 dX7_takeAll_113 rfl (by decide) (ls' := [.ref v0, .ref v1, .int (0 : Int32), Value.null]) rfl ?_
  exact J_dr (kX7_takeAll_114 H ) ⟨rfl, ⟨rfl, ⟨rfl, trivial⟩⟩⟩
theorem okX7_takeAll {d : Nat} {h : Hp} {v0 : Nat} {v1 : Nat} {h9 : Hp} (H : MX7_takeAll h v0 v1 = some h9) : CT (d + 3) YX7_takeAll [.ref v0, .ref v1] h oV h9 := CT_of (by decide +kernel) (Nat.le_of_ble_eq_true rfl) (eX7_takeAll H)
noncomputable def MX11_ahead_109 (h : Hp) (v0 : Nat) : Option ((Int32 ⊕ Nat) × Hp) :=
  gg (β := ((Int32 ⊕ Nat) × Hp)) (kd h v0 = 10) <|
  gg (β := ((Int32 ⊕ Nat) × Hp)) (kd h (gP h v0 11) = 6) <|
  b2 (α := Int32) (β := Hp) (γ := ((Int32 ⊕ Nat) × Hp)) (MX7_countJobs h (gP h v0 11)) fun (t20 : Int32) (h19 : Hp) =>
  if t20 = 0 then
    gg (β := ((Int32 ⊕ Nat) × Hp)) (kd h19 v0 = 10) <|
    gg (β := ((Int32 ⊕ Nat) × Hp)) (kd h19 (gP h19 v0 11) = 6) <|
    some (.inl (gI h19 (gP h19 v0 11) 0), h19)
  else
    some (.inl (-1 : Int32), h19)
set_option maxRecDepth 100000 in
set_option maxHeartbeats 8000000 in
theorem kX11_ahead_109 {d : Nat} {h : Hp} {v0 : Nat} {r : Int32 ⊕ Nat} {h9 : Hp} (H : MX11_ahead_109 h v0 = some (r, h9)) : J (d + 7) YX11_ahead 109 [.ref v0, Value.null, Value.null, Value.null] [] h (oT r) h9 := by
  unfold MX11_ahead_109 at H
  refine J_aload_n 0 dX11_ahead_109 rfl rfl ?_
  obtain ⟨g16, H⟩ := gd H
  refine J_gP 10 11 dX11_ahead_110 g16 flX11_70 rfl rfl ?_
  obtain ⟨g18, H⟩ := gd H
  obtain ⟨t20, h19, e17, H⟩ := b2_el H
  refine J_cV (as := []) 6 YX7_countJobs 0 dX11_ahead_113 moX7_countJobs mvX7_countJobs mlX11_477 g18 rfl rfl (okX7_countJobs (d := d + 4) e17) rfl rfl [] rfl rfl (st2 := [.int t20]) rfl ?_
  refine J_if_ne 129 dX11_ahead_116 rfl (fun q21 => ?_) (fun q21 => ?_)
  · replace H := br0 q21 H
    refine J_iconst (-1 : Int32) dX11_ahead_129 kc_m1 ?_
    cases H
    exact J_iretI dX11_ahead_130 rfl
  · replace H := br1 q21 H
    refine J_aload_n 0 dX11_ahead_119 rfl rfl ?_
    obtain ⟨g22, H⟩ := gd H
    refine J_gP 10 11 dX11_ahead_120 g22 flX11_70 rfl rfl ?_
    obtain ⟨g23, H⟩ := gd H
    refine J_getI 6 0 dX11_ahead_123 g23 flX11_117 rfl ?_
    refine J_goto 130 dX11_ahead_126 rfl ?_
    cases H
    exact J_iretI dX11_ahead_130 rfl
noncomputable def BX11_ahead_79 (h : Hp) (v0 : Nat) (v3 : Int32) : Option ((Int32 × Hp) ⊕ ((Int32 ⊕ Nat) × Hp)) :=
  if (600 : Int32) ≤ v3 then
    up1 (MX11_ahead_109 h v0)
  else
    gg (β := ((Int32 × Hp) ⊕ ((Int32 ⊕ Nat) × Hp))) (kd h v0 = 10) <|
    gg (β := ((Int32 × Hp) ⊕ ((Int32 ⊕ Nat) × Hp))) (kd h (gP h v0 11) = 6) <|
    b2 (α := Int32) (β := Hp) (γ := ((Int32 × Hp) ⊕ ((Int32 ⊕ Nat) × Hp))) (MX7_canRun h (gP h v0 11)) fun (t28 : Int32) (h27 : Hp) =>
    if t28 = 0 then
      up1 (MX11_ahead_109 h27 v0)
    else
      gg (β := ((Int32 × Hp) ⊕ ((Int32 ⊕ Nat) × Hp))) (kd h27 v0 = 10) <|
      gg (β := ((Int32 × Hp) ⊕ ((Int32 ⊕ Nat) × Hp))) (kd h27 (gP h27 v0 11) = 6) <|
      Option.bind (α := Hp) (β := ((Int32 × Hp) ⊕ ((Int32 ⊕ Nat) × Hp))) (MX7_passMinute h27 (gP h27 v0 11)) fun (h33 : Hp) =>
      some (.inl ((v3 + (1 : Int32)), h33))
set_option maxRecDepth 100000 in
set_option maxHeartbeats 8000000 in
theorem bX11_ahead_79 {d : Nat} {h : Hp} {v0 : Nat} {v3 : Int32} {r : Int32 ⊕ Nat} {h9 : Hp} {x : ((Int32 × Hp) ⊕ ((Int32 ⊕ Nat) × Hp))} (H : BX11_ahead_79 h v0 v3 = some x) (hb0 : ∀ s : Int32 × Hp, x = .inl s → J (d + 7) YX11_ahead 79 [.ref v0, Value.null, Value.null, .int s.1] [] s.2 (oT r) h9) (hx : ∀ z : ((Int32 ⊕ Nat) × Hp), x = .inr (z) → z = (r, h9)) : J (d + 7) YX11_ahead 79 [.ref v0, Value.null, Value.null, .int v3] [] h (oT r) h9 := by
  unfold BX11_ahead_79 at H
  refine J_iload_n 3 dX11_ahead_79 rfl rfl ?_
  refine J_sipush (600 : Int32) dX11_ahead_80 ks_600 ?_
  refine J_icmp_ge 109 dX11_ahead_83 rfl (fun q15 => ?_) (fun q15 => ?_)
  · replace H := br1 q15 H
    obtain ⟨y0, H90, rfl⟩ := up1_el H
    replace H := H90
    obtain rfl := hx _ rfl
    exact J_dr (kX11_ahead_109 H ) ⟨rfl, trivial⟩
  · replace H := br0 q15 H
    refine J_aload_n 0 dX11_ahead_86 rfl rfl ?_
    obtain ⟨g24, H⟩ := gd H
    refine J_gP 10 11 dX11_ahead_87 g24 flX11_70 rfl rfl ?_
    obtain ⟨g26, H⟩ := gd H
    obtain ⟨t28, h27, e25, H⟩ := b2_el H
    refine J_cV (as := []) 6 YX7_canRun 0 dX11_ahead_90 moX7_canRun mvX7_canRun mlX11_473 g26 rfl rfl (okX7_canRun (d := d + 4) e25) rfl rfl [] rfl rfl (st2 := [.int t28]) rfl ?_
    refine J_if_eq 109 dX11_ahead_93 rfl (fun q29 => ?_) (fun q29 => ?_)
    · replace H := br1 q29 H
      obtain ⟨y0, H90, rfl⟩ := up1_el H
      replace H := H90
      obtain rfl := hx _ rfl
      exact J_dr (kX11_ahead_109 H ) ⟨rfl, trivial⟩
    · replace H := br0 q29 H
      refine J_aload_n 0 dX11_ahead_96 rfl rfl ?_
      obtain ⟨g30, H⟩ := gd H
      refine J_gP 10 11 dX11_ahead_97 g30 flX11_70 rfl rfl ?_
      obtain ⟨g32, H⟩ := gd H
      obtain ⟨h33, e31, H⟩ := bd H
      refine J_cV (as := []) 6 YX7_passMinute 0 dX11_ahead_100 moX7_passMinute mvX7_passMinute mlX11_265 g32 rfl rfl (okX7_passMinute (d := d) e31) rfl rfl [] rfl rfl (st2 := []) rfl ?_
      refine J_iinc (v3 + (1 : Int32)) dX11_ahead_103 rfl (congrArg (HAdd.hAdd v3) kc_1) (by decide) (ls' := [.ref v0, Value.null, Value.null, .int (v3 + (1 : Int32))]) rfl ?_
      refine J_goto 79 dX11_ahead_106 rfl ?_
      cases H
      exact J_dr (hb0 _ rfl) ⟨rfl, ⟨rfl, trivial⟩⟩
noncomputable def MX11_ahead_79 (h : Hp) (v0 : Nat) (v3 : Int32) : Option ((Int32 ⊕ Nat) × Hp) := it (fun q : Int32 × Hp => BX11_ahead_79 q.2 v0 q.1) (v3, h)
set_option maxRecDepth 100000 in
set_option maxHeartbeats 8000000 in
theorem kX11_ahead_79 {d : Nat} {h : Hp} {v0 : Nat} {v3 : Int32} {r : Int32 ⊕ Nat} {h9 : Hp} (H : MX11_ahead_79 h v0 v3 = some (r, h9)) : J (d + 7) YX11_ahead 79 [.ref v0, Value.null, Value.null, .int v3] [] h (oT r) h9 := by
  unfold MX11_ahead_79 at H
  refine it_J (G := (fun q : Int32 × Hp => J (d + 7) YX11_ahead 79 [.ref v0, Value.null, Value.null, .int q.1] [] q.2 (oT r) h9)) (Q := (fun y : ((Int32 ⊕ Nat) × Hp) => y = (r, h9))) (fun q x Hq hm => ?_) H rfl
  exact bX11_ahead_79 Hq (fun s hs => by subst hs; exact hm) (fun z hz => by subst hz; exact hm)
noncomputable def MX11_ahead_71 (h : Hp) (v0 : Nat) : Option ((Int32 ⊕ Nat) × Hp) :=
  gg (β := ((Int32 ⊕ Nat) × Hp)) (kd h v0 = 10) <|
  gg (β := ((Int32 ⊕ Nat) × Hp)) (kd h (gP h v0 5) = 6) <|
  MX11_ahead_79 h v0 (gI h (gP h v0 5) 0)
set_option maxRecDepth 100000 in
set_option maxHeartbeats 8000000 in
theorem kX11_ahead_71 {d : Nat} {h : Hp} {v0 : Nat} {r : Int32 ⊕ Nat} {h9 : Hp} (H : MX11_ahead_71 h v0 = some (r, h9)) : J (d + 7) YX11_ahead 71 [.ref v0, Value.null, Value.null, Value.null] [] h (oT r) h9 := by
  unfold MX11_ahead_71 at H
  refine J_aload_n 0 dX11_ahead_71 rfl rfl ?_
  obtain ⟨g13, H⟩ := gd H
  refine J_gP 10 5 dX11_ahead_72 g13 flX11_39 rfl rfl ?_
  obtain ⟨g14, H⟩ := gd H
  refine J_getI 6 0 dX11_ahead_75 g14 flX11_117 rfl ?_
  refine J_istore_n 3 dX11_ahead_78 rfl (by decide) (ls' := [.ref v0, Value.null, Value.null, .int (gI h (gP h v0 5) 0)]) rfl ?_
  exact J_dr (kX11_ahead_79 H ) ⟨rfl, ⟨rfl, trivial⟩⟩
noncomputable def MX11_ahead_42 (h : Hp) (v0 : Nat) (v1 : Int32) : Option ((Int32 ⊕ Nat) × Hp) :=
  gg (β := ((Int32 ⊕ Nat) × Hp)) (kd h v0 = 10) <|
  gg (β := ((Int32 ⊕ Nat) × Hp)) (kd h (gP h v0 11) = 6) <|
  Option.bind (α := Hp) (β := ((Int32 ⊕ Nat) × Hp)) (MX7_takeAll h (gP h v0 11) (gP h v0 5)) fun (h7 : Hp) =>
  gg (β := ((Int32 ⊕ Nat) × Hp)) (kd h7 v0 = 10) <|
  gg (β := ((Int32 ⊕ Nat) × Hp)) (kd h7 (gP h7 v0 11) = 6) <|
  Option.bind (α := Nat) (β := ((Int32 ⊕ Nat) × Hp)) (MX7_findMachine h7 (gP h7 v0 11) v1) fun (t11 : Nat) =>
  if t11 = 0 then
    MX11_ahead_71 h7 v0
  else
    gg (β := ((Int32 ⊕ Nat) × Hp)) (kd h7 t11 = 3) <|
    lt (α := Hp) (β := Option ((Int32 ⊕ Nat) × Hp)) (sI h7 t11 2 (1 : Int32)) fun (h35 : Hp) =>
    MX11_ahead_71 h35 v0
set_option maxRecDepth 100000 in
set_option maxHeartbeats 8000000 in
theorem kX11_ahead_42 {d : Nat} {h : Hp} {v0 : Nat} {v1 : Int32} {r : Int32 ⊕ Nat} {h9 : Hp} (H : MX11_ahead_42 h v0 v1 = some (r, h9)) : J (d + 7) YX11_ahead 42 [.ref v0, .int v1, Value.null, Value.null] [] h (oT r) h9 := by
  unfold MX11_ahead_42 at H
  refine J_aload_n 0 dX11_ahead_42 rfl rfl ?_
  obtain ⟨g4, H⟩ := gd H
  refine J_gP 10 11 dX11_ahead_43 g4 flX11_70 rfl rfl ?_
  refine J_aload_n 0 dX11_ahead_46 rfl rfl ?_
  refine J_gP 10 5 dX11_ahead_47 g4 flX11_39 rfl rfl ?_
  obtain ⟨g6, H⟩ := gd H
  obtain ⟨h7, e5, H⟩ := bd H
  refine J_cV (as := [.ref (gP h v0 5)]) 6 YX7_takeAll 1 dX11_ahead_50 moX7_takeAll mvX7_takeAll mlX11_469 g6 rfl rfl (okX7_takeAll (d := d + 3) e5) rfl rfl [] rfl rfl (st2 := []) rfl ?_
  refine J_aload_n 0 dX11_ahead_53 rfl rfl ?_
  obtain ⟨g8, H⟩ := gd H
  refine J_gP 10 11 dX11_ahead_54 g8 flX11_70 rfl rfl ?_
  refine J_iload_n 1 dX11_ahead_57 rfl rfl ?_
  obtain ⟨g10, H⟩ := gd H
  obtain ⟨t11, e9, H⟩ := bd H
  refine J_cV (as := [.int v1]) 6 YX7_findMachine 1 dX11_ahead_58 moX7_findMachine mvX7_findMachine mlX11_231 g10 rfl rfl (okX7_findMachine (d := d + 6) e9) rfl rfl [] rfl rfl (st2 := [.ref t11]) rfl ?_
  refine J_astore_n 2 dX11_ahead_61 rfl (by decide) (ls' := [.ref v0, .int v1, .ref t11, Value.null]) rfl ?_
  refine J_aload_n 2 dX11_ahead_62 rfl rfl ?_
  refine J_ifnull 71 dX11_ahead_63 rfl (fun q12 => ?_) (fun q12 => ?_)
  · replace H := br1 q12 H
    exact J_dr (kX11_ahead_71 H ) ⟨rfl, trivial⟩
  · replace H := br0 q12 H
    refine J_aload_n 2 dX11_ahead_66 rfl rfl ?_
    refine J_iconst (1 : Int32) dX11_ahead_67 kc_1 ?_
    obtain ⟨g34, H⟩ := gd H
    obtain ⟨h35, e36, H⟩ := lt_el H
    refine J_pZ 3 2 dX11_ahead_68 g34 flX11_255 rfl rfl rfl e36 ?_
    have c37 := ekI e36
    have c38 := elI e36
    have c39 := epI e36
    exact J_dr (kX11_ahead_71 H ) ⟨rfl, trivial⟩
noncomputable def MX11_ahead_24 (h : Hp) (v0 : Nat) (v1 : Int32) : Option ((Int32 ⊕ Nat) × Hp) :=
  gg (β := ((Int32 ⊕ Nat) × Hp)) (kd h v0 = 10) <|
  if (gP h v0 11) = 0 then
    lt (α := Hp) (β := Option ((Int32 ⊕ Nat) × Hp)) (alc h 6 20) fun (h40 : Hp) =>
    Option.bind (α := Hp) (β := ((Int32 ⊕ Nat) × Hp)) (MX7_init h40 (sz h + 1)) fun (h43 : Hp) =>
    gg (β := ((Int32 ⊕ Nat) × Hp)) (kd h43 v0 = 10) <|
    lt (α := Hp) (β := Option ((Int32 ⊕ Nat) × Hp)) (sP h43 v0 11 (sz h + 1)) fun (h45 : Hp) =>
    MX11_ahead_42 h45 v0 v1
  else
    MX11_ahead_42 h v0 v1
set_option maxRecDepth 100000 in
set_option maxHeartbeats 8000000 in
theorem kX11_ahead_24 {d : Nat} {h : Hp} {v0 : Nat} {v1 : Int32} {r : Int32 ⊕ Nat} {h9 : Hp} (H : MX11_ahead_24 h v0 v1 = some (r, h9)) : J (d + 7) YX11_ahead 24 [.ref v0, .int v1, Value.null, Value.null] [] h (oT r) h9 := by
  unfold MX11_ahead_24 at H
  refine J_aload_n 0 dX11_ahead_24 rfl rfl ?_
  obtain ⟨g2, H⟩ := gd H
  refine J_gP 10 11 dX11_ahead_25 g2 flX11_70 rfl rfl ?_
  refine J_ifnonnull 42 dX11_ahead_28 rfl (fun q3 => ?_) (fun q3 => ?_)
  · replace H := br0 q3 H
    exact J_dr (kX11_ahead_42 H ) ⟨rfl, ⟨rfl, trivial⟩⟩
  · replace H := br1 q3 H
    refine J_aload_n 0 dX11_ahead_31 rfl rfl ?_
    obtain ⟨h40, e41, H⟩ := lt_el H
    refine J_nO 6 20 dX11_ahead_32 rfl rfl clX11_36 in6 ini6 e41 ?_
    refine J_dup dX11_ahead_35 rfl ?_
    obtain ⟨h43, e42, H⟩ := bd H
    refine J_cI (as := []) YX7_init 0 dX11_ahead_36 moX7_init miX7_init mlX11_38 rfl rfl (kn99 (ekN e41) rfl) (okX7_init (d := d + 5) e42) rfl rfl [.ref (sz h + 1), .ref v0] rfl rfl ?_
    obtain ⟨g44, H⟩ := gd H
    obtain ⟨h45, e46, H⟩ := lt_el H
    refine J_pP 10 11 dX11_ahead_39 g44 flX11_70 rfl rfl e46 ?_
    have c47 := ekP e46
    have c48 := elP e46
    exact J_dr (kX11_ahead_42 H ) ⟨rfl, ⟨rfl, trivial⟩⟩
noncomputable def MX11_ahead (h : Hp) (v0 : Nat) (v1 : Int32) : Option ((Int32 ⊕ Nat) × Hp) :=
  if v1 = (-1 : Int32) then
    MX11_ahead_24 h v0 v1
  else
    gg (β := ((Int32 ⊕ Nat) × Hp)) (kd h v0 = 10) <|
    gg (β := ((Int32 ⊕ Nat) × Hp)) (kd h (gP h v0 5) = 6) <|
    Option.bind (α := Nat) (β := ((Int32 ⊕ Nat) × Hp)) (MX7_findMachine h (gP h v0 5) v1) fun (t52 : Nat) =>
    if t52 = 0 then
      some (.inr 1, bmp h 1 6)
    else
      MX11_ahead_24 h v0 v1
set_option maxRecDepth 100000 in
set_option maxHeartbeats 8000000 in
theorem eX11_ahead {d : Nat} {h : Hp} {v0 : Nat} {v1 : Int32} {r : Int32 ⊕ Nat} {h9 : Hp} (H : MX11_ahead h v0 v1 = some (r, h9)) : J (d + 7) YX11_ahead 0 [.ref v0, .int v1, Value.null, Value.null] [] h (oT r) h9 := by
  unfold MX11_ahead at H
  refine J_iload_n 1 dX11_ahead_0 rfl rfl ?_
  refine J_iconst (-1 : Int32) dX11_ahead_1 kc_m1 ?_
  refine J_icmp_eq 24 dX11_ahead_2 rfl (fun q1 => ?_) (fun q1 => ?_)
  · replace H := br1 q1 H
    exact J_dr (kX11_ahead_24 H ) ⟨rfl, ⟨rfl, trivial⟩⟩
  · replace H := br0 q1 H
    refine J_aload_n 0 dX11_ahead_5 rfl rfl ?_
    obtain ⟨g49, H⟩ := gd H
    refine J_gP 10 5 dX11_ahead_6 g49 flX11_39 rfl rfl ?_
    refine J_iload_n 1 dX11_ahead_9 rfl rfl ?_
    obtain ⟨g51, H⟩ := gd H
    obtain ⟨t52, e50, H⟩ := bd H
    refine J_cV (as := [.int v1]) 6 YX7_findMachine 1 dX11_ahead_10 moX7_findMachine mvX7_findMachine mlX11_231 g51 rfl rfl (okX7_findMachine (d := d + 6) e50) rfl rfl [] rfl rfl (st2 := [.ref t52]) rfl ?_
    refine J_ifnonnull 24 dX11_ahead_13 rfl (fun q53 => ?_) (fun q53 => ?_)
    · replace H := br0 q53 H
      exact J_dr (kX11_ahead_24 H ) ⟨rfl, ⟨rfl, trivial⟩⟩
    · replace H := br1 q53 H
      cases H
      exact J_throw 1 ["java/lang/RuntimeException", "java/lang/Exception"] dX11_ahead_16 dX11_ahead_19 dX11_ahead_20 dX11_ahead_23 th_86 clX11_84 (Nat.le_of_ble_eq_true rfl)
theorem okX11_ahead {d : Nat} {h : Hp} {v0 : Nat} {v1 : Int32} {r : Int32 ⊕ Nat} {h9 : Hp} (H : MX11_ahead h v0 v1 = some (r, h9)) : CT (d + 7) YX11_ahead [.ref v0, .int v1] h (oT r) h9 := CT_of (by decide +kernel) (Nat.le_of_ble_eq_true rfl) (eX11_ahead H)
noncomputable def MX2_addSlug_20 (h : Hp) (v0 : Nat) (v1 : Int32) (v2 : Int32) : Option Hp :=
  gg (β := Hp) (kd h v0 = 1) <|
  gg (β := Hp) (kd h (gP h v0 5) = 20) <|
  gg (β := Hp) (inB v1 (ln h (gP h v0 5)) = true) <|
  if (180 : Int32) ≤ (gI h (gP h v0 5) v1.toNatClampNeg) then
    some h
  else
    gg (β := Hp) (kd h (gP h v0 4) = 24) <|
    gg (β := Hp) (inB v1 (ln h (gP h v0 4)) = true) <|
    gg (β := Hp) (kd h (gP h (gP h v0 4) v1.toNatClampNeg) = 20) <|
    gg (β := Hp) (inB (gI h (gP h v0 5) v1.toNatClampNeg) (ln h (gP h (gP h v0 4) v1.toNatClampNeg)) = true) <|
    lt (α := Hp) (β := Option Hp) (sI h (gP h (gP h v0 4) v1.toNatClampNeg) (gI h (gP h v0 5) v1.toNatClampNeg).toNatClampNeg v2) fun (h13 : Hp) =>
    lt (α := Hp) (β := Option Hp) (sI h13 (gP h v0 5) v1.toNatClampNeg ((gI h13 (gP h v0 5) v1.toNatClampNeg) + (1 : Int32))) fun (h18 : Hp) =>
    some h18
set_option maxRecDepth 100000 in
set_option maxHeartbeats 8000000 in
theorem kX2_addSlug_20 {d : Nat} {h : Hp} {v0 : Nat} {v1 : Int32} {v2 : Int32} {h9 : Hp} (H : MX2_addSlug_20 h v0 v1 v2 = some h9) : J (d) YX2_addSlug 20 [.ref v0, .int v1, .int v2] [] h oV h9 := by
  unfold MX2_addSlug_20 at H
  refine J_aload_n 0 dX2_addSlug_20 rfl rfl ?_
  obtain ⟨g5, H⟩ := gd H
  refine J_gP 1 5 dX2_addSlug_21 g5 flX2_29 rfl rfl ?_
  refine J_iload_n 1 dX2_addSlug_24 rfl rfl ?_
  obtain ⟨g6, H⟩ := gd H
  obtain ⟨g7, H⟩ := gd H
  refine J_iald dX2_addSlug_25 g6 (inB_ok g7) ?_
  refine J_sipush (180 : Int32) dX2_addSlug_26 ks_180 ?_
  refine J_icmp_ge 56 dX2_addSlug_29 rfl (fun q8 => ?_) (fun q8 => ?_)
  · replace H := br1 q8 H
    cases H
    exact J_ret dX2_addSlug_56 rfl
  · replace H := br0 q8 H
    refine J_aload_n 0 dX2_addSlug_32 rfl rfl ?_
    refine J_gP 1 4 dX2_addSlug_33 g5 flX2_25 rfl rfl ?_
    refine J_iload_n 1 dX2_addSlug_36 rfl rfl ?_
    obtain ⟨g9, H⟩ := gd H
    obtain ⟨g10, H⟩ := gd H
    refine J_lP 24 dX2_addSlug_37 g9 rfl (inB_ok g10) rfl ?_
    refine J_aload_n 0 dX2_addSlug_38 rfl rfl ?_
    refine J_gP 1 5 dX2_addSlug_39 g5 flX2_29 rfl rfl ?_
    refine J_iload_n 1 dX2_addSlug_42 rfl rfl ?_
    refine J_iald dX2_addSlug_43 g6 (inB_ok g7) ?_
    refine J_iload_n 2 dX2_addSlug_44 rfl rfl ?_
    obtain ⟨g11, H⟩ := gd H
    obtain ⟨g12, H⟩ := gd H
    obtain ⟨h13, e14, H⟩ := lt_el H
    refine J_sI dX2_addSlug_45 g11 (inB_ok g12) e14 ?_
    have c15 := ekI e14
    have c16 := elI e14
    have c17 := epI e14
    refine J_aload_n 0 dX2_addSlug_46 rfl rfl ?_
    refine J_gP 1 5 dX2_addSlug_47 (kq c15 g5) flX2_29 rfl (congrFun (congrFun c17 v0) 5) ?_
    refine J_iload_n 1 dX2_addSlug_50 rfl rfl ?_
    refine J_dup2 dX2_addSlug_51 rfl rfl ?_
    refine J_iald dX2_addSlug_52 (kq c15 g6) (lq c16 g7) ?_
    refine J_iconst (1 : Int32) dX2_addSlug_53 kc_1 ?_
    refine J_iadd dX2_addSlug_54 ?_
    obtain ⟨h18, e19, H⟩ := lt_el H
    refine J_sI dX2_addSlug_55 (kq c15 g6) (lq c16 g7) e19 ?_
    have c20 := (ekI e19).trans c15
    have c21 := (elI e19).trans c16
    have c22 := (epI e19).trans c17
    cases H
    exact J_ret dX2_addSlug_56 rfl
noncomputable def MX2_addSlug (h : Hp) (v0 : Nat) (v1 : Int32) (v2 : Int32) : Option Hp :=
  gg (β := Hp) (kd h v0 = 1) <|
  gg (β := Hp) (kd h (gP h v0 4) = 24) <|
  gg (β := Hp) (inB v1 (ln h (gP h v0 4)) = true) <|
  if (gP h (gP h v0 4) v1.toNatClampNeg) = 0 then
    lt (α := Hp) (β := Option Hp) (alc h 20 (180)) fun (h23 : Hp) =>
    gg (β := Hp) (kd h23 (gP h v0 4) = 24) <|
    gg (β := Hp) (inB v1 (ln h23 (gP h v0 4)) = true) <|
    lt (α := Hp) (β := Option Hp) (sP h23 (gP h v0 4) v1.toNatClampNeg (sz h + 1)) fun (h27 : Hp) =>
    MX2_addSlug_20 h27 v0 v1 v2
  else
    MX2_addSlug_20 h v0 v1 v2
set_option maxRecDepth 100000 in
set_option maxHeartbeats 8000000 in
theorem eX2_addSlug {d : Nat} {h : Hp} {v0 : Nat} {v1 : Int32} {v2 : Int32} {h9 : Hp} (H : MX2_addSlug h v0 v1 v2 = some h9) : J (d) YX2_addSlug 0 [.ref v0, .int v1, .int v2] [] h oV h9 := by
  unfold MX2_addSlug at H
  refine J_aload_n 0 dX2_addSlug_0 rfl rfl ?_
  obtain ⟨g1, H⟩ := gd H
  refine J_gP 1 4 dX2_addSlug_1 g1 flX2_25 rfl rfl ?_
  refine J_iload_n 1 dX2_addSlug_4 rfl rfl ?_
  obtain ⟨g2, H⟩ := gd H
  obtain ⟨g3, H⟩ := gd H
  refine J_lP 24 dX2_addSlug_5 g2 rfl (inB_ok g3) rfl ?_
  refine J_ifnonnull 20 dX2_addSlug_6 rfl (fun q4 => ?_) (fun q4 => ?_)
  · replace H := br0 q4 H
    exact J_dr (kX2_addSlug_20 H ) ⟨rfl, ⟨rfl, ⟨rfl, trivial⟩⟩⟩
  · replace H := br1 q4 H
    refine J_aload_n 0 dX2_addSlug_9 rfl rfl ?_
    refine J_gP 1 4 dX2_addSlug_10 g1 flX2_25 rfl rfl ?_
    refine J_iload_n 1 dX2_addSlug_13 rfl rfl ?_
    refine J_sipush (180 : Int32) dX2_addSlug_14 ks_180 ?_
    obtain ⟨h23, e24, H⟩ := lt_el H
    refine J_nI (180) dX2_addSlug_17 (by decide) (by decide) (by decide) e24 ?_
    obtain ⟨g25, H⟩ := gd H
    obtain ⟨g26, H⟩ := gd H
    obtain ⟨h27, e28, H⟩ := lt_el H
    refine J_sAA dX2_addSlug_19 g25 (ekN e24) (inB_ok g26) e28 ?_
    have c29 := ekP e28
    have c30 := elP e28
    exact J_dr (kX2_addSlug_20 H ) ⟨rfl, ⟨rfl, ⟨rfl, trivial⟩⟩⟩
theorem okX2_addSlug {d : Nat} {h : Hp} {v0 : Nat} {v1 : Int32} {v2 : Int32} {h9 : Hp} (H : MX2_addSlug h v0 v1 v2 = some h9) : CT (d) YX2_addSlug [.ref v0, .int v1, .int v2] h oV h9 := CT_of (by decide +kernel) (Nat.le_of_ble_eq_true rfl) (eX2_addSlug H)
