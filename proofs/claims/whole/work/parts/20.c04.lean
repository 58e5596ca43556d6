noncomputable def BX2_takeRow_10 (h : Hp) (v0 : Nat) (v1 : Int32) (v2 : Nat) (v3 : Int32) (v4 : Int32) : Option ((Int32 × Hp) ⊕ Hp) :=
  if v3 ≤ v4 then
    some (.inr (h))
  else
    if v2 = 0 then
      some (.inr (h))
    else
      gg (β := ((Int32 × Hp) ⊕ Hp)) (kd h v2 = 20) <|
      if (nI (ln h v2)) ≤ v4 then
        some (.inr (h))
      else
        gg (β := ((Int32 × Hp) ⊕ Hp)) (inB v4 (ln h v2) = true) <|
        gg (β := ((Int32 × Hp) ⊕ Hp)) (kd h v0 = 1) <|
        Option.bind (α := Hp) (β := ((Int32 × Hp) ⊕ Hp)) (MX2_addSlug h v0 v1 (gI h v2 v4.toNatClampNeg)) fun (h16 : Hp) =>
        some (.inl ((v4 + (1 : Int32)), h16))
set_option maxRecDepth 100000 in
set_option maxHeartbeats 8000000 in
theorem bX2_takeRow_10 {d : Nat} {h : Hp} {v0 : Nat} {v1 : Int32} {v2 : Nat} {v3 : Int32} {v4 : Int32} {h9 : Hp} {x : ((Int32 × Hp) ⊕ Hp)} (H : BX2_takeRow_10 h v0 v1 v2 v3 v4 = some x) (hb0 : ∀ s : Int32 × Hp, x = .inl s → J (d + 1) YX2_takeRow 10 [.ref v0, .int v1, .ref v2, .int v3, .int s.1] [] s.2 oV h9) (hx : ∀ z : Hp, x = .inr (z) → z = h9) : J (d + 1) YX2_takeRow 10 [.ref v0, .int v1, .ref v2, .int v3, .int v4] [] h oV h9 := by
  unfold BX2_takeRow_10 at H
  refine J_iload dX2_takeRow_10 rfl ?_
  refine J_iload_n 3 dX2_takeRow_12 rfl rfl ?_
  refine J_icmp_ge 42 dX2_takeRow_13 rfl (fun q9 => ?_) (fun q9 => ?_)
  · replace H := br1 q9 H
    cases H
    cases hx _ rfl
    exact J_ret dX2_takeRow_42 rfl
  · replace H := br0 q9 H
    refine J_aload_n 2 dX2_takeRow_16 rfl rfl ?_
    refine J_ifnull 42 dX2_takeRow_17 rfl (fun q10 => ?_) (fun q10 => ?_)
    · replace H := br1 q10 H
      cases H
      cases hx _ rfl
      exact J_ret dX2_takeRow_42 rfl
    · replace H := br0 q10 H
      refine J_iload dX2_takeRow_20 rfl ?_
      refine J_aload_n 2 dX2_takeRow_22 rfl rfl ?_
      obtain ⟨g11, H⟩ := gd H
      refine J_len 20 dX2_takeRow_23 g11 rfl ?_
      refine J_icmp_ge 42 dX2_takeRow_24 rfl (fun q12 => ?_) (fun q12 => ?_)
      · replace H := br1 q12 H
        cases H
        cases hx _ rfl
        exact J_ret dX2_takeRow_42 rfl
      · replace H := br0 q12 H
        refine J_aload_n 0 dX2_takeRow_27 rfl rfl ?_
        refine J_iload_n 1 dX2_takeRow_28 rfl rfl ?_
        refine J_aload_n 2 dX2_takeRow_29 rfl rfl ?_
        refine J_iload dX2_takeRow_30 rfl ?_
        obtain ⟨g13, H⟩ := gd H
        refine J_iald dX2_takeRow_32 g11 (inB_ok g13) ?_
        obtain ⟨g15, H⟩ := gd H
        obtain ⟨h16, e14, H⟩ := bd H
        refine J_cV (as := [.int v1, .int (gI h v2 v4.toNatClampNeg)]) 1 YX2_addSlug 2 dX2_takeRow_33 moX2_addSlug mvX2_addSlug mlX2_61 g15 rfl rfl (okX2_addSlug (d := d) e14) rfl rfl [] rfl rfl (st2 := []) rfl ?_
        refine J_iinc (v4 + (1 : Int32)) dX2_takeRow_36 rfl (congrArg (HAdd.hAdd v4) kc_1) (by decide) (ls' := [.ref v0, .int v1, .ref v2, .int v3, .int (v4 + (1 : Int32))]) rfl ?_
        refine J_goto 10 dX2_takeRow_39 rfl ?_
        cases H
        exact J_dr (hb0 _ rfl) ⟨rfl, ⟨rfl, ⟨rfl, ⟨rfl, ⟨rfl, trivial⟩⟩⟩⟩⟩
noncomputable def MX2_takeRow_10 (h : Hp) (v0 : Nat) (v1 : Int32) (v2 : Nat) (v3 : Int32) (v4 : Int32) : Option Hp := it (fun q : Int32 × Hp => BX2_takeRow_10 q.2 v0 v1 v2 v3 q.1) (v4, h)
set_option maxRecDepth 100000 in
set_option maxHeartbeats 8000000 in
theorem kX2_takeRow_10 {d : Nat} {h : Hp} {v0 : Nat} {v1 : Int32} {v2 : Nat} {v3 : Int32} {v4 : Int32} {h9 : Hp} (H : MX2_takeRow_10 h v0 v1 v2 v3 v4 = some h9) : J (d + 1) YX2_takeRow 10 [.ref v0, .int v1, .ref v2, .int v3, .int v4] [] h oV h9 := by
  unfold MX2_takeRow_10 at H
  refine it_J (G := (fun q : Int32 × Hp => J (d + 1) YX2_takeRow 10 [.ref v0, .int v1, .ref v2, .int v3, .int q.1] [] q.2 oV h9)) (Q := (fun y : Hp => y = h9)) (fun q x Hq hm => ?_) H rfl
  exact bX2_takeRow_10 Hq (fun s hs => by subst hs; exact hm) (fun z hz => by subst hz; exact hm)
noncomputable def MX2_takeRow (h : Hp) (v0 : Nat) (v1 : Int32) (v2 : Nat) (v3 : Int32) : Option Hp :=
  gg (β := Hp) (kd h v0 = 1) <|
  gg (β := Hp) (kd h (gP h v0 5) = 20) <|
  gg (β := Hp) (inB v1 (ln h (gP h v0 5)) = true) <|
  lt (α := Hp) (β := Option Hp) (sI h (gP h v0 5) v1.toNatClampNeg (0 : Int32)) fun (h4 : Hp) =>
  MX2_takeRow_10 h4 v0 v1 v2 v3 (0 : Int32)
set_option maxRecDepth 100000 in
set_option maxHeartbeats 8000000 in
theorem eX2_takeRow {d : Nat} {h : Hp} {v0 : Nat} {v1 : Int32} {v2 : Nat} {v3 : Int32} {h9 : Hp} (H : MX2_takeRow h v0 v1 v2 v3 = some h9) : J (d + 1) YX2_takeRow 0 [.ref v0, .int v1, .ref v2, .int v3, Value.null] [] h oV h9 := by
  unfold MX2_takeRow at H
  refine J_aload_n 0 dX2_takeRow_0 rfl rfl ?_
  obtain ⟨g1, H⟩ := gd H
  refine J_gP 1 5 dX2_takeRow_1 g1 flX2_29 rfl rfl ?_
  refine J_iload_n 1 dX2_takeRow_4 rfl rfl ?_
  refine J_iconst (0 : Int32) dX2_takeRow_5 kc_0 ?_
  obtain ⟨g2, H⟩ := gd H
  obtain ⟨g3, H⟩ := gd H
  obtain ⟨h4, e5, H⟩ := lt_el H
  refine J_sI dX2_takeRow_6 g2 (inB_ok g3) e5 ?_
  have c6 := ekI e5
  have c7 := elI e5
  have c8 := epI e5
  refine J_iconst (0 : Int32) dX2_takeRow_7 kc_0 ?_
  refine J_istore dX2_takeRow_8 (by decide) (ls' := [.ref v0, .int v1, .ref v2, .int v3, .int (0 : Int32)]) rfl ?_
  exact J_dr (kX2_takeRow_10 H ) ⟨rfl, ⟨rfl, ⟨rfl, ⟨rfl, ⟨rfl, trivial⟩⟩⟩⟩⟩
theorem okX2_takeRow {d : Nat} {h : Hp} {v0 : Nat} {v1 : Int32} {v2 : Nat} {v3 : Int32} {h9 : Hp} (H : MX2_takeRow h v0 v1 v2 v3 = some h9) : CT (d + 1) YX2_takeRow [.ref v0, .int v1, .ref v2, .int v3] h oV h9 := CT_of (by decide +kernel) (Nat.le_of_ble_eq_true rfl) (eX2_takeRow H)
noncomputable def BX2_takeAll_162 (h : Hp) (v0 : Nat) (v1 : Nat) (v2 : Int32) : Option ((Int32 × Hp) ⊕ Hp) :=
  if (54 : Int32) ≤ v2 then
    some (.inr (h))
  else
    gg (β := ((Int32 × Hp) ⊕ Hp)) (kd h v1 = 1) <|
    gg (β := ((Int32 × Hp) ⊕ Hp)) (kd h (gP h v1 4) = 24) <|
    gg (β := ((Int32 × Hp) ⊕ Hp)) (inB v2 (ln h (gP h v1 4)) = true) <|
    gg (β := ((Int32 × Hp) ⊕ Hp)) (kd h (gP h v1 5) = 20) <|
    gg (β := ((Int32 × Hp) ⊕ Hp)) (inB v2 (ln h (gP h v1 5)) = true) <|
    gg (β := ((Int32 × Hp) ⊕ Hp)) (kd h v0 = 1) <|
    Option.bind (α := Hp) (β := ((Int32 × Hp) ⊕ Hp)) (MX2_takeRow h v0 v2 (gP h (gP h v1 4) v2.toNatClampNeg) (gI h (gP h v1 5) v2.toNatClampNeg)) fun (h85 : Hp) =>
    some (.inl ((v2 + (1 : Int32)), h85))
set_option maxRecDepth 100000 in
set_option maxHeartbeats 8000000 in
theorem bX2_takeAll_162 {d : Nat} {h : Hp} {v0 : Nat} {v1 : Nat} {v2 : Int32} {h9 : Hp} {x : ((Int32 × Hp) ⊕ Hp)} (H : BX2_takeAll_162 h v0 v1 v2 = some x) (hb0 : ∀ s : Int32 × Hp, x = .inl s → J (d + 2) YX2_takeAll 162 [.ref v0, .ref v1, .int s.1] [] s.2 oV h9) (hx : ∀ z : Hp, x = .inr (z) → z = h9) : J (d + 2) YX2_takeAll 162 [.ref v0, .ref v1, .int v2] [] h oV h9 := by
  unfold BX2_takeAll_162 at H
  refine J_iload_n 2 dX2_takeAll_162 rfl rfl ?_
  refine J_bipush (54 : Int32) dX2_takeAll_163 kb_54 ?_
  refine J_icmp_ge 191 dX2_takeAll_165 rfl (fun q77 => ?_) (fun q77 => ?_)
  · replace H := br1 q77 H
    cases H
    cases hx _ rfl
    exact J_ret dX2_takeAll_191 rfl
  · replace H := br0 q77 H
    refine J_aload_n 0 dX2_takeAll_168 rfl rfl ?_
    refine J_iload_n 2 dX2_takeAll_169 rfl rfl ?_
    refine J_aload_n 1 dX2_takeAll_170 rfl rfl ?_
    obtain ⟨g78, H⟩ := gd H
    refine J_gP 1 4 dX2_takeAll_171 g78 flX2_25 rfl rfl ?_
    refine J_iload_n 2 dX2_takeAll_174 rfl rfl ?_
    obtain ⟨g79, H⟩ := gd H
    obtain ⟨g80, H⟩ := gd H
    refine J_lP 24 dX2_takeAll_175 g79 rfl (inB_ok g80) rfl ?_
    refine J_aload_n 1 dX2_takeAll_176 rfl rfl ?_
    refine J_gP 1 5 dX2_takeAll_177 g78 flX2_29 rfl rfl ?_
    refine J_iload_n 2 dX2_takeAll_180 rfl rfl ?_
    obtain ⟨g81, H⟩ := gd H
    obtain ⟨g82, H⟩ := gd H
    refine J_iald dX2_takeAll_181 g81 (inB_ok g82) ?_
    obtain ⟨g84, H⟩ := gd H
    obtain ⟨h85, e83, H⟩ := bd H
    refine J_cV (as := [.int v2, .ref (gP h (gP h v1 4) v2.toNatClampNeg), .int (gI h (gP h v1 5) v2.toNatClampNeg)]) 1 YX2_takeRow 3 dX2_takeAll_182 moX2_takeRow mvX2_takeRow mlX2_57 g84 rfl rfl (okX2_takeRow (d := d) e83) rfl rfl [] rfl rfl (st2 := []) rfl ?_
    refine J_iinc (v2 + (1 : Int32)) dX2_takeAll_185 rfl (congrArg (HAdd.hAdd v2) kc_1) (by decide) (ls' := [.ref v0, .ref v1, .int (v2 + (1 : Int32))]) rfl ?_
    refine J_goto 162 dX2_takeAll_188 rfl ?_
    cases H
    exact J_dr (hb0 _ rfl) ⟨rfl, ⟨rfl, ⟨rfl, trivial⟩⟩⟩
noncomputable def MX2_takeAll_162 (h : Hp) (v0 : Nat) (v1 : Nat) (v2 : Int32) : Option Hp := it (fun q : Int32 × Hp => BX2_takeAll_162 q.2 v0 v1 q.1) (v2, h)
set_option maxRecDepth 100000 in
set_option maxHeartbeats 8000000 in
theorem kX2_takeAll_162 {d : Nat} {h : Hp} {v0 : Nat} {v1 : Nat} {v2 : Int32} {h9 : Hp} (H : MX2_takeAll_162 h v0 v1 v2 = some h9) : J (d + 2) YX2_takeAll 162 [.ref v0, .ref v1, .int v2] [] h oV h9 := by
  unfold MX2_takeAll_162 at H
  refine it_J (G := (fun q : Int32 × Hp => J (d + 2) YX2_takeAll 162 [.ref v0, .ref v1, .int q.1] [] q.2 oV h9)) (Q := (fun y : Hp => y = h9)) (fun q x Hq hm => ?_) H rfl
  exact bX2_takeAll_162 Hq (fun s hs => by subst hs; exact hm) (fun z hz => by subst hz; exact hm)
noncomputable def MX2_takeAll (h : Hp) (v0 : Nat) (v1 : Nat) : Option Hp :=
  gg (β := Hp) (kd h v1 = 1) <|
  gg (β := Hp) (kd h v0 = 1) <|
  gg (β := Hp) (kd h (gP h v0 0) = 20) <|
  gg (β := Hp) (kd h (gP h v1 0) = 20) <|
  gg (β := Hp) (cpB (0 : Int32) (0 : Int32) (nI (ln h (gP h v0 0))) (ln h (gP h v1 0)) (ln h (gP h v0 0)) = true) <|
  lt (α := Hp) (β := Option Hp) (rI h (gP h v0 0) (va_cpy (gI h (gP h v1 0)) (gI h (gP h v0 0)) (0 : Int32).toNatClampNeg (0 : Int32).toNatClampNeg (nI (ln h (gP h v0 0))).toNatClampNeg)) fun (h6 : Hp) =>
  gg (β := Hp) (kd h (gP h v0 1) = 20) <|
  gg (β := Hp) (kd h (gP h v1 1) = 20) <|
  gg (β := Hp) (cpB (0 : Int32) (0 : Int32) (nI (ln h6 (gP h v0 1))) (ln h6 (gP h v1 1)) (ln h6 (gP h v0 1)) = true) <|
  lt (α := Hp) (β := Option Hp) (rI h6 (gP h v0 1) (va_cpy (gI h6 (gP h v1 1)) (gI h6 (gP h v0 1)) (0 : Int32).toNatClampNeg (0 : Int32).toNatClampNeg (nI (ln h6 (gP h v0 1))).toNatClampNeg)) fun (h14 : Hp) =>
  gg (β := Hp) (kd h (gP h v0 2) = 20) <|
  gg (β := Hp) (kd h (gP h v1 2) = 20) <|
  gg (β := Hp) (cpB (0 : Int32) (0 : Int32) (nI (ln h14 (gP h v0 2))) (ln h14 (gP h v1 2)) (ln h14 (gP h v0 2)) = true) <|
  lt (α := Hp) (β := Option Hp) (rI h14 (gP h v0 2) (va_cpy (gI h14 (gP h v1 2)) (gI h14 (gP h v0 2)) (0 : Int32).toNatClampNeg (0 : Int32).toNatClampNeg (nI (ln h14 (gP h v0 2))).toNatClampNeg)) fun (h22 : Hp) =>
  gg (β := Hp) (kd h (gP h v0 3) = 20) <|
  gg (β := Hp) (kd h (gP h v1 3) = 20) <|
  gg (β := Hp) (cpB (0 : Int32) (0 : Int32) (nI (ln h22 (gP h v0 3))) (ln h22 (gP h v1 3)) (ln h22 (gP h v0 3)) = true) <|
  lt (α := Hp) (β := Option Hp) (rI h22 (gP h v0 3) (va_cpy (gI h22 (gP h v1 3)) (gI h22 (gP h v0 3)) (0 : Int32).toNatClampNeg (0 : Int32).toNatClampNeg (nI (ln h22 (gP h v0 3))).toNatClampNeg)) fun (h30 : Hp) =>
  gg (β := Hp) (kd h (gP h v0 7) = 20) <|
  gg (β := Hp) (kd h (gP h v1 7) = 20) <|
  gg (β := Hp) (cpB (0 : Int32) (0 : Int32) (nI (ln h30 (gP h v0 7))) (ln h30 (gP h v1 7)) (ln h30 (gP h v0 7)) = true) <|
  lt (α := Hp) (β := Option Hp) (rI h30 (gP h v0 7) (va_cpy (gI h30 (gP h v1 7)) (gI h30 (gP h v0 7)) (0 : Int32).toNatClampNeg (0 : Int32).toNatClampNeg (nI (ln h30 (gP h v0 7))).toNatClampNeg)) fun (h38 : Hp) =>
  gg (β := Hp) (kd h (gP h v0 8) = 20) <|
  gg (β := Hp) (kd h (gP h v1 8) = 20) <|
  gg (β := Hp) (cpB (0 : Int32) (0 : Int32) (nI (ln h38 (gP h v0 8))) (ln h38 (gP h v1 8)) (ln h38 (gP h v0 8)) = true) <|
  lt (α := Hp) (β := Option Hp) (rI h38 (gP h v0 8) (va_cpy (gI h38 (gP h v1 8)) (gI h38 (gP h v0 8)) (0 : Int32).toNatClampNeg (0 : Int32).toNatClampNeg (nI (ln h38 (gP h v0 8))).toNatClampNeg)) fun (h46 : Hp) =>
  gg (β := Hp) (kd h (gP h v0 9) = 20) <|
  gg (β := Hp) (kd h (gP h v1 9) = 20) <|
  gg (β := Hp) (cpB (0 : Int32) (0 : Int32) (nI (ln h46 (gP h v0 9))) (ln h46 (gP h v1 9)) (ln h46 (gP h v0 9)) = true) <|
  lt (α := Hp) (β := Option Hp) (rI h46 (gP h v0 9) (va_cpy (gI h46 (gP h v1 9)) (gI h46 (gP h v0 9)) (0 : Int32).toNatClampNeg (0 : Int32).toNatClampNeg (nI (ln h46 (gP h v0 9))).toNatClampNeg)) fun (h54 : Hp) =>
  gg (β := Hp) (kd h (gP h v0 10) = 20) <|
  gg (β := Hp) (kd h (gP h v1 10) = 20) <|
  gg (β := Hp) (cpB (0 : Int32) (0 : Int32) (nI (ln h54 (gP h v0 10))) (ln h54 (gP h v1 10)) (ln h54 (gP h v0 10)) = true) <|
  lt (α := Hp) (β := Option Hp) (rI h54 (gP h v0 10) (va_cpy (gI h54 (gP h v1 10)) (gI h54 (gP h v0 10)) (0 : Int32).toNatClampNeg (0 : Int32).toNatClampNeg (nI (ln h54 (gP h v0 10))).toNatClampNeg)) fun (h62 : Hp) =>
  lt (α := Hp) (β := Option Hp) (sI h62 v0 6 (gI h62 v1 6)) fun (h67 : Hp) =>
  lt (α := Hp) (β := Option Hp) (sI h67 v0 11 (gI h67 v1 11)) fun (h72 : Hp) =>
  MX2_takeAll_162 h72 v0 v1 (0 : Int32)
set_option maxRecDepth 100000 in
set_option maxHeartbeats 8000000 in
theorem eX2_takeAll {d : Nat} {h : Hp} {v0 : Nat} {v1 : Nat} {h9 : Hp} (H : MX2_takeAll h v0 v1 = some h9) : J (d + 2) YX2_takeAll 0 [.ref v0, .ref v1, Value.null] [] h oV h9 := by
  unfold MX2_takeAll at H
  refine J_aload_n 1 dX2_takeAll_0 rfl rfl ?_
  obtain ⟨g1, H⟩ := gd H
  refine J_gP 1 0 dX2_takeAll_1 g1 flX2_9 rfl rfl ?_
  refine J_iconst (0 : Int32) dX2_takeAll_4 kc_0 ?_
  refine J_aload_n 0 dX2_takeAll_5 rfl rfl ?_
  obtain ⟨g2, H⟩ := gd H
  refine J_gP 1 0 dX2_takeAll_6 g2 flX2_9 rfl rfl ?_
  refine J_iconst (0 : Int32) dX2_takeAll_9 kc_0 ?_
  refine J_aload_n 0 dX2_takeAll_10 rfl rfl ?_
  refine J_gP 1 0 dX2_takeAll_11 g2 flX2_9 rfl rfl ?_
  obtain ⟨g3, H⟩ := gd H
  refine J_len 20 dX2_takeAll_14 g3 rfl ?_
  obtain ⟨g4, H⟩ := gd H
  obtain ⟨g5, H⟩ := gd H
  obtain ⟨h6, e7, H⟩ := lt_el H
  refine J_cp 20 dX2_takeAll_15 mlX2_51 (Or.inl rfl) g4 g3 g5 rfl e7 ?_
  have c8 := ekR e7
  have c9 := elR e7
  have c10 := epR e7
  refine J_aload_n 1 dX2_takeAll_18 rfl rfl ?_
  refine J_gP 1 1 dX2_takeAll_19 (kq c8 g1) flX2_15 rfl (congrFun (congrFun c10 v1) 1) ?_
  refine J_iconst (0 : Int32) dX2_takeAll_22 kc_0 ?_
  refine J_aload_n 0 dX2_takeAll_23 rfl rfl ?_
  refine J_gP 1 1 dX2_takeAll_24 (kq c8 g2) flX2_15 rfl (congrFun (congrFun c10 v0) 1) ?_
  refine J_iconst (0 : Int32) dX2_takeAll_27 kc_0 ?_
  refine J_aload_n 0 dX2_takeAll_28 rfl rfl ?_
  refine J_gP 1 1 dX2_takeAll_29 (kq c8 g2) flX2_15 rfl (congrFun (congrFun c10 v0) 1) ?_
  obtain ⟨g11, H⟩ := gd H
  refine J_len 20 dX2_takeAll_32 (kq c8 g11) rfl ?_
  obtain ⟨g12, H⟩ := gd H
  obtain ⟨g13, H⟩ := gd H
  obtain ⟨h14, e15, H⟩ := lt_el H
  refine J_cp 20 dX2_takeAll_33 mlX2_51 (Or.inl rfl) (kq c8 g12) (kq c8 g11) g13 rfl e15 ?_
  have c16 := (ekR e15).trans c8
  have c17 := (elR e15).trans c9
  have c18 := (epR e15).trans c10
  refine J_aload_n 1 dX2_takeAll_36 rfl rfl ?_
  refine J_gP 1 2 dX2_takeAll_37 (kq c16 g1) flX2_18 rfl (congrFun (congrFun c18 v1) 2) ?_
  refine J_iconst (0 : Int32) dX2_takeAll_40 kc_0 ?_
  refine J_aload_n 0 dX2_takeAll_41 rfl rfl ?_
  refine J_gP 1 2 dX2_takeAll_42 (kq c16 g2) flX2_18 rfl (congrFun (congrFun c18 v0) 2) ?_
  refine J_iconst (0 : Int32) dX2_takeAll_45 kc_0 ?_
  refine J_aload_n 0 dX2_takeAll_46 rfl rfl ?_
  refine J_gP 1 2 dX2_takeAll_47 (kq c16 g2) flX2_18 rfl (congrFun (congrFun c18 v0) 2) ?_
  obtain ⟨g19, H⟩ := gd H
  refine J_len 20 dX2_takeAll_50 (kq c16 g19) rfl ?_
  obtain ⟨g20, H⟩ := gd H
  obtain ⟨g21, H⟩ := gd H
  obtain ⟨h22, e23, H⟩ := lt_el H
  refine J_cp 20 dX2_takeAll_51 mlX2_51 (Or.inl rfl) (kq c16 g20) (kq c16 g19) g21 rfl e23 ?_
  have c24 := (ekR e23).trans c16
  have c25 := (elR e23).trans c17
  have c26 := (epR e23).trans c18
  refine J_aload_n 1 dX2_takeAll_54 rfl rfl ?_
  refine J_gP 1 3 dX2_takeAll_55 (kq c24 g1) flX2_21 rfl (congrFun (congrFun c26 v1) 3) ?_
  refine J_iconst (0 : Int32) dX2_takeAll_58 kc_0 ?_
  refine J_aload_n 0 dX2_takeAll_59 rfl rfl ?_
  refine J_gP 1 3 dX2_takeAll_60 (kq c24 g2) flX2_21 rfl (congrFun (congrFun c26 v0) 3) ?_
  refine J_iconst (0 : Int32) dX2_takeAll_63 kc_0 ?_
  refine J_aload_n 0 dX2_takeAll_64 rfl rfl ?_
  refine J_gP 1 3 dX2_takeAll_65 (kq c24 g2) flX2_21 rfl (congrFun (congrFun c26 v0) 3) ?_
  obtain ⟨g27, H⟩ := gd H
  refine J_len 20 dX2_takeAll_68 (kq c24 g27) rfl ?_
  obtain ⟨g28, H⟩ := gd H
  obtain ⟨g29, H⟩ := gd H
  obtain ⟨h30, e31, H⟩ := lt_el H
  refine J_cp 20 dX2_takeAll_69 mlX2_51 (Or.inl rfl) (kq c24 g28) (kq c24 g27) g29 rfl e31 ?_
  have c32 := (ekR e31).trans c24
  have c33 := (elR e31).trans c25
  have c34 := (epR e31).trans c26
  refine J_aload_n 1 dX2_takeAll_72 rfl rfl ?_
  refine J_gP 1 7 dX2_takeAll_73 (kq c32 g1) flX2_36 rfl (congrFun (congrFun c34 v1) 7) ?_
  refine J_iconst (0 : Int32) dX2_takeAll_76 kc_0 ?_
  refine J_aload_n 0 dX2_takeAll_77 rfl rfl ?_
  refine J_gP 1 7 dX2_takeAll_78 (kq c32 g2) flX2_36 rfl (congrFun (congrFun c34 v0) 7) ?_
  refine J_iconst (0 : Int32) dX2_takeAll_81 kc_0 ?_
  refine J_aload_n 0 dX2_takeAll_82 rfl rfl ?_
  refine J_gP 1 7 dX2_takeAll_83 (kq c32 g2) flX2_36 rfl (congrFun (congrFun c34 v0) 7) ?_
  obtain ⟨g35, H⟩ := gd H
  refine J_len 20 dX2_takeAll_86 (kq c32 g35) rfl ?_
  obtain ⟨g36, H⟩ := gd H
  obtain ⟨g37, H⟩ := gd H
  obtain ⟨h38, e39, H⟩ := lt_el H
  refine J_cp 20 dX2_takeAll_87 mlX2_51 (Or.inl rfl) (kq c32 g36) (kq c32 g35) g37 rfl e39 ?_
  have c40 := (ekR e39).trans c32
  have c41 := (elR e39).trans c33
  have c42 := (epR e39).trans c34
  refine J_aload_n 1 dX2_takeAll_90 rfl rfl ?_
  refine J_gP 1 8 dX2_takeAll_91 (kq c40 g1) flX2_39 rfl (congrFun (congrFun c42 v1) 8) ?_
  refine J_iconst (0 : Int32) dX2_takeAll_94 kc_0 ?_
  refine J_aload_n 0 dX2_takeAll_95 rfl rfl ?_
  refine J_gP 1 8 dX2_takeAll_96 (kq c40 g2) flX2_39 rfl (congrFun (congrFun c42 v0) 8) ?_
  refine J_iconst (0 : Int32) dX2_takeAll_99 kc_0 ?_
  refine J_aload_n 0 dX2_takeAll_100 rfl rfl ?_
  refine J_gP 1 8 dX2_takeAll_101 (kq c40 g2) flX2_39 rfl (congrFun (congrFun c42 v0) 8) ?_
  obtain ⟨g43, H⟩ := gd H
  refine J_len 20 dX2_takeAll_104 (kq c40 g43) rfl ?_
  obtain ⟨g44, H⟩ := gd H
  obtain ⟨g45, H⟩ := gd H
  obtain ⟨h46, e47, H⟩ := lt_el H
  refine J_cp 20 dX2_takeAll_105 mlX2_51 (Or.inl rfl) (kq c40 g44) (kq c40 g43) g45 rfl e47 ?_
  have c48 := (ekR e47).trans c40
  have c49 := (elR e47).trans c41
  have c50 := (epR e47).trans c42
  refine J_aload_n 1 dX2_takeAll_108 rfl rfl ?_
  refine J_gP 1 9 dX2_takeAll_109 (kq c48 g1) flX2_42 rfl (congrFun (congrFun c50 v1) 9) ?_
  refine J_iconst (0 : Int32) dX2_takeAll_112 kc_0 ?_
  refine J_aload_n 0 dX2_takeAll_113 rfl rfl ?_
  refine J_gP 1 9 dX2_takeAll_114 (kq c48 g2) flX2_42 rfl (congrFun (congrFun c50 v0) 9) ?_
  refine J_iconst (0 : Int32) dX2_takeAll_117 kc_0 ?_
  refine J_aload_n 0 dX2_takeAll_118 rfl rfl ?_
  refine J_gP 1 9 dX2_takeAll_119 (kq c48 g2) flX2_42 rfl (congrFun (congrFun c50 v0) 9) ?_
  obtain ⟨g51, H⟩ := gd H
  refine J_len 20 dX2_takeAll_122 (kq c48 g51) rfl ?_
  obtain ⟨g52, H⟩ := gd H
  obtain ⟨g53, H⟩ := gd H
  obtain ⟨h54, e55, H⟩ := lt_el H
  refine J_cp 20 dX2_takeAll_123 mlX2_51 (Or.inl rfl) (kq c48 g52) (kq c48 g51) g53 rfl e55 ?_
  have c56 := (ekR e55).trans c48
  have c57 := (elR e55).trans c49
  have c58 := (epR e55).trans c50
  refine J_aload_n 1 dX2_takeAll_126 rfl rfl ?_
  refine J_gP 1 10 dX2_takeAll_127 (kq c56 g1) flX2_45 rfl (congrFun (congrFun c58 v1) 10) ?_
  refine J_iconst (0 : Int32) dX2_takeAll_130 kc_0 ?_
  refine J_aload_n 0 dX2_takeAll_131 rfl rfl ?_
  refine J_gP 1 10 dX2_takeAll_132 (kq c56 g2) flX2_45 rfl (congrFun (congrFun c58 v0) 10) ?_
  refine J_iconst (0 : Int32) dX2_takeAll_135 kc_0 ?_
  refine J_aload_n 0 dX2_takeAll_136 rfl rfl ?_
  refine J_gP 1 10 dX2_takeAll_137 (kq c56 g2) flX2_45 rfl (congrFun (congrFun c58 v0) 10) ?_
  obtain ⟨g59, H⟩ := gd H
  refine J_len 20 dX2_takeAll_140 (kq c56 g59) rfl ?_
  obtain ⟨g60, H⟩ := gd H
  obtain ⟨g61, H⟩ := gd H
  obtain ⟨h62, e63, H⟩ := lt_el H
  refine J_cp 20 dX2_takeAll_141 mlX2_51 (Or.inl rfl) (kq c56 g60) (kq c56 g59) g61 rfl e63 ?_
  have c64 := (ekR e63).trans c56
  have c65 := (elR e63).trans c57
  have c66 := (epR e63).trans c58
  refine J_aload_n 0 dX2_takeAll_144 rfl rfl ?_
  refine J_aload_n 1 dX2_takeAll_145 rfl rfl ?_
  refine J_getI 1 6 dX2_takeAll_146 (kq c64 g1) flX2_32 rfl ?_
  obtain ⟨h67, e68, H⟩ := lt_el H
  refine J_pI 1 6 dX2_takeAll_149 (kq c64 g2) flX2_32 rfl rfl e68 ?_
  have c69 := (ekI e68).trans c64
  have c70 := (elI e68).trans c65
  have c71 := (epI e68).trans c66
  refine J_aload_n 0 dX2_takeAll_152 rfl rfl ?_
  refine J_aload_n 1 dX2_takeAll_153 rfl rfl ?_
  refine J_getI 1 11 dX2_takeAll_154 (kq c69 g1) flX2_48 rfl ?_
  obtain ⟨h72, e73, H⟩ := lt_el H
  refine J_pI 1 11 dX2_takeAll_157 (kq c69 g2) flX2_48 rfl rfl e73 ?_
  have c74 := (ekI e73).trans c69
  have c75 := (elI e73).trans c70
  have c76 := (epI e73).trans c71
  refine J_iconst (0 : Int32) dX2_takeAll_160 kc_0 ?_
  refine J_istore_n 2 dX2_takeAll_161 rfl (by decide) (ls' := [.ref v0, .ref v1, .int (0 : Int32)]) rfl ?_
  exact J_dr (kX2_takeAll_162 H ) ⟨rfl, ⟨rfl, ⟨rfl, trivial⟩⟩⟩
theorem okX2_takeAll {d : Nat} {h : Hp} {v0 : Nat} {v1 : Nat} {h9 : Hp} (H : MX2_takeAll h v0 v1 = some h9) : CT (d + 2) YX2_takeAll [.ref v0, .ref v1] h oV h9 := CT_of (by decide +kernel) (Nat.le_of_ble_eq_true rfl) (eX2_takeAll H)
noncomputable def MX11_back (h : Hp) (v0 : Nat) : Option (Int32 × Hp) :=
  gg (β := (Int32 × Hp)) (kd h v0 = 10) <|
  if (gP h v0 9) = 0 then
    some ((0 : Int32), h)
  else
    if (gP h v0 10) = 0 then
      some ((0 : Int32), h)
    else
      gg (β := (Int32 × Hp)) (kd h (gP h v0 5) = 6) <|
      Option.bind (α := Hp) (β := (Int32 × Hp)) (MX7_takeAll h (gP h v0 5) (gP h v0 9)) fun (h6 : Hp) =>
      gg (β := (Int32 × Hp)) (kd h6 v0 = 10) <|
      gg (β := (Int32 × Hp)) (kd h6 (gP h6 v0 6) = 1) <|
      Option.bind (α := Hp) (β := (Int32 × Hp)) (MX2_takeAll h6 (gP h6 v0 6) (gP h6 v0 10)) fun (h10 : Hp) =>
      some ((1 : Int32), h10)
set_option maxRecDepth 100000 in
set_option maxHeartbeats 8000000 in
theorem eX11_back {d : Nat} {h : Hp} {v0 : Nat} {r : Int32} {h9 : Hp} (H : MX11_back h v0 = some (r, h9)) : J (d + 4) YX11_back 0 [.ref v0] [] h (oI r) h9 := by
  unfold MX11_back at H
  refine J_aload_n 0 dX11_back_0 rfl rfl ?_
  obtain ⟨g1, H⟩ := gd H
  refine J_gP 10 9 dX11_back_1 g1 flX11_64 rfl rfl ?_
  refine J_ifnull 14 dX11_back_4 rfl (fun q2 => ?_) (fun q2 => ?_)
  · replace H := br1 q2 H
    refine J_iconst (0 : Int32) dX11_back_14 kc_0 ?_
    cases H
    exact J_rZ dX11_back_15 rfl rfl
  · replace H := br0 q2 H
    refine J_aload_n 0 dX11_back_7 rfl rfl ?_
    refine J_gP 10 10 dX11_back_8 g1 flX11_67 rfl rfl ?_
    refine J_ifnonnull 16 dX11_back_11 rfl (fun q3 => ?_) (fun q3 => ?_)
    · replace H := br0 q3 H
      refine J_aload_n 0 dX11_back_16 rfl rfl ?_
      refine J_gP 10 5 dX11_back_17 g1 flX11_39 rfl rfl ?_
      refine J_aload_n 0 dX11_back_20 rfl rfl ?_
      refine J_gP 10 9 dX11_back_21 g1 flX11_64 rfl rfl ?_
      obtain ⟨g5, H⟩ := gd H
      obtain ⟨h6, e4, H⟩ := bd H
      refine J_cV (as := [.ref (gP h v0 9)]) 6 YX7_takeAll 1 dX11_back_24 moX7_takeAll mvX7_takeAll mlX11_469 g5 rfl rfl (okX7_takeAll (d := d) e4) rfl rfl [] rfl rfl (st2 := []) rfl ?_
      refine J_aload_n 0 dX11_back_27 rfl rfl ?_
      obtain ⟨g7, H⟩ := gd H
      refine J_gP 10 6 dX11_back_28 g7 flX11_46 rfl rfl ?_
      refine J_aload_n 0 dX11_back_31 rfl rfl ?_
      refine J_gP 10 10 dX11_back_32 g7 flX11_67 rfl rfl ?_
      obtain ⟨g9, H⟩ := gd H
      obtain ⟨h10, e8, H⟩ := bd H
      refine J_cV (as := [.ref (gP h6 v0 10)]) 1 YX2_takeAll 1 dX11_back_35 moX2_takeAll mvX2_takeAll mlX11_495 g9 rfl rfl (okX2_takeAll (d := d + 1) e8) rfl rfl [] rfl rfl (st2 := []) rfl ?_
      refine J_iconst (1 : Int32) dX11_back_38 kc_1 ?_
      cases H
      exact J_rZ dX11_back_39 rfl rfl
    · replace H := br1 q3 H
      refine J_iconst (0 : Int32) dX11_back_14 kc_0 ?_
      cases H
      exact J_rZ dX11_back_15 rfl rfl
theorem okX11_back {d : Nat} {h : Hp} {v0 : Nat} {r : Int32} {h9 : Hp} (H : MX11_back h v0 = some (r, h9)) : CT (d + 4) YX11_back [.ref v0] h (oI r) h9 := CT_of (by decide +kernel) (Nat.le_of_ble_eq_true rfl) (eX11_back H)
noncomputable def MX0_badnessFrom (h : Hp) (v0 : Nat) (v1 : Int32) : Option Int32 :=
  gg (β := Int32) (kd h v0 = 0) <|
  gg (β := Int32) (kd h (gP h v0 10) = 20) <|
  gg (β := Int32) (inB v1 (ln h (gP h v0 10)) = true) <|
  some (gI h (gP h v0 10) v1.toNatClampNeg)
set_option maxRecDepth 100000 in
set_option maxHeartbeats 8000000 in
theorem eX0_badnessFrom {d : Nat} {h : Hp} {v0 : Nat} {v1 : Int32} {r : Int32} (H : MX0_badnessFrom h v0 v1 = some r) : J (d) YX0_badnessFrom 0 [.ref v0, .int v1] [] h (oI r) h := by
  unfold MX0_badnessFrom at H
  refine J_aload_n 0 dX0_badnessFrom_0 rfl rfl ?_
  obtain ⟨g1, H⟩ := gd H
  refine J_gP 0 10 dX0_badnessFrom_1 g1 flX0_43 rfl rfl ?_
  refine J_iload_n 1 dX0_badnessFrom_4 rfl rfl ?_
  obtain ⟨g2, H⟩ := gd H
  obtain ⟨g3, H⟩ := gd H
  refine J_iald dX0_badnessFrom_5 g2 (inB_ok g3) ?_
  cases H
  exact J_iretI dX0_badnessFrom_6 rfl
theorem okX0_badnessFrom {d : Nat} {h : Hp} {v0 : Nat} {v1 : Int32} {r : Int32} (H : MX0_badnessFrom h v0 v1 = some r) : CT (d) YX0_badnessFrom [.ref v0, .int v1] h (oI r) h := CT_of (by decide +kernel) (Nat.le_of_ble_eq_true rfl) (eX0_badnessFrom H)
noncomputable def BX0_reach_45 (h : Hp) (v0 : Nat) (v1 : Int32) (v2 : Int32) (v3 : Int32) : Option ((Int32 × Int32 × Hp) ⊕ ((Int32 × Int32 × Hp) ⊕ (Int32 × Hp))) :=
  gg (β := ((Int32 × Int32 × Hp) ⊕ ((Int32 × Int32 × Hp) ⊕ (Int32 × Hp)))) (kd h v0 = 0) <|
  gg (β := ((Int32 × Int32 × Hp) ⊕ ((Int32 × Int32 × Hp) ⊕ (Int32 × Hp)))) (kd h (gP h v0 13) = 22) <|
  gg (β := ((Int32 × Int32 × Hp) ⊕ ((Int32 × Int32 × Hp) ⊕ (Int32 × Hp)))) (inB v2 (ln h (gP h v0 13)) = true) <|
  if (gI h (gP h v0 13) v2.toNatClampNeg) = 0 then
    some (.inr (.inl (v1, (v2 + (1 : Int32)), h)))
  else
    if (gI h v0 6) ≤ v3 then
      some (.inr (.inl (v1, (v2 + (1 : Int32)), h)))
    else
      Option.bind (α := Int32) (β := ((Int32 × Int32 × Hp) ⊕ ((Int32 × Int32 × Hp) ⊕ (Int32 × Hp)))) (MX0_lineBadness h v0 v2 v3) fun (t11 : Int32) =>
      if t11 = (-1 : Int32) then
        some (.inl (v1, (v3 + (1 : Int32)), h))
      else
        gg (β := ((Int32 × Int32 × Hp) ⊕ ((Int32 × Int32 × Hp) ⊕ (Int32 × Hp)))) (inB (v3 + (1 : Int32)) (ln h (gP h v0 13)) = true) <|
        lt (α := Hp) (β := Option ((Int32 × Int32 × Hp) ⊕ ((Int32 × Int32 × Hp) ⊕ (Int32 × Hp)))) (sI h (gP h v0 13) (v3 + (1 : Int32)).toNatClampNeg (vp_nar .boolean (1 : Int32))) fun (h14 : Hp) =>
        some (.inl ((jmax v1 (v3 + (1 : Int32))), (v3 + (1 : Int32)), h14))
set_option maxRecDepth 100000 in
set_option maxHeartbeats 8000000 in
theorem bX0_reach_45 {d : Nat} {h : Hp} {v0 : Nat} {v1 : Int32} {v2 : Int32} {v3 : Int32} {r : Int32} {h9 : Hp} {x : ((Int32 × Int32 × Hp) ⊕ ((Int32 × Int32 × Hp) ⊕ (Int32 × Hp)))} (H : BX0_reach_45 h v0 v1 v2 v3 = some x) (hb0 : ∀ s : Int32 × Int32 × Hp, x = .inl s → J (d + 2) YX0_reach 45 [.ref v0, .int s.1, .int v2, .int s.2.1] [] s.2.2 (oI r) h9) (hb1 : ∀ s : Int32 × Int32 × Hp, x = .inr (.inl s) → J (d + 2) YX0_reach 35 [.ref v0, .int s.1, .int s.2.1, Value.null] [] s.2.2 (oI r) h9) (hx : ∀ z : (Int32 × Hp), x = .inr (.inr (z)) → z = (r, h9)) : J (d + 2) YX0_reach 45 [.ref v0, .int v1, .int v2, .int v3] [] h (oI r) h9 := by
  unfold BX0_reach_45 at H
  refine J_aload_n 0 dX0_reach_45 rfl rfl ?_
  obtain ⟨g5, H⟩ := gd H
  refine J_gP 0 13 dX0_reach_46 g5 flX0_52 rfl rfl ?_
  refine J_iload_n 2 dX0_reach_49 rfl rfl ?_
  obtain ⟨g6, H⟩ := gd H
  obtain ⟨g7, H⟩ := gd H
  refine J_zald dX0_reach_50 g6 (inB_ok g7) ?_
  refine J_if_eq 95 dX0_reach_51 rfl (fun q8 => ?_) (fun q8 => ?_)
  · replace H := br1 q8 H
    refine J_iinc (v2 + (1 : Int32)) dX0_reach_95 rfl (congrArg (HAdd.hAdd v2) kc_1) (by decide) (ls' := [.ref v0, .int v1, .int (v2 + (1 : Int32)), .int v3]) rfl ?_
    refine J_goto 35 dX0_reach_98 rfl ?_
    cases H
    exact J_dr (hb1 _ rfl) ⟨rfl, ⟨rfl, ⟨rfl, trivial⟩⟩⟩
  · replace H := br0 q8 H
    refine J_iload_n 3 dX0_reach_54 rfl rfl ?_
    refine J_aload_n 0 dX0_reach_55 rfl rfl ?_
    refine J_getI 0 6 dX0_reach_56 g5 flX0_30 rfl ?_
    refine J_icmp_ge 95 dX0_reach_59 rfl (fun q9 => ?_) (fun q9 => ?_)
    · replace H := br1 q9 H
      refine J_iinc (v2 + (1 : Int32)) dX0_reach_95 rfl (congrArg (HAdd.hAdd v2) kc_1) (by decide) (ls' := [.ref v0, .int v1, .int (v2 + (1 : Int32)), .int v3]) rfl ?_
      refine J_goto 35 dX0_reach_98 rfl ?_
      cases H
      exact J_dr (hb1 _ rfl) ⟨rfl, ⟨rfl, ⟨rfl, trivial⟩⟩⟩
    · replace H := br0 q9 H
      refine J_aload_n 0 dX0_reach_62 rfl rfl ?_
      refine J_iload_n 2 dX0_reach_63 rfl rfl ?_
      refine J_iload_n 3 dX0_reach_64 rfl rfl ?_
      obtain ⟨t11, e10, H⟩ := bd H
      refine J_cV (as := [.int v2, .int v3]) 0 YX0_lineBadness 2 dX0_reach_65 moX0_lineBadness mvX0_lineBadness mlX0_96 g5 rfl rfl (okX0_lineBadness (d := d) e10) rfl rfl [] rfl rfl (st2 := [.int t11]) rfl ?_
      refine J_iconst (-1 : Int32) dX0_reach_68 kc_m1 ?_
      refine J_icmp_eq 89 dX0_reach_69 rfl (fun q12 => ?_) (fun q12 => ?_)
      · replace H := br1 q12 H
        refine J_iinc (v3 + (1 : Int32)) dX0_reach_89 rfl (congrArg (HAdd.hAdd v3) kc_1) (by decide) (ls' := [.ref v0, .int v1, .int v2, .int (v3 + (1 : Int32))]) rfl ?_
        refine J_goto 45 dX0_reach_92 rfl ?_
        cases H
        exact J_dr (hb0 _ rfl) ⟨rfl, ⟨rfl, ⟨rfl, ⟨rfl, trivial⟩⟩⟩⟩
      · replace H := br0 q12 H
        refine J_aload_n 0 dX0_reach_72 rfl rfl ?_
        refine J_gP 0 13 dX0_reach_73 g5 flX0_52 rfl rfl ?_
        refine J_iload_n 3 dX0_reach_76 rfl rfl ?_
        refine J_iconst (1 : Int32) dX0_reach_77 kc_1 ?_
        refine J_iadd dX0_reach_78 ?_
        refine J_iconst (1 : Int32) dX0_reach_79 kc_1 ?_
        obtain ⟨g13, H⟩ := gd H
        obtain ⟨h14, e15, H⟩ := lt_el H
        refine J_sZ dX0_reach_80 g6 (inB_ok g13) e15 ?_
        have c16 := ekI e15
        have c17 := elI e15
        have c18 := epI e15
        refine J_iload_n 1 dX0_reach_81 rfl rfl ?_
        refine J_iload_n 3 dX0_reach_82 rfl rfl ?_
        refine J_iconst (1 : Int32) dX0_reach_83 kc_1 ?_
        refine J_iadd dX0_reach_84 ?_
        refine J_mx dX0_reach_85 mlX0_105 rfl ?_
        refine J_istore_n 1 dX0_reach_88 rfl (by decide) (ls' := [.ref v0, .int (jmax v1 (v3 + (1 : Int32))), .int v2, .int v3]) rfl ?_
        refine J_iinc (v3 + (1 : Int32)) dX0_reach_89 rfl (congrArg (HAdd.hAdd v3) kc_1) (by decide) (ls' := [.ref v0, .int (jmax v1 (v3 + (1 : Int32))), .int v2, .int (v3 + (1 : Int32))]) rfl ?_
        refine J_goto 45 dX0_reach_92 rfl ?_
        cases H
        exact J_dr (hb0 _ rfl) ⟨rfl, ⟨rfl, ⟨rfl, ⟨rfl, trivial⟩⟩⟩⟩
noncomputable def MX0_reach_45 (h : Hp) (v0 : Nat) (v1 : Int32) (v2 : Int32) (v3 : Int32) : Option ((Int32 × Int32 × Hp) ⊕ (Int32 × Hp)) := it (fun q : Int32 × Int32 × Hp => BX0_reach_45 q.2.2 v0 q.1 v2 q.2.1) (v1, v3, h)
set_option maxRecDepth 100000 in
set_option maxHeartbeats 8000000 in
theorem kX0_reach_45 {d : Nat} {h : Hp} {v0 : Nat} {v1 : Int32} {v2 : Int32} {v3 : Int32} {r : Int32} {h9 : Hp} {x : ((Int32 × Int32 × Hp) ⊕ (Int32 × Hp))} (H : MX0_reach_45 h v0 v1 v2 v3 = some x) (hb0 : ∀ s : Int32 × Int32 × Hp, x = .inl s → J (d + 2) YX0_reach 35 [.ref v0, .int s.1, .int s.2.1, Value.null] [] s.2.2 (oI r) h9) (hx : ∀ z : (Int32 × Hp), x = .inr (z) → z = (r, h9)) : J (d + 2) YX0_reach 45 [.ref v0, .int v1, .int v2, .int v3] [] h (oI r) h9 := by
  unfold MX0_reach_45 at H
  refine it_J (G := (fun q : Int32 × Int32 × Hp => J (d + 2) YX0_reach 45 [.ref v0, .int q.1, .int v2, .int q.2.1] [] q.2.2 (oI r) h9)) (Q := (fun y : ((Int32 × Int32 × Hp) ⊕ (Int32 × Hp)) => (∀ s : Int32 × Int32 × Hp, y = .inl s → J (d + 2) YX0_reach 35 [.ref v0, .int s.1, .int s.2.1, Value.null] [] s.2.2 (oI r) h9) ∧ (∀ z : (Int32 × Hp), y = .inr (z) → z = (r, h9)))) (fun q x Hq hm => ?_) H ⟨hb0, hx⟩
  exact bX0_reach_45 Hq (fun s hs => by subst hs; exact hm) (fun s hs => by subst hs; exact (hm.1) s rfl) (fun z hz => by subst hz; exact (hm.2) z rfl)
noncomputable def BX0_reach_35 (h : Hp) (v0 : Nat) (v1 : Int32) (v2 : Int32) : Option ((Int32 × Int32 × Hp) ⊕ (Int32 × Hp)) :=
  gg (β := ((Int32 × Int32 × Hp) ⊕ (Int32 × Hp))) (kd h v0 = 0) <|
  if (gI h v0 6) ≤ v2 then
    some (.inr ((v1, h)))
  else
    MX0_reach_45 h v0 v1 v2 v2
set_option maxRecDepth 100000 in
set_option maxHeartbeats 8000000 in
theorem bX0_reach_35 {d : Nat} {h : Hp} {v0 : Nat} {v1 : Int32} {v2 : Int32} {r : Int32} {h9 : Hp} {x : ((Int32 × Int32 × Hp) ⊕ (Int32 × Hp))} (H : BX0_reach_35 h v0 v1 v2 = some x) (hb0 : ∀ s : Int32 × Int32 × Hp, x = .inl s → J (d + 2) YX0_reach 35 [.ref v0, .int s.1, .int s.2.1, Value.null] [] s.2.2 (oI r) h9) (hx : ∀ z : (Int32 × Hp), x = .inr (z) → z = (r, h9)) : J (d + 2) YX0_reach 35 [.ref v0, .int v1, .int v2, Value.null] [] h (oI r) h9 := by
  unfold BX0_reach_35 at H
  refine J_iload_n 2 dX0_reach_35 rfl rfl ?_
  refine J_aload_n 0 dX0_reach_36 rfl rfl ?_
  obtain ⟨g3, H⟩ := gd H
  refine J_getI 0 6 dX0_reach_37 g3 flX0_30 rfl ?_
  refine J_icmp_ge 101 dX0_reach_40 rfl (fun q4 => ?_) (fun q4 => ?_)
  · replace H := br1 q4 H
    refine J_iload_n 1 dX0_reach_101 rfl rfl ?_
    cases H
    cases hx _ rfl
    exact J_iretI dX0_reach_102 rfl
  · replace H := br0 q4 H
    refine J_iload_n 2 dX0_reach_43 rfl rfl ?_
    refine J_istore_n 3 dX0_reach_44 rfl (by decide) (ls' := [.ref v0, .int v1, .int v2, .int v2]) rfl ?_
    exact J_dr (kX0_reach_45 H hb0 hx) ⟨rfl, ⟨rfl, ⟨rfl, ⟨rfl, trivial⟩⟩⟩⟩
noncomputable def MX0_reach_35 (h : Hp) (v0 : Nat) (v1 : Int32) (v2 : Int32) : Option (Int32 × Hp) := it (fun q : Int32 × Int32 × Hp => BX0_reach_35 q.2.2 v0 q.1 q.2.1) (v1, v2, h)
set_option maxRecDepth 100000 in
set_option maxHeartbeats 8000000 in
theorem kX0_reach_35 {d : Nat} {h : Hp} {v0 : Nat} {v1 : Int32} {v2 : Int32} {r : Int32} {h9 : Hp} (H : MX0_reach_35 h v0 v1 v2 = some (r, h9)) : J (d + 2) YX0_reach 35 [.ref v0, .int v1, .int v2, Value.null] [] h (oI r) h9 := by
  unfold MX0_reach_35 at H
  refine it_J (G := (fun q : Int32 × Int32 × Hp => J (d + 2) YX0_reach 35 [.ref v0, .int q.1, .int q.2.1, Value.null] [] q.2.2 (oI r) h9)) (Q := (fun y : (Int32 × Hp) => y = (r, h9))) (fun q x Hq hm => ?_) H rfl
  exact bX0_reach_35 Hq (fun s hs => by subst hs; exact hm) (fun z hz => by subst hz; exact hm)
noncomputable def MX0_reach_33 (h : Hp) (v0 : Nat) (v1 : Int32) : Option (Int32 × Hp) :=
  MX0_reach_35 h v0 v1 (0 : Int32)
set_option maxRecDepth 100000 in
set_option maxHeartbeats 8000000 in
theorem kX0_reach_33 {d : Nat} {h : Hp} {v0 : Nat} {v1 : Int32} {r : Int32} {h9 : Hp} (H : MX0_reach_33 h v0 v1 = some (r, h9)) : J (d + 2) YX0_reach 33 [.ref v0, .int v1, Value.null, Value.null] [] h (oI r) h9 := by
  unfold MX0_reach_33 at H
  refine J_iconst (0 : Int32) dX0_reach_33 kc_0 ?_
  refine J_istore_n 2 dX0_reach_34 rfl (by decide) (ls' := [.ref v0, .int v1, .int (0 : Int32), Value.null]) rfl ?_
  exact J_dr (kX0_reach_35 H ) ⟨rfl, ⟨rfl, ⟨rfl, trivial⟩⟩⟩
noncomputable def MX0_reach_26 (h : Hp) (v0 : Nat) (v1 : Int32) (v2 : Int32) (s0 : Nat) (s1 : Int32) (s2 : Int32) : Option ((Int32 × Hp) ⊕ (Int32 × Hp)) :=
  gg (β := ((Int32 × Hp) ⊕ (Int32 × Hp))) (kd h s0 = 22) <|
  gg (β := ((Int32 × Hp) ⊕ (Int32 × Hp))) (inB s1 (ln h s0) = true) <|
  lt (α := Hp) (β := Option ((Int32 × Hp) ⊕ (Int32 × Hp))) (sI h s0 s1.toNatClampNeg (vp_nar .boolean s2)) fun (h22 : Hp) =>
  some (.inl ((v2 + (1 : Int32)), h22))
set_option maxRecDepth 100000 in
set_option maxHeartbeats 8000000 in
theorem kX0_reach_26 {d : Nat} {h : Hp} {v0 : Nat} {v1 : Int32} {v2 : Int32} {s0 : Nat} {s1 : Int32} {s2 : Int32} {r : Int32} {h9 : Hp} {x : ((Int32 × Hp) ⊕ (Int32 × Hp))} (H : MX0_reach_26 h v0 v1 v2 s0 s1 s2 = some x) (hb0 : ∀ s : Int32 × Hp, x = .inl s → J (d + 2) YX0_reach 4 [.ref v0, .int v1, .int s.1, Value.null] [] s.2 (oI r) h9) (hx : ∀ z : (Int32 × Hp), x = .inr (z) → z = (r, h9)) : J (d + 2) YX0_reach 26 [.ref v0, .int v1, .int v2, Value.null] [.int s2, .int s1, .ref s0] h (oI r) h9 := by
  unfold MX0_reach_26 at H
  obtain ⟨g20, H⟩ := gd H
  obtain ⟨g21, H⟩ := gd H
  obtain ⟨h22, e23, H⟩ := lt_el H
  refine J_sZ dX0_reach_26 g20 (inB_ok g21) e23 ?_
  have c24 := ekI e23
  have c25 := elI e23
  have c26 := epI e23
  refine J_iinc (v2 + (1 : Int32)) dX0_reach_27 rfl (congrArg (HAdd.hAdd v2) kc_1) (by decide) (ls' := [.ref v0, .int v1, .int (v2 + (1 : Int32)), Value.null]) rfl ?_
  refine J_goto 4 dX0_reach_30 rfl ?_
  cases H
  exact J_dr (hb0 _ rfl) ⟨rfl, ⟨rfl, ⟨rfl, trivial⟩⟩⟩
noncomputable def BX0_reach_4 (h : Hp) (v0 : Nat) (v1 : Int32) (v2 : Int32) : Option ((Int32 × Hp) ⊕ (Int32 × Hp)) :=
  gg (β := ((Int32 × Hp) ⊕ (Int32 × Hp))) (kd h v0 = 0) <|
  if (gI h v0 6) < v2 then
    up1 (MX0_reach_33 h v0 v1)
  else
    if v2 = 0 then
      MX0_reach_26 h v0 v1 v2 (gP h v0 13) v2 (1 : Int32)
    else
      MX0_reach_26 h v0 v1 v2 (gP h v0 13) v2 (0 : Int32)
set_option maxRecDepth 100000 in
set_option maxHeartbeats 8000000 in
theorem bX0_reach_4 {d : Nat} {h : Hp} {v0 : Nat} {v1 : Int32} {v2 : Int32} {r : Int32} {h9 : Hp} {x : ((Int32 × Hp) ⊕ (Int32 × Hp))} (H : BX0_reach_4 h v0 v1 v2 = some x) (hb0 : ∀ s : Int32 × Hp, x = .inl s → J (d + 2) YX0_reach 4 [.ref v0, .int v1, .int s.1, Value.null] [] s.2 (oI r) h9) (hx : ∀ z : (Int32 × Hp), x = .inr (z) → z = (r, h9)) : J (d + 2) YX0_reach 4 [.ref v0, .int v1, .int v2, Value.null] [] h (oI r) h9 := by
  unfold BX0_reach_4 at H
  refine J_iload_n 2 dX0_reach_4 rfl rfl ?_
  refine J_aload_n 0 dX0_reach_5 rfl rfl ?_
  obtain ⟨g1, H⟩ := gd H
  refine J_getI 0 6 dX0_reach_6 g1 flX0_30 rfl ?_
  refine J_icmp_gt 33 dX0_reach_9 rfl (fun q2 => ?_) (fun q2 => ?_)
  · replace H := br1 q2 H
    obtain ⟨y0, H90, rfl⟩ := up1_el H
    replace H := H90
    obtain rfl := hx _ rfl
    exact J_dr (kX0_reach_33 H ) ⟨rfl, ⟨rfl, trivial⟩⟩
  · replace H := br0 q2 H
    refine J_aload_n 0 dX0_reach_12 rfl rfl ?_
    refine J_gP 0 13 dX0_reach_13 g1 flX0_52 rfl rfl ?_
    refine J_iload_n 2 dX0_reach_16 rfl rfl ?_
    refine J_iload_n 2 dX0_reach_17 rfl rfl ?_
    refine J_if_ne 25 dX0_reach_18 rfl (fun q19 => ?_) (fun q19 => ?_)
    · replace H := br0 q19 H
      refine J_iconst (0 : Int32) dX0_reach_25 kc_0 ?_
      exact J_dr (kX0_reach_26 H hb0 hx) ⟨rfl, ⟨rfl, ⟨rfl, trivial⟩⟩⟩
    · replace H := br1 q19 H
      refine J_iconst (1 : Int32) dX0_reach_21 kc_1 ?_
      refine J_goto 26 dX0_reach_22 rfl ?_
      exact J_dr (kX0_reach_26 H hb0 hx) ⟨rfl, ⟨rfl, ⟨rfl, trivial⟩⟩⟩
noncomputable def MX0_reach_4 (h : Hp) (v0 : Nat) (v1 : Int32) (v2 : Int32) : Option (Int32 × Hp) := it (fun q : Int32 × Hp => BX0_reach_4 q.2 v0 v1 q.1) (v2, h)
set_option maxRecDepth 100000 in
set_option maxHeartbeats 8000000 in
theorem kX0_reach_4 {d : Nat} {h : Hp} {v0 : Nat} {v1 : Int32} {v2 : Int32} {r : Int32} {h9 : Hp} (H : MX0_reach_4 h v0 v1 v2 = some (r, h9)) : J (d + 2) YX0_reach 4 [.ref v0, .int v1, .int v2, Value.null] [] h (oI r) h9 := by
  unfold MX0_reach_4 at H
  refine it_J (G := (fun q : Int32 × Hp => J (d + 2) YX0_reach 4 [.ref v0, .int v1, .int q.1, Value.null] [] q.2 (oI r) h9)) (Q := (fun y : (Int32 × Hp) => y = (r, h9))) (fun q x Hq hm => ?_) H rfl
  exact bX0_reach_4 Hq (fun s hs => by subst hs; exact hm) (fun z hz => by subst hz; exact hm)
noncomputable def MX0_reach (h : Hp) (v0 : Nat) : Option (Int32 × Hp) :=
  MX0_reach_4 h v0 (0 : Int32) (0 : Int32)
set_option maxRecDepth 100000 in
set_option maxHeartbeats 8000000 in
theorem eX0_reach {d : Nat} {h : Hp} {v0 : Nat} {r : Int32} {h9 : Hp} (H : MX0_reach h v0 = some (r, h9)) : J (d + 2) YX0_reach 0 [.ref v0, Value.null, Value.null, Value.null] [] h (oI r) h9 := by
  unfold MX0_reach at H
  refine J_iconst (0 : Int32) dX0_reach_0 kc_0 ?_
  refine J_istore_n 1 dX0_reach_1 rfl (by decide) (ls' := [.ref v0, .int (0 : Int32), Value.null, Value.null]) rfl ?_
  refine J_iconst (0 : Int32) dX0_reach_2 kc_0 ?_
  refine J_istore_n 2 dX0_reach_3 rfl (by decide) (ls' := [.ref v0, .int (0 : Int32), .int (0 : Int32), Value.null]) rfl ?_
  exact J_dr (kX0_reach_4 H ) ⟨rfl, ⟨rfl, ⟨rfl, trivial⟩⟩⟩
theorem okX0_reach {d : Nat} {h : Hp} {v0 : Nat} {r : Int32} {h9 : Hp} (H : MX0_reach h v0 = some (r, h9)) : CT (d + 2) YX0_reach [.ref v0] h (oI r) h9 := CT_of (by decide +kernel) (Nat.le_of_ble_eq_true rfl) (eX0_reach H)
noncomputable def MX11_best (h : Hp) (v0 : Nat) (v1 : Int32) (v2 : Int32) : Option ((Int32 ⊕ Nat) × Hp) :=
  gg (β := ((Int32 ⊕ Nat) × Hp)) (kd h v0 = 10) <|
  gg (β := ((Int32 ⊕ Nat) × Hp)) (kd h (gP h v0 5) = 6) <|
  Option.bind (α := Nat) (β := ((Int32 ⊕ Nat) × Hp)) (MX7_findPart h (gP h v0 5) v1) fun (t4 : Nat) =>
  if t4 = 0 then
    some (.inr 1, bmp h 1 6)
  else
    b2 (α := Nat) (β := Hp) (γ := ((Int32 ⊕ Nat) × Hp)) (MX7_breakerFor h (gP h v0 5) t4 (gI h (gP h v0 5) 0)) fun (t8 : Nat) (h7 : Hp) =>
    if v2 = (0 : Int32) then
      gg (β := ((Int32 ⊕ Nat) × Hp)) (kd h7 t8 = 0) <|
      b2 (α := Int32) (β := Hp) (γ := ((Int32 ⊕ Nat) × Hp)) (MX0_solve h7 t8 (0 : Int32)) fun (t12 : Int32) (h11 : Hp) =>
      some (.inl t12, h11)
    else
    if v2 = (1 : Int32) then
      gg (β := ((Int32 ⊕ Nat) × Hp)) (kd h7 t8 = 0) <|
      b2 (α := Int32) (β := Hp) (γ := ((Int32 ⊕ Nat) × Hp)) (MX0_solve h7 t8 (0 : Int32)) fun (t16 : Int32) (h15 : Hp) =>
      if t16 = (-1 : Int32) then
        some (.inl (-1 : Int32), h15)
      else
        gg (β := ((Int32 ⊕ Nat) × Hp)) (kd h15 t8 = 0) <|
        Option.bind (α := Int32) (β := ((Int32 ⊕ Nat) × Hp)) (MX0_badnessFrom h15 t8 (0 : Int32)) fun (t20 : Int32) =>
        some (.inl t20, h15)
    else
    if v2 = (2 : Int32) then
      gg (β := ((Int32 ⊕ Nat) × Hp)) (kd h7 t8 = 0) <|
      b2 (α := Int32) (β := Hp) (γ := ((Int32 ⊕ Nat) × Hp)) (MX0_reach h7 t8) fun (t24 : Int32) (h23 : Hp) =>
      some (.inl t24, h23)
    else
      some (.inr 4, bmp h7 1 6)
set_option maxRecDepth 100000 in
set_option maxHeartbeats 8000000 in
theorem eX11_best {d : Nat} {h : Hp} {v0 : Nat} {v1 : Int32} {v2 : Int32} {r : Int32 ⊕ Nat} {h9 : Hp} (H : MX11_best h v0 v1 v2 = some (r, h9)) : J (d + 4) YX11_best 0 [.ref v0, .int v1, .int v2, Value.null, Value.null] [] h (oT r) h9 := by
  unfold MX11_best at H
  refine J_aload_n 0 dX11_best_0 rfl rfl ?_
  obtain ⟨g1, H⟩ := gd H
  refine J_gP 10 5 dX11_best_1 g1 flX11_39 rfl rfl ?_
  refine J_iload_n 1 dX11_best_4 rfl rfl ?_
  obtain ⟨g3, H⟩ := gd H
  obtain ⟨t4, e2, H⟩ := bd H
  refine J_cV (as := [.int v1]) 6 YX7_findPart 1 dX11_best_5 moX7_findPart mvX7_findPart mlX11_139 g3 rfl rfl (okX7_findPart (d := d + 3) e2) rfl rfl [] rfl rfl (st2 := [.ref t4]) rfl ?_
  refine J_astore_n 3 dX11_best_8 rfl (by decide) (ls' := [.ref v0, .int v1, .int v2, .ref t4, Value.null]) rfl ?_
  refine J_aload_n 3 dX11_best_9 rfl rfl ?_
  refine J_ifnonnull 21 dX11_best_10 rfl (fun q5 => ?_) (fun q5 => ?_)
  · replace H := br0 q5 H
    refine J_aload_n 0 dX11_best_21 rfl rfl ?_
    refine J_gP 10 5 dX11_best_22 g1 flX11_39 rfl rfl ?_
    refine J_aload_n 3 dX11_best_25 rfl rfl ?_
    refine J_aload_n 0 dX11_best_26 rfl rfl ?_
    refine J_gP 10 5 dX11_best_27 g1 flX11_39 rfl rfl ?_
    refine J_getI 6 0 dX11_best_30 g3 flX11_117 rfl ?_
    obtain ⟨t8, h7, e6, H⟩ := b2_el H
    refine J_cV (as := [.ref t4, .int (gI h (gP h v0 5) 0)]) 6 YX7_breakerFor 2 dX11_best_33 moX7_breakerFor mvX7_breakerFor mlX11_175 g3 rfl rfl (okX7_breakerFor (d := d) e6) rfl rfl [] rfl rfl (st2 := [.ref t8]) rfl ?_
    refine J_astore dX11_best_36 (by decide) (ls' := [.ref v0, .int v1, .int v2, .ref t4, .ref t8]) rfl ?_
    refine J_iload_n 2 dX11_best_38 rfl rfl ?_
    by_cases q1000 : v2 = (0 : Int32)
    · replace H := br1 q1000 H
      refine J_tab 64 dX11_best_39 q1000 (by decide) rfl rfl ?_
      refine J_aload dX11_best_64 rfl ?_
      refine J_iconst (0 : Int32) dX11_best_66 kc_0 ?_
      obtain ⟨g10, H⟩ := gd H
      obtain ⟨t12, h11, e9, H⟩ := b2_el H
      refine J_cV (as := [.int (0 : Int32)]) 0 YX0_solve 1 dX11_best_67 moX0_solve mvX0_solve mlX11_199 g10 rfl rfl (okX0_solve (d := d) e9) rfl rfl [] rfl rfl (st2 := [.int t12]) rfl ?_
      cases H
      exact J_iretI dX11_best_70 rfl
    replace H := br0 q1000 H
    by_cases q1001 : v2 = (1 : Int32)
    · replace H := br1 q1001 H
      refine J_tab 71 dX11_best_39 q1001 (by decide) rfl rfl ?_
      refine J_aload dX11_best_71 rfl ?_
      refine J_iconst (0 : Int32) dX11_best_73 kc_0 ?_
      obtain ⟨g14, H⟩ := gd H
      obtain ⟨t16, h15, e13, H⟩ := b2_el H
      refine J_cV (as := [.int (0 : Int32)]) 0 YX0_solve 1 dX11_best_74 moX0_solve mvX0_solve mlX11_199 g14 rfl rfl (okX0_solve (d := d) e13) rfl rfl [] rfl rfl (st2 := [.int t16]) rfl ?_
      refine J_iconst (-1 : Int32) dX11_best_77 kc_m1 ?_
      refine J_icmp_ne 85 dX11_best_78 rfl (fun q17 => ?_) (fun q17 => ?_)
      · replace H := br0 q17 H
        refine J_aload dX11_best_85 rfl ?_
        refine J_iconst (0 : Int32) dX11_best_87 kc_0 ?_
        obtain ⟨g19, H⟩ := gd H
        obtain ⟨t20, e18, H⟩ := bd H
        refine J_cV (as := [.int (0 : Int32)]) 0 YX0_badnessFrom 1 dX11_best_88 moX0_badnessFrom mvX0_badnessFrom mlX11_202 g19 rfl rfl (okX0_badnessFrom (d := d + 3) e18) rfl rfl [] rfl rfl (st2 := [.int t20]) rfl ?_
        cases H
        exact J_iretI dX11_best_91 rfl
      · replace H := br1 q17 H
        refine J_iconst (-1 : Int32) dX11_best_81 kc_m1 ?_
        refine J_goto 91 dX11_best_82 rfl ?_
        cases H
        exact J_iretI dX11_best_91 rfl
    replace H := br0 q1001 H
    by_cases q1002 : v2 = (2 : Int32)
    · replace H := br1 q1002 H
      refine J_tab 92 dX11_best_39 q1002 (by decide) rfl rfl ?_
      refine J_aload dX11_best_92 rfl ?_
      obtain ⟨g22, H⟩ := gd H
      obtain ⟨t24, h23, e21, H⟩ := b2_el H
      refine J_cV (as := []) 0 YX0_reach 0 dX11_best_94 moX0_reach mvX0_reach mlX11_205 g22 rfl rfl (okX0_reach (d := d + 1) e21) rfl rfl [] rfl rfl (st2 := [.int t24]) rfl ?_
      cases H
      exact J_iretI dX11_best_97 rfl
    replace H := br0 q1002 H
    refine J_tab0 3 98 dX11_best_39 rfl (fun k hk => ?_) rfl rfl ?_
    · match k, hk with
      | 0, _ => exact q1000
      | 1, _ => exact q1001
      | 2, _ => exact q1002
      | k + 3, hk => exact absurd hk (by omega)
    · cases H
      exact J_throw 4 ["java/lang/RuntimeException", "java/lang/Exception"] dX11_best_98 dX11_best_101 dX11_best_102 dX11_best_105 th_174 clX11_172 (Nat.le_of_ble_eq_true rfl)
  · replace H := br1 q5 H
    cases H
    exact J_throw 1 ["java/lang/RuntimeException", "java/lang/Exception"] dX11_best_13 dX11_best_16 dX11_best_17 dX11_best_20 th_86 clX11_84 (Nat.le_of_ble_eq_true rfl)
theorem okX11_best {d : Nat} {h : Hp} {v0 : Nat} {v1 : Int32} {v2 : Int32} {r : Int32 ⊕ Nat} {h9 : Hp} (H : MX11_best h v0 v1 v2 = some (r, h9)) : CT (d + 4) YX11_best [.ref v0, .int v1, .int v2] h (oT r) h9 := CT_of (by decide +kernel) (Nat.le_of_ble_eq_true rfl) (eX11_best H)
noncomputable def MX11_isBrasses (h : Hp) (v0 : Int32) : Option Int32 :=
  if v0 < 0 then
    some (0 : Int32)
  else
    if (40 : Int32) < v0 then
      some (0 : Int32)
    else
      some (1 : Int32)
set_option maxRecDepth 100000 in
set_option maxHeartbeats 8000000 in
theorem eX11_isBrasses {d : Nat} {h : Hp} {v0 : Int32} {r : Int32} (H : MX11_isBrasses h v0 = some r) : J (d) YX11_isBrasses 0 [.int v0] [] h (oI r) h := by
  unfold MX11_isBrasses at H
  refine J_iload_n 0 dX11_isBrasses_0 rfl rfl ?_
  refine J_if_lt 14 dX11_isBrasses_1 rfl (fun q1 => ?_) (fun q1 => ?_)
  · replace H := br1 q1 H
    refine J_iconst (0 : Int32) dX11_isBrasses_14 kc_0 ?_
    cases H
    exact J_rZ dX11_isBrasses_15 rfl rfl
  · replace H := br0 q1 H
    refine J_iload_n 0 dX11_isBrasses_4 rfl rfl ?_
    refine J_bipush (40 : Int32) dX11_isBrasses_5 kb_40 ?_
    refine J_icmp_gt 14 dX11_isBrasses_7 rfl (fun q2 => ?_) (fun q2 => ?_)
    · replace H := br1 q2 H
      refine J_iconst (0 : Int32) dX11_isBrasses_14 kc_0 ?_
      cases H
      exact J_rZ dX11_isBrasses_15 rfl rfl
    · replace H := br0 q2 H
      refine J_iconst (1 : Int32) dX11_isBrasses_10 kc_1 ?_
      refine J_goto 15 dX11_isBrasses_11 rfl ?_
      cases H
      exact J_rZ dX11_isBrasses_15 rfl rfl
theorem okX11_isBrasses {d : Nat} {h : Hp} {v0 : Int32} {r : Int32} (H : MX11_isBrasses h v0 = some r) : CT (d) YX11_isBrasses [.int v0] h (oI r) h := CT_of (by decide +kernel) (Nat.le_of_ble_eq_true rfl) (eX11_isBrasses H)
noncomputable def MX11_isSign (h : Hp) (v0 : Int32) : Option Int32 :=
  if v0 < 0 then
    some (0 : Int32)
  else
    if (27 : Int32) ≤ v0 then
      some (0 : Int32)
    else
      some (1 : Int32)
set_option maxRecDepth 100000 in
set_option maxHeartbeats 8000000 in
theorem eX11_isSign {d : Nat} {h : Hp} {v0 : Int32} {r : Int32} (H : MX11_isSign h v0 = some r) : J (d) YX11_isSign 0 [.int v0] [] h (oI r) h := by
  unfold MX11_isSign at H
  refine J_iload_n 0 dX11_isSign_0 rfl rfl ?_
  refine J_if_lt 14 dX11_isSign_1 rfl (fun q1 => ?_) (fun q1 => ?_)
  · replace H := br1 q1 H
    refine J_iconst (0 : Int32) dX11_isSign_14 kc_0 ?_
    cases H
    exact J_rZ dX11_isSign_15 rfl rfl
  · replace H := br0 q1 H
    refine J_iload_n 0 dX11_isSign_4 rfl rfl ?_
    refine J_bipush (27 : Int32) dX11_isSign_5 kb_27 ?_
    refine J_icmp_ge 14 dX11_isSign_7 rfl (fun q2 => ?_) (fun q2 => ?_)
    · replace H := br1 q2 H
      refine J_iconst (0 : Int32) dX11_isSign_14 kc_0 ?_
      cases H
      exact J_rZ dX11_isSign_15 rfl rfl
    · replace H := br0 q2 H
      refine J_iconst (1 : Int32) dX11_isSign_10 kc_1 ?_
      refine J_goto 15 dX11_isSign_11 rfl ?_
      cases H
      exact J_rZ dX11_isSign_15 rfl rfl
theorem okX11_isSign {d : Nat} {h : Hp} {v0 : Int32} {r : Int32} (H : MX11_isSign h v0 = some r) : CT (d) YX11_isSign [.int v0] h (oI r) h := CT_of (by decide +kernel) (Nat.le_of_ble_eq_true rfl) (eX11_isSign H)
noncomputable def MX11_brass (h : Hp) (v0 : Nat) (v1 : Int32) (v2 : Int32) (v3 : Int32) : Option ((Int32 ⊕ Nat) × Hp) :=
  gg (β := ((Int32 ⊕ Nat) × Hp)) (kd h v0 = 10) <|
  gg (β := ((Int32 ⊕ Nat) × Hp)) (kd h (gP h v0 5) = 6) <|
  Option.bind (α := Nat) (β := ((Int32 ⊕ Nat) × Hp)) (MX7_findMachine h (gP h v0 5) v1) fun (t4 : Nat) =>
  if t4 = 0 then
    some (.inr 1, bmp h 1 6)
  else
    Option.bind (α := Int32) (β := ((Int32 ⊕ Nat) × Hp)) (MX11_isSign h v2) fun (t7 : Int32) =>
    if t7 = 0 then
      some (.inr 1, bmp h 1 6)
    else
      Option.bind (α := Int32) (β := ((Int32 ⊕ Nat) × Hp)) (MX11_isBrasses h v3) fun (t10 : Int32) =>
      if t10 = 0 then
        some (.inr 2, bmp h 1 6)
      else
        gg (β := ((Int32 ⊕ Nat) × Hp)) (kd h t4 = 3) <|
        gg (β := ((Int32 ⊕ Nat) × Hp)) (kd h (gP h t4 0) = 20) <|
        gg (β := ((Int32 ⊕ Nat) × Hp)) (inB v2 (ln h (gP h t4 0)) = true) <|
        lt (α := Hp) (β := Option ((Int32 ⊕ Nat) × Hp)) (sI h (gP h t4 0) v2.toNatClampNeg v3) fun (h15 : Hp) =>
        Option.bind (α := Hp) (β := ((Int32 ⊕ Nat) × Hp)) (MX7_countOut h15 (gP h v0 5) v1 (((gI h15 (gP h v0 5) 0) - (gI h15 t4 1)) + (1 : Int32)) (gI h15 (gP h v0 5) 0)) fun (h21 : Hp) =>
        gg (β := ((Int32 ⊕ Nat) × Hp)) (kd h21 v0 = 10) <|
        gg (β := ((Int32 ⊕ Nat) × Hp)) (kd h21 (gP h21 v0 5) = 6) <|
        gg (β := ((Int32 ⊕ Nat) × Hp)) (kd h21 (gP h21 (gP h21 v0 5) 16) = 20) <|
        gg (β := ((Int32 ⊕ Nat) × Hp)) (inB v2 (ln h21 (gP h21 (gP h21 v0 5) 16)) = true) <|
        some (.inl (jmax (0 : Int32) (v3 - (gI h21 (gP h21 (gP h21 v0 5) 16) v2.toNatClampNeg))), h21)
set_option maxRecDepth 100000 in
set_option maxHeartbeats 8000000 in
theorem eX11_brass {d : Nat} {h : Hp} {v0 : Nat} {v1 : Int32} {v2 : Int32} {v3 : Int32} {r : Int32 ⊕ Nat} {h9 : Hp} (H : MX11_brass h v0 v1 v2 v3 = some (r, h9)) : J (d + 3) YX11_brass 0 [.ref v0, .int v1, .int v2, .int v3, Value.null] [] h (oT r) h9 := by
  unfold MX11_brass at H
  refine J_aload_n 0 dX11_brass_0 rfl rfl ?_
  obtain ⟨g1, H⟩ := gd H
  refine J_gP 10 5 dX11_brass_1 g1 flX11_39 rfl rfl ?_
  refine J_iload_n 1 dX11_brass_4 rfl rfl ?_
  obtain ⟨g3, H⟩ := gd H
  obtain ⟨t4, e2, H⟩ := bd H
  refine J_cV (as := [.int v1]) 6 YX7_findMachine 1 dX11_brass_5 moX7_findMachine mvX7_findMachine mlX11_231 g3 rfl rfl (okX7_findMachine (d := d + 2) e2) rfl rfl [] rfl rfl (st2 := [.ref t4]) rfl ?_
  refine J_astore dX11_brass_8 (by decide) (ls' := [.ref v0, .int v1, .int v2, .int v3, .ref t4]) rfl ?_
  refine J_aload dX11_brass_10 rfl ?_
  refine J_ifnull 22 dX11_brass_12 rfl (fun q5 => ?_) (fun q5 => ?_)
  · replace H := br1 q5 H
    cases H
    exact J_throw 1 ["java/lang/RuntimeException", "java/lang/Exception"] dX11_brass_22 dX11_brass_25 dX11_brass_26 dX11_brass_29 th_86 clX11_84 (Nat.le_of_ble_eq_true rfl)
  · replace H := br0 q5 H
    refine J_iload_n 2 dX11_brass_15 rfl rfl ?_
    obtain ⟨t7, e6, H⟩ := bd H
    refine J_cS (as := [.int v2]) YX11_isSign 1 dX11_brass_16 moX11_isSign msX11_isSign mlX11_81 (okX11_isSign (d := d + 2) e6) rfl rfl [] rfl rfl (st2 := [.int t7]) rfl ?_
    refine J_if_ne 30 dX11_brass_19 rfl (fun q8 => ?_) (fun q8 => ?_)
    · replace H := br0 q8 H
      refine J_iload_n 3 dX11_brass_30 rfl rfl ?_
      obtain ⟨t10, e9, H⟩ := bd H
      refine J_cS (as := [.int v3]) YX11_isBrasses 1 dX11_brass_31 moX11_isBrasses msX11_isBrasses mlX11_221 (okX11_isBrasses (d := d + 2) e9) rfl rfl [] rfl rfl (st2 := [.int t10]) rfl ?_
      refine J_if_ne 45 dX11_brass_34 rfl (fun q11 => ?_) (fun q11 => ?_)
      · replace H := br0 q11 H
        refine J_aload dX11_brass_45 rfl ?_
        obtain ⟨g12, H⟩ := gd H
        refine J_gP 3 0 dX11_brass_47 g12 flX11_235 rfl rfl ?_
        refine J_iload_n 2 dX11_brass_50 rfl rfl ?_
        refine J_iload_n 3 dX11_brass_51 rfl rfl ?_
        obtain ⟨g13, H⟩ := gd H
        obtain ⟨g14, H⟩ := gd H
        obtain ⟨h15, e16, H⟩ := lt_el H
        refine J_sI dX11_brass_52 g13 (inB_ok g14) e16 ?_
        have c17 := ekI e16
        have c18 := elI e16
        have c19 := epI e16
        refine J_aload_n 0 dX11_brass_53 rfl rfl ?_
        refine J_gP 10 5 dX11_brass_54 (kq c17 g1) flX11_39 rfl (congrFun (congrFun c19 v0) 5) ?_
        refine J_iload_n 1 dX11_brass_57 rfl rfl ?_
        refine J_aload_n 0 dX11_brass_58 rfl rfl ?_
        refine J_gP 10 5 dX11_brass_59 (kq c17 g1) flX11_39 rfl (congrFun (congrFun c19 v0) 5) ?_
        refine J_getI 6 0 dX11_brass_62 (kq c17 g3) flX11_117 rfl ?_
        refine J_aload dX11_brass_65 rfl ?_
        refine J_getI 3 1 dX11_brass_67 (kq c17 g12) flX11_240 rfl ?_
        refine J_isub dX11_brass_70 ?_
        refine J_iconst (1 : Int32) dX11_brass_71 kc_1 ?_
        refine J_iadd dX11_brass_72 ?_
        refine J_aload_n 0 dX11_brass_73 rfl rfl ?_
        refine J_gP 10 5 dX11_brass_74 (kq c17 g1) flX11_39 rfl (congrFun (congrFun c19 v0) 5) ?_
        refine J_getI 6 0 dX11_brass_77 (kq c17 g3) flX11_117 rfl ?_
        obtain ⟨h21, e20, H⟩ := bd H
        refine J_cV (as := [.int v1, .int (((gI h15 (gP h v0 5) 0) - (gI h15 t4 1)) + (1 : Int32)), .int (gI h15 (gP h v0 5) 0)]) 6 YX7_countOut 3 dX11_brass_80 moX7_countOut mvX7_countOut mlX11_243 (kq c17 g3) rfl rfl (okX7_countOut (d := d) e20) rfl rfl [] rfl rfl (st2 := []) rfl ?_
        refine J_iconst (0 : Int32) dX11_brass_83 kc_0 ?_
        refine J_iload_n 3 dX11_brass_84 rfl rfl ?_
        refine J_aload_n 0 dX11_brass_85 rfl rfl ?_
        obtain ⟨g22, H⟩ := gd H
        refine J_gP 10 5 dX11_brass_86 g22 flX11_39 rfl rfl ?_
        obtain ⟨g23, H⟩ := gd H
        refine J_gP 6 16 dX11_brass_89 g23 flX11_247 rfl rfl ?_
        refine J_iload_n 2 dX11_brass_92 rfl rfl ?_
        obtain ⟨g24, H⟩ := gd H
        obtain ⟨g25, H⟩ := gd H
        refine J_iald dX11_brass_93 g24 (inB_ok g25) ?_
        refine J_isub dX11_brass_94 ?_
        refine J_mx dX11_brass_95 mlX11_250 rfl ?_
        cases H
        exact J_iretI dX11_brass_98 rfl
      · replace H := br1 q11 H
        cases H
        exact J_throw 2 ["java/lang/RuntimeException", "java/lang/Exception"] dX11_brass_37 dX11_brass_40 dX11_brass_41 dX11_brass_44 th_89 clX11_87 (Nat.le_of_ble_eq_true rfl)
    · replace H := br1 q8 H
      cases H
      exact J_throw 1 ["java/lang/RuntimeException", "java/lang/Exception"] dX11_brass_22 dX11_brass_25 dX11_brass_26 dX11_brass_29 th_86 clX11_84 (Nat.le_of_ble_eq_true rfl)
theorem okX11_brass {d : Nat} {h : Hp} {v0 : Nat} {v1 : Int32} {v2 : Int32} {v3 : Int32} {r : Int32 ⊕ Nat} {h9 : Hp} (H : MX11_brass h v0 v1 v2 v3 = some (r, h9)) : CT (d + 3) YX11_brass [.ref v0, .int v1, .int v2, .int v3] h (oT r) h9 := CT_of (by decide +kernel) (Nat.le_of_ble_eq_true rfl) (eX11_brass H)
noncomputable def MX11_broken (h : Hp) (v0 : Nat) (v1 : Int32) (v2 : Int32) : Option ((Int32 ⊕ Nat) × Hp) :=
  gg (β := ((Int32 ⊕ Nat) × Hp)) (kd h v0 = 10) <|
  gg (β := ((Int32 ⊕ Nat) × Hp)) (kd h (gP h v0 5) = 6) <|
  Option.bind (α := Nat) (β := ((Int32 ⊕ Nat) × Hp)) (MX7_findMachine h (gP h v0 5) v1) fun (t4 : Nat) =>
  if t4 = 0 then
    some (.inr 1, bmp h 1 6)
  else
    gg (β := ((Int32 ⊕ Nat) × Hp)) (kd h t4 = 3) <|
    gg (β := ((Int32 ⊕ Nat) × Hp)) (zOk v2 = true) <|
    lt (α := Hp) (β := Option ((Int32 ⊕ Nat) × Hp)) (sI h t4 2 v2) fun (h7 : Hp) =>
    if (gI h t4 2) = v2 then
      some (.inl (0 : Int32), h7)
    else
      some (.inl (1 : Int32), h7)
set_option maxRecDepth 100000 in
set_option maxHeartbeats 8000000 in
theorem eX11_broken {d : Nat} {h : Hp} {v0 : Nat} {v1 : Int32} {v2 : Int32} {r : Int32 ⊕ Nat} {h9 : Hp} (H : MX11_broken h v0 v1 v2 = some (r, h9)) : J (d + 1) YX11_broken 0 [.ref v0, .int v1, .int v2, Value.null, Value.null] [] h (oT r) h9 := by
  unfold MX11_broken at H
  refine J_aload_n 0 dX11_broken_0 rfl rfl ?_
  obtain ⟨g1, H⟩ := gd H
  refine J_gP 10 5 dX11_broken_1 g1 flX11_39 rfl rfl ?_
  refine J_iload_n 1 dX11_broken_4 rfl rfl ?_
  obtain ⟨g3, H⟩ := gd H
  obtain ⟨t4, e2, H⟩ := bd H
  refine J_cV (as := [.int v1]) 6 YX7_findMachine 1 dX11_broken_5 moX7_findMachine mvX7_findMachine mlX11_231 g3 rfl rfl (okX7_findMachine (d := d) e2) rfl rfl [] rfl rfl (st2 := [.ref t4]) rfl ?_
  refine J_astore_n 3 dX11_broken_8 rfl (by decide) (ls' := [.ref v0, .int v1, .int v2, .ref t4, Value.null]) rfl ?_
  refine J_aload_n 3 dX11_broken_9 rfl rfl ?_
  refine J_ifnonnull 21 dX11_broken_10 rfl (fun q5 => ?_) (fun q5 => ?_)
  · replace H := br0 q5 H
    refine J_aload_n 3 dX11_broken_21 rfl rfl ?_
    obtain ⟨g6, H⟩ := gd H
    refine J_getI 3 2 dX11_broken_22 g6 flX11_255 rfl ?_
    refine J_istore dX11_broken_25 (by decide) (ls' := [.ref v0, .int v1, .int v2, .ref t4, .int (gI h t4 2)]) rfl ?_
    refine J_aload_n 3 dX11_broken_27 rfl rfl ?_
    refine J_iload_n 2 dX11_broken_28 rfl rfl ?_
    obtain ⟨g9, H⟩ := gd H
    obtain ⟨h7, e8, H⟩ := lt_el H
    refine J_pZ 3 2 dX11_broken_29 g6 flX11_255 rfl rfl g9 e8 ?_
    have c10 := ekI e8
    have c11 := elI e8
    have c12 := epI e8
    refine J_iload dX11_broken_32 rfl ?_
    refine J_iload_n 2 dX11_broken_34 rfl rfl ?_
    refine J_icmp_eq 42 dX11_broken_35 rfl (fun q13 => ?_) (fun q13 => ?_)
    · replace H := br1 q13 H
      refine J_iconst (0 : Int32) dX11_broken_42 kc_0 ?_
      cases H
      exact J_rZ dX11_broken_43 rfl rfl
    · replace H := br0 q13 H
      refine J_iconst (1 : Int32) dX11_broken_38 kc_1 ?_
      refine J_goto 43 dX11_broken_39 rfl ?_
      cases H
      exact J_rZ dX11_broken_43 rfl rfl
  · replace H := br1 q5 H
    cases H
    exact J_throw 1 ["java/lang/RuntimeException", "java/lang/Exception"] dX11_broken_13 dX11_broken_16 dX11_broken_17 dX11_broken_20 th_86 clX11_84 (Nat.le_of_ble_eq_true rfl)
theorem okX11_broken {d : Nat} {h : Hp} {v0 : Nat} {v1 : Int32} {v2 : Int32} {r : Int32 ⊕ Nat} {h9 : Hp} (H : MX11_broken h v0 v1 v2 = some (r, h9)) : CT (d + 1) YX11_broken [.ref v0, .int v1, .int v2] h (oT r) h9 := CT_of (by decide +kernel) (Nat.le_of_ble_eq_true rfl) (eX11_broken H)
noncomputable def MX2_addTelling (h : Hp) (v0 : Nat) (v1 : Int32) (v2 : Int32) (v3 : Int32) (v4 : Int32) : Option Hp :=
  gg (β := Hp) (kd h v0 = 1) <|
  if (gI h v0 11) < (200 : Int32) then
    gg (β := Hp) (kd h (gP h v0 7) = 20) <|
    gg (β := Hp) (inB (gI h v0 11) (ln h (gP h v0 7)) = true) <|
    lt (α := Hp) (β := Option Hp) (sI h (gP h v0 7) (gI h v0 11).toNatClampNeg v1) fun (h5 : Hp) =>
    gg (β := Hp) (kd h (gP h v0 8) = 20) <|
    gg (β := Hp) (inB (gI h5 v0 11) (ln h (gP h v0 8)) = true) <|
    lt (α := Hp) (β := Option Hp) (sI h5 (gP h v0 8) (gI h5 v0 11).toNatClampNeg v2) fun (h12 : Hp) =>
    gg (β := Hp) (kd h (gP h v0 9) = 20) <|
    gg (β := Hp) (inB (gI h12 v0 11) (ln h (gP h v0 9)) = true) <|
    lt (α := Hp) (β := Option Hp) (sI h12 (gP h v0 9) (gI h12 v0 11).toNatClampNeg v3) fun (h19 : Hp) =>
    gg (β := Hp) (kd h (gP h v0 10) = 20) <|
    gg (β := Hp) (inB (gI h19 v0 11) (ln h (gP h v0 10)) = true) <|
    lt (α := Hp) (β := Option Hp) (sI h19 (gP h v0 10) (gI h19 v0 11).toNatClampNeg v4) fun (h26 : Hp) =>
    lt (α := Hp) (β := Option Hp) (sI h26 v0 11 ((gI h26 v0 11) + (1 : Int32))) fun (h31 : Hp) =>
    some h31
  else
    some h
set_option maxRecDepth 100000 in
set_option maxHeartbeats 8000000 in
theorem eX2_addTelling {d : Nat} {h : Hp} {v0 : Nat} {v1 : Int32} {v2 : Int32} {v3 : Int32} {v4 : Int32} {h9 : Hp} (H : MX2_addTelling h v0 v1 v2 v3 v4 = some h9) : J (d) YX2_addTelling 0 [.ref v0, .int v1, .int v2, .int v3, .int v4] [] h oV h9 := by
  unfold MX2_addTelling at H
  refine J_aload_n 0 dX2_addTelling_0 rfl rfl ?_
  obtain ⟨g1, H⟩ := gd H
  refine J_getI 1 11 dX2_addTelling_1 g1 flX2_48 rfl ?_
  refine J_sipush (200 : Int32) dX2_addTelling_4 ks_200 ?_
  refine J_icmp_lt 11 dX2_addTelling_7 rfl (fun q2 => ?_) (fun q2 => ?_)
  · replace H := br1 q2 H
    refine J_aload_n 0 dX2_addTelling_11 rfl rfl ?_
    refine J_gP 1 7 dX2_addTelling_12 g1 flX2_36 rfl rfl ?_
    refine J_aload_n 0 dX2_addTelling_15 rfl rfl ?_
    refine J_getI 1 11 dX2_addTelling_16 g1 flX2_48 rfl ?_
    refine J_iload_n 1 dX2_addTelling_19 rfl rfl ?_
    obtain ⟨g3, H⟩ := gd H
    obtain ⟨g4, H⟩ := gd H
    obtain ⟨h5, e6, H⟩ := lt_el H
    refine J_sI dX2_addTelling_20 g3 (inB_ok g4) e6 ?_
    have c7 := ekI e6
    have c8 := elI e6
    have c9 := epI e6
    refine J_aload_n 0 dX2_addTelling_21 rfl rfl ?_
    refine J_gP 1 8 dX2_addTelling_22 (kq c7 g1) flX2_39 rfl (congrFun (congrFun c9 v0) 8) ?_
    refine J_aload_n 0 dX2_addTelling_25 rfl rfl ?_
    refine J_getI 1 11 dX2_addTelling_26 (kq c7 g1) flX2_48 rfl ?_
    refine J_iload_n 2 dX2_addTelling_29 rfl rfl ?_
    obtain ⟨g10, H⟩ := gd H
    obtain ⟨g11, H⟩ := gd H
    obtain ⟨h12, e13, H⟩ := lt_el H
    refine J_sI dX2_addTelling_30 (kq c7 g10) (lq c8 g11) e13 ?_
    have c14 := (ekI e13).trans c7
    have c15 := (elI e13).trans c8
    have c16 := (epI e13).trans c9
    refine J_aload_n 0 dX2_addTelling_31 rfl rfl ?_
    refine J_gP 1 9 dX2_addTelling_32 (kq c14 g1) flX2_42 rfl (congrFun (congrFun c16 v0) 9) ?_
    refine J_aload_n 0 dX2_addTelling_35 rfl rfl ?_
    refine J_getI 1 11 dX2_addTelling_36 (kq c14 g1) flX2_48 rfl ?_
    refine J_iload_n 3 dX2_addTelling_39 rfl rfl ?_
    obtain ⟨g17, H⟩ := gd H
    obtain ⟨g18, H⟩ := gd H
    obtain ⟨h19, e20, H⟩ := lt_el H
    refine J_sI dX2_addTelling_40 (kq c14 g17) (lq c15 g18) e20 ?_
    have c21 := (ekI e20).trans c14
    have c22 := (elI e20).trans c15
    have c23 := (epI e20).trans c16
    refine J_aload_n 0 dX2_addTelling_41 rfl rfl ?_
    refine J_gP 1 10 dX2_addTelling_42 (kq c21 g1) flX2_45 rfl (congrFun (congrFun c23 v0) 10) ?_
    refine J_aload_n 0 dX2_addTelling_45 rfl rfl ?_
    refine J_getI 1 11 dX2_addTelling_46 (kq c21 g1) flX2_48 rfl ?_
    refine J_iload dX2_addTelling_49 rfl ?_
    obtain ⟨g24, H⟩ := gd H
    obtain ⟨g25, H⟩ := gd H
    obtain ⟨h26, e27, H⟩ := lt_el H
    refine J_sI dX2_addTelling_51 (kq c21 g24) (lq c22 g25) e27 ?_
    have c28 := (ekI e27).trans c21
    have c29 := (elI e27).trans c22
    have c30 := (epI e27).trans c23
    refine J_aload_n 0 dX2_addTelling_52 rfl rfl ?_
    refine J_dup dX2_addTelling_53 rfl ?_
    refine J_getI 1 11 dX2_addTelling_54 (kq c28 g1) flX2_48 rfl ?_
    refine J_iconst (1 : Int32) dX2_addTelling_57 kc_1 ?_
    refine J_iadd dX2_addTelling_58 ?_
    obtain ⟨h31, e32, H⟩ := lt_el H
    refine J_pI 1 11 dX2_addTelling_59 (kq c28 g1) flX2_48 rfl rfl e32 ?_
    have c33 := (ekI e32).trans c28
    have c34 := (elI e32).trans c29
    have c35 := (epI e32).trans c30
    cases H
    exact J_ret dX2_addTelling_62 rfl
  · replace H := br0 q2 H
    cases H
    exact J_ret dX2_addTelling_10 rfl
theorem okX2_addTelling {d : Nat} {h : Hp} {v0 : Nat} {v1 : Int32} {v2 : Int32} {v3 : Int32} {v4 : Int32} {h9 : Hp} (H : MX2_addTelling h v0 v1 v2 v3 v4 = some h9) : CT (d) YX2_addTelling [.ref v0, .int v1, .int v2, .int v3, .int v4] h oV h9 := CT_of (by decide +kernel) (Nat.le_of_ble_eq_true rfl) (eX2_addTelling H)
noncomputable def MX11_carry (h : Hp) (v0 : Nat) (v1 : Int32) (v2 : Int32) (v3 : Int32) : Option ((Int32 ⊕ Nat) × Hp) :=
  gg (β := ((Int32 ⊕ Nat) × Hp)) (kd h v0 = 10) <|
  gg (β := ((Int32 ⊕ Nat) × Hp)) (kd h (gP h v0 5) = 6) <|
  Option.bind (α := Nat) (β := ((Int32 ⊕ Nat) × Hp)) (MX7_findSlug h (gP h v0 5) v1) fun (t4 : Nat) =>
  if t4 = 0 then
    some (.inr 1, bmp h 1 6)
  else
    if v2 < 0 then
      some (.inr 2, bmp h 1 6)
    else
      if (9 : Int32) < v2 then
        some (.inr 2, bmp h 1 6)
      else
        gg (β := ((Int32 ⊕ Nat) × Hp)) (kd h t4 = 7) <|
        if v3 < (gI h t4 9) then
          some (.inr 2, bmp h 1 6)
        else
          if v3 ≤ (gI h (gP h v0 5) 0) then
            gg (β := ((Int32 ⊕ Nat) × Hp)) (kd h (gP h v0 6) = 1) <|
            if (gI h (gP h v0 6) 11) < (200 : Int32) then
              Option.bind (α := Hp) (β := ((Int32 ⊕ Nat) × Hp)) (MX2_addTelling h (gP h v0 6) v1 v2 v3 (gI h (gP h v0 5) 0)) fun (h14 : Hp) =>
              gg (β := ((Int32 ⊕ Nat) × Hp)) (kd h14 v0 = 10) <|
              gg (β := ((Int32 ⊕ Nat) × Hp)) (kd h14 (gP h14 v0 6) = 1) <|
              some (.inl (gI h14 (gP h14 v0 6) 11), h14)
            else
              some (.inl (-1 : Int32), h)
          else
            some (.inr 2, bmp h 1 6)
set_option maxRecDepth 100000 in
set_option maxHeartbeats 8000000 in
theorem eX11_carry {d : Nat} {h : Hp} {v0 : Nat} {v1 : Int32} {v2 : Int32} {v3 : Int32} {r : Int32 ⊕ Nat} {h9 : Hp} (H : MX11_carry h v0 v1 v2 v3 = some (r, h9)) : J (d + 1) YX11_carry 0 [.ref v0, .int v1, .int v2, .int v3, Value.null] [] h (oT r) h9 := by
  unfold MX11_carry at H
  refine J_aload_n 0 dX11_carry_0 rfl rfl ?_
  obtain ⟨g1, H⟩ := gd H
  refine J_gP 10 5 dX11_carry_1 g1 flX11_39 rfl rfl ?_
  refine J_iload_n 1 dX11_carry_4 rfl rfl ?_
  obtain ⟨g3, H⟩ := gd H
  obtain ⟨t4, e2, H⟩ := bd H
  refine J_cV (as := [.int v1]) 6 YX7_findSlug 1 dX11_carry_5 moX7_findSlug mvX7_findSlug mlX11_280 g3 rfl rfl (okX7_findSlug (d := d) e2) rfl rfl [] rfl rfl (st2 := [.ref t4]) rfl ?_
  refine J_astore dX11_carry_8 (by decide) (ls' := [.ref v0, .int v1, .int v2, .int v3, .ref t4]) rfl ?_
  refine J_aload dX11_carry_10 rfl ?_
  refine J_ifnonnull 23 dX11_carry_12 rfl (fun q5 => ?_) (fun q5 => ?_)
  · replace H := br0 q5 H
    refine J_iload_n 2 dX11_carry_23 rfl rfl ?_
    refine J_if_lt 53 dX11_carry_24 rfl (fun q6 => ?_) (fun q6 => ?_)
    · replace H := br1 q6 H
      cases H
      exact J_throw 2 ["java/lang/RuntimeException", "java/lang/Exception"] dX11_carry_53 dX11_carry_56 dX11_carry_57 dX11_carry_60 th_89 clX11_87 (Nat.le_of_ble_eq_true rfl)
    · replace H := br0 q6 H
      refine J_iload_n 2 dX11_carry_27 rfl rfl ?_
      refine J_bipush (9 : Int32) dX11_carry_28 kb_9 ?_
      refine J_icmp_gt 53 dX11_carry_30 rfl (fun q7 => ?_) (fun q7 => ?_)
      · replace H := br1 q7 H
        cases H
        exact J_throw 2 ["java/lang/RuntimeException", "java/lang/Exception"] dX11_carry_53 dX11_carry_56 dX11_carry_57 dX11_carry_60 th_89 clX11_87 (Nat.le_of_ble_eq_true rfl)
      · replace H := br0 q7 H
        refine J_iload_n 3 dX11_carry_33 rfl rfl ?_
        refine J_aload dX11_carry_34 rfl ?_
        obtain ⟨g8, H⟩ := gd H
        refine J_getI 7 9 dX11_carry_36 g8 flX11_292 rfl ?_
        refine J_icmp_lt 53 dX11_carry_39 rfl (fun q9 => ?_) (fun q9 => ?_)
        · replace H := br1 q9 H
          cases H
          exact J_throw 2 ["java/lang/RuntimeException", "java/lang/Exception"] dX11_carry_53 dX11_carry_56 dX11_carry_57 dX11_carry_60 th_89 clX11_87 (Nat.le_of_ble_eq_true rfl)
        · replace H := br0 q9 H
          refine J_iload_n 3 dX11_carry_42 rfl rfl ?_
          refine J_aload_n 0 dX11_carry_43 rfl rfl ?_
          refine J_gP 10 5 dX11_carry_44 g1 flX11_39 rfl rfl ?_
          refine J_getI 6 0 dX11_carry_47 g3 flX11_117 rfl ?_
          refine J_icmp_le 61 dX11_carry_50 rfl (fun q10 => ?_) (fun q10 => ?_)
          · replace H := br1 q10 H
            refine J_aload_n 0 dX11_carry_61 rfl rfl ?_
            refine J_gP 10 6 dX11_carry_62 g1 flX11_46 rfl rfl ?_
            obtain ⟨g11, H⟩ := gd H
            refine J_getI 1 11 dX11_carry_65 g11 flX11_371 rfl ?_
            refine J_sipush (200 : Int32) dX11_carry_68 ks_200 ?_
            refine J_icmp_lt 76 dX11_carry_71 rfl (fun q12 => ?_) (fun q12 => ?_)
            · replace H := br1 q12 H
              refine J_aload_n 0 dX11_carry_76 rfl rfl ?_
              refine J_gP 10 6 dX11_carry_77 g1 flX11_46 rfl rfl ?_
              refine J_iload_n 1 dX11_carry_80 rfl rfl ?_
              refine J_iload_n 2 dX11_carry_81 rfl rfl ?_
              refine J_iload_n 3 dX11_carry_82 rfl rfl ?_
              refine J_aload_n 0 dX11_carry_83 rfl rfl ?_
              refine J_gP 10 5 dX11_carry_84 g1 flX11_39 rfl rfl ?_
              refine J_getI 6 0 dX11_carry_87 g3 flX11_117 rfl ?_
              obtain ⟨h14, e13, H⟩ := bd H
              refine J_cV (as := [.int v1, .int v2, .int v3, .int (gI h (gP h v0 5) 0)]) 1 YX2_addTelling 4 dX11_carry_90 moX2_addTelling mvX2_addTelling mlX11_374 g11 rfl rfl (okX2_addTelling (d := d) e13) rfl rfl [] rfl rfl (st2 := []) rfl ?_
              refine J_aload_n 0 dX11_carry_93 rfl rfl ?_
              obtain ⟨g15, H⟩ := gd H
              refine J_gP 10 6 dX11_carry_94 g15 flX11_46 rfl rfl ?_
              obtain ⟨g16, H⟩ := gd H
              refine J_getI 1 11 dX11_carry_97 g16 flX11_371 rfl ?_
              cases H
              exact J_iretI dX11_carry_100 rfl
            · replace H := br0 q12 H
              refine J_iconst (-1 : Int32) dX11_carry_74 kc_m1 ?_
              cases H
              exact J_iretI dX11_carry_75 rfl
          · replace H := br0 q10 H
            cases H
            exact J_throw 2 ["java/lang/RuntimeException", "java/lang/Exception"] dX11_carry_53 dX11_carry_56 dX11_carry_57 dX11_carry_60 th_89 clX11_87 (Nat.le_of_ble_eq_true rfl)
  · replace H := br1 q5 H
    cases H
    exact J_throw 1 ["java/lang/RuntimeException", "java/lang/Exception"] dX11_carry_15 dX11_carry_18 dX11_carry_19 dX11_carry_22 th_86 clX11_84 (Nat.le_of_ble_eq_true rfl)
theorem okX11_carry {d : Nat} {h : Hp} {v0 : Nat} {v1 : Int32} {v2 : Int32} {v3 : Int32} {r : Int32 ⊕ Nat} {h9 : Hp} (H : MX11_carry h v0 v1 v2 v3 = some (r, h9)) : CT (d + 1) YX11_carry [.ref v0, .int v1, .int v2, .int v3] h (oT r) h9 := CT_of (by decide +kernel) (Nat.le_of_ble_eq_true rfl) (eX11_carry H)
noncomputable def MX11_change (h : Hp) (v0 : Nat) (v1 : Int32) (v2 : Int32) : Option ((Int32 ⊕ Nat) × Hp) :=
  gg (β := ((Int32 ⊕ Nat) × Hp)) (kd h v0 = 10) <|
  gg (β := ((Int32 ⊕ Nat) × Hp)) (kd h (gP h v0 5) = 6) <|
  Option.bind (α := Nat) (β := ((Int32 ⊕ Nat) × Hp)) (MX7_findSlug h (gP h v0 5) v1) fun (t4 : Nat) =>
  Option.bind (α := Nat) (β := ((Int32 ⊕ Nat) × Hp)) (MX7_findSlug h (gP h v0 5) v2) fun (t6 : Nat) =>
  if t4 = 0 then
    some (.inr 1, bmp h 1 6)
  else
    if t6 = 0 then
      some (.inr 1, bmp h 1 6)
    else
      gg (β := ((Int32 ⊕ Nat) × Hp)) (kd h t4 = 7) <|
      if (gI h t4 10) = 0 then
        gg (β := ((Int32 ⊕ Nat) × Hp)) (kd h t6 = 7) <|
        if (gI h t6 10) = 0 then
          Option.bind (α := Hp) (β := ((Int32 ⊕ Nat) × Hp)) (MX7_layAt h (gP h v0 5) v1 (gI h t6 12) (gI h t6 11)) fun (h14 : Hp) =>
          gg (β := ((Int32 ⊕ Nat) × Hp)) (kd h14 v0 = 10) <|
          gg (β := ((Int32 ⊕ Nat) × Hp)) (kd h14 (gP h14 v0 5) = 6) <|
          Option.bind (α := Hp) (β := ((Int32 ⊕ Nat) × Hp)) (MX7_layAt h14 (gP h14 v0 5) v2 (gI h t4 12) (gI h t4 11)) fun (h18 : Hp) =>
          some (.inl (1 : Int32), h18)
        else
          some (.inl (0 : Int32), h)
      else
        some (.inl (0 : Int32), h)
set_option maxRecDepth 100000 in
set_option maxHeartbeats 8000000 in
theorem eX11_change {d : Nat} {h : Hp} {v0 : Nat} {v1 : Int32} {v2 : Int32} {r : Int32 ⊕ Nat} {h9 : Hp} (H : MX11_change h v0 v1 v2 = some (r, h9)) : J (d + 2) YX11_change 0 [.ref v0, .int v1, .int v2, Value.null, Value.null, Value.null, Value.null] [] h (oT r) h9 := by
  unfold MX11_change at H
  refine J_aload_n 0 dX11_change_0 rfl rfl ?_
  obtain ⟨g1, H⟩ := gd H
  refine J_gP 10 5 dX11_change_1 g1 flX11_39 rfl rfl ?_
  refine J_iload_n 1 dX11_change_4 rfl rfl ?_
  obtain ⟨g3, H⟩ := gd H
  obtain ⟨t4, e2, H⟩ := bd H
  refine J_cV (as := [.int v1]) 6 YX7_findSlug 1 dX11_change_5 moX7_findSlug mvX7_findSlug mlX11_280 g3 rfl rfl (okX7_findSlug (d := d + 1) e2) rfl rfl [] rfl rfl (st2 := [.ref t4]) rfl ?_
  refine J_astore_n 3 dX11_change_8 rfl (by decide) (ls' := [.ref v0, .int v1, .int v2, .ref t4, Value.null, Value.null, Value.null]) rfl ?_
  refine J_aload_n 0 dX11_change_9 rfl rfl ?_
  refine J_gP 10 5 dX11_change_10 g1 flX11_39 rfl rfl ?_
  refine J_iload_n 2 dX11_change_13 rfl rfl ?_
  obtain ⟨t6, e5, H⟩ := bd H
  refine J_cV (as := [.int v2]) 6 YX7_findSlug 1 dX11_change_14 moX7_findSlug mvX7_findSlug mlX11_280 g3 rfl rfl (okX7_findSlug (d := d + 1) e5) rfl rfl [] rfl rfl (st2 := [.ref t6]) rfl ?_
  refine J_astore dX11_change_17 (by decide) (ls' := [.ref v0, .int v1, .int v2, .ref t4, .ref t6, Value.null, Value.null]) rfl ?_
  refine J_aload_n 3 dX11_change_19 rfl rfl ?_
  refine J_ifnull 28 dX11_change_20 rfl (fun q7 => ?_) (fun q7 => ?_)
  · replace H := br1 q7 H
    cases H
    exact J_throw 1 ["java/lang/RuntimeException", "java/lang/Exception"] dX11_change_28 dX11_change_31 dX11_change_32 dX11_change_35 th_86 clX11_84 (Nat.le_of_ble_eq_true rfl)
  · replace H := br0 q7 H
    refine J_aload dX11_change_23 rfl ?_
    refine J_ifnonnull 36 dX11_change_25 rfl (fun q8 => ?_) (fun q8 => ?_)
    · replace H := br0 q8 H
      refine J_aload_n 3 dX11_change_36 rfl rfl ?_
      obtain ⟨g9, H⟩ := gd H
      refine J_getI 7 10 dX11_change_37 g9 flX11_298 rfl ?_
      refine J_if_ne 51 dX11_change_40 rfl (fun q10 => ?_) (fun q10 => ?_)
      · replace H := br0 q10 H
        refine J_iconst (0 : Int32) dX11_change_51 kc_0 ?_
        cases H
        exact J_rZ dX11_change_52 rfl rfl
      · replace H := br1 q10 H
        refine J_aload dX11_change_43 rfl ?_
        obtain ⟨g11, H⟩ := gd H
        refine J_getI 7 10 dX11_change_45 g11 flX11_298 rfl ?_
        refine J_if_eq 53 dX11_change_48 rfl (fun q12 => ?_) (fun q12 => ?_)
        · replace H := br1 q12 H
          refine J_aload_n 3 dX11_change_53 rfl rfl ?_
          refine J_getI 7 12 dX11_change_54 g9 flX11_304 rfl ?_
          refine J_istore dX11_change_57 (by decide) (ls' := [.ref v0, .int v1, .int v2, .ref t4, .ref t6, .int (gI h t4 12), Value.null]) rfl ?_
          refine J_aload_n 3 dX11_change_59 rfl rfl ?_
          refine J_getI 7 11 dX11_change_60 g9 flX11_301 rfl ?_
          refine J_istore dX11_change_63 (by decide) (ls' := [.ref v0, .int v1, .int v2, .ref t4, .ref t6, .int (gI h t4 12), .int (gI h t4 11)]) rfl ?_
          refine J_aload_n 0 dX11_change_65 rfl rfl ?_
          refine J_gP 10 5 dX11_change_66 g1 flX11_39 rfl rfl ?_
          refine J_iload_n 1 dX11_change_69 rfl rfl ?_
          refine J_aload dX11_change_70 rfl ?_
          refine J_getI 7 12 dX11_change_72 g11 flX11_304 rfl ?_
          refine J_aload dX11_change_75 rfl ?_
          refine J_getI 7 11 dX11_change_77 g11 flX11_301 rfl ?_
          obtain ⟨h14, e13, H⟩ := bd H
          refine J_cV (as := [.int v1, .int (gI h t6 12), .int (gI h t6 11)]) 6 YX7_layAt 3 dX11_change_80 moX7_layAt mvX7_layAt mlX11_334 g3 rfl rfl (okX7_layAt (d := d) e13) rfl rfl [] rfl rfl (st2 := []) rfl ?_
          refine J_aload_n 0 dX11_change_83 rfl rfl ?_
          obtain ⟨g15, H⟩ := gd H
          refine J_gP 10 5 dX11_change_84 g15 flX11_39 rfl rfl ?_
          refine J_iload_n 2 dX11_change_87 rfl rfl ?_
          refine J_iload dX11_change_88 rfl ?_
          refine J_iload dX11_change_90 rfl ?_
          obtain ⟨g17, H⟩ := gd H
          obtain ⟨h18, e16, H⟩ := bd H
          refine J_cV (as := [.int v2, .int (gI h t4 12), .int (gI h t4 11)]) 6 YX7_layAt 3 dX11_change_92 moX7_layAt mvX7_layAt mlX11_334 g17 rfl rfl (okX7_layAt (d := d) e16) rfl rfl [] rfl rfl (st2 := []) rfl ?_
          refine J_iconst (1 : Int32) dX11_change_95 kc_1 ?_
          cases H
          exact J_rZ dX11_change_96 rfl rfl
        · replace H := br0 q12 H
          refine J_iconst (0 : Int32) dX11_change_51 kc_0 ?_
          cases H
          exact J_rZ dX11_change_52 rfl rfl
    · replace H := br1 q8 H
      cases H
      exact J_throw 1 ["java/lang/RuntimeException", "java/lang/Exception"] dX11_change_28 dX11_change_31 dX11_change_32 dX11_change_35 th_86 clX11_84 (Nat.le_of_ble_eq_true rfl)
theorem okX11_change {d : Nat} {h : Hp} {v0 : Nat} {v1 : Int32} {v2 : Int32} {r : Int32 ⊕ Nat} {h9 : Hp} (H : MX11_change h v0 v1 v2 = some (r, h9)) : CT (d + 2) YX11_change [.ref v0, .int v1, .int v2] h (oT r) h9 := CT_of (by decide +kernel) (Nat.le_of_ble_eq_true rfl) (eX11_change H)
noncomputable def MX11_isEdition (h : Hp) (v0 : Nat) (v1 : Int32) : Option Int32 :=
  if v1 < (-1 : Int32) then
    some (0 : Int32)
  else
    gg (β := Int32) (kd h v0 = 10) <|
    gg (β := Int32) (kd h (gP h v0 6) = 1) <|
    if (gI h (gP h v0 6) 6) ≤ v1 then
      some (0 : Int32)
    else
      some (1 : Int32)
set_option maxRecDepth 100000 in
set_option maxHeartbeats 8000000 in
theorem eX11_isEdition {d : Nat} {h : Hp} {v0 : Nat} {v1 : Int32} {r : Int32} (H : MX11_isEdition h v0 v1 = some r) : J (d) YX11_isEdition 0 [.ref v0, .int v1] [] h (oI r) h := by
  unfold MX11_isEdition at H
  refine J_iload_n 1 dX11_isEdition_0 rfl rfl ?_
  refine J_iconst (-1 : Int32) dX11_isEdition_1 kc_m1 ?_
  refine J_icmp_lt 20 dX11_isEdition_2 rfl (fun q1 => ?_) (fun q1 => ?_)
  · replace H := br1 q1 H
    refine J_iconst (0 : Int32) dX11_isEdition_20 kc_0 ?_
    cases H
    exact J_rZ dX11_isEdition_21 rfl rfl
  · replace H := br0 q1 H
    refine J_iload_n 1 dX11_isEdition_5 rfl rfl ?_
    refine J_aload_n 0 dX11_isEdition_6 rfl rfl ?_
    obtain ⟨g2, H⟩ := gd H
    refine J_gP 10 6 dX11_isEdition_7 g2 flX11_46 rfl rfl ?_
    obtain ⟨g3, H⟩ := gd H
    refine J_getI 1 6 dX11_isEdition_10 g3 flX11_456 rfl ?_
    refine J_icmp_ge 20 dX11_isEdition_13 rfl (fun q4 => ?_) (fun q4 => ?_)
    · replace H := br1 q4 H
      refine J_iconst (0 : Int32) dX11_isEdition_20 kc_0 ?_
      cases H
      exact J_rZ dX11_isEdition_21 rfl rfl
    · replace H := br0 q4 H
      refine J_iconst (1 : Int32) dX11_isEdition_16 kc_1 ?_
      refine J_goto 21 dX11_isEdition_17 rfl ?_
      cases H
      exact J_rZ dX11_isEdition_21 rfl rfl
theorem okX11_isEdition {d : Nat} {h : Hp} {v0 : Nat} {v1 : Int32} {r : Int32} (H : MX11_isEdition h v0 v1 = some r) : CT (d) YX11_isEdition [.ref v0, .int v1] h (oI r) h := CT_of (by decide +kernel) (Nat.le_of_ble_eq_true rfl) (eX11_isEdition H)
noncomputable def MX11_isPage (h : Hp) (v0 : Int32) : Option Int32 :=
  if v0 < 0 then
    some (0 : Int32)
  else
    if (6 : Int32) ≤ v0 then
      some (0 : Int32)
    else
      some (1 : Int32)
set_option maxRecDepth 100000 in
set_option maxHeartbeats 8000000 in
theorem eX11_isPage {d : Nat} {h : Hp} {v0 : Int32} {r : Int32} (H : MX11_isPage h v0 = some r) : J (d) YX11_isPage 0 [.int v0] [] h (oI r) h := by
  unfold MX11_isPage at H
  refine J_iload_n 0 dX11_isPage_0 rfl rfl ?_
  refine J_if_lt 14 dX11_isPage_1 rfl (fun q1 => ?_) (fun q1 => ?_)
  · replace H := br1 q1 H
    refine J_iconst (0 : Int32) dX11_isPage_14 kc_0 ?_
    cases H
    exact J_rZ dX11_isPage_15 rfl rfl
  · replace H := br0 q1 H
    refine J_iload_n 0 dX11_isPage_4 rfl rfl ?_
    refine J_bipush (6 : Int32) dX11_isPage_5 kb_6 ?_
    refine J_icmp_ge 14 dX11_isPage_7 rfl (fun q2 => ?_) (fun q2 => ?_)
    · replace H := br1 q2 H
      refine J_iconst (0 : Int32) dX11_isPage_14 kc_0 ?_
      cases H
      exact J_rZ dX11_isPage_15 rfl rfl
    · replace H := br0 q2 H
      refine J_iconst (1 : Int32) dX11_isPage_10 kc_1 ?_
      refine J_goto 15 dX11_isPage_11 rfl ?_
      cases H
      exact J_rZ dX11_isPage_15 rfl rfl
theorem okX11_isPage {d : Nat} {h : Hp} {v0 : Int32} {r : Int32} (H : MX11_isPage h v0 = some r) : CT (d) YX11_isPage [.int v0] h (oI r) h := CT_of (by decide +kernel) (Nat.le_of_ble_eq_true rfl) (eX11_isPage H)
noncomputable def MX2_slugOn (h : Hp) (v0 : Nat) (v1 : Int32) (v2 : Int32) : Option Int32 :=
  if v2 < 0 then
    some (-1 : Int32)
  else
    gg (β := Int32) (kd h v0 = 1) <|
    gg (β := Int32) (kd h (gP h v0 5) = 20) <|
    gg (β := Int32) (inB v1 (ln h (gP h v0 5)) = true) <|
    if (gI h (gP h v0 5) v1.toNatClampNeg) ≤ v2 then
      some (-1 : Int32)
    else
      gg (β := Int32) (kd h (gP h v0 4) = 24) <|
      gg (β := Int32) (inB v1 (ln h (gP h v0 4)) = true) <|
      if (gP h (gP h v0 4) v1.toNatClampNeg) = 0 then
        some (-1 : Int32)
      else
        gg (β := Int32) (kd h (gP h (gP h v0 4) v1.toNatClampNeg) = 20) <|
        gg (β := Int32) (inB v2 (ln h (gP h (gP h v0 4) v1.toNatClampNeg)) = true) <|
        some (gI h (gP h (gP h v0 4) v1.toNatClampNeg) v2.toNatClampNeg)
set_option maxRecDepth 100000 in
set_option maxHeartbeats 8000000 in
theorem eX2_slugOn {d : Nat} {h : Hp} {v0 : Nat} {v1 : Int32} {v2 : Int32} {r : Int32} (H : MX2_slugOn h v0 v1 v2 = some r) : J (d) YX2_slugOn 0 [.ref v0, .int v1, .int v2] [] h (oI r) h := by
  unfold MX2_slugOn at H
  refine J_iload_n 2 dX2_slugOn_0 rfl rfl ?_
  refine J_if_lt 23 dX2_slugOn_1 rfl (fun q1 => ?_) (fun q1 => ?_)
  · replace H := br1 q1 H
    refine J_iconst (-1 : Int32) dX2_slugOn_23 kc_m1 ?_
    refine J_goto 35 dX2_slugOn_24 rfl ?_
    cases H
    exact J_iretI dX2_slugOn_35 rfl
  · replace H := br0 q1 H
    refine J_iload_n 2 dX2_slugOn_4 rfl rfl ?_
    refine J_aload_n 0 dX2_slugOn_5 rfl rfl ?_
    obtain ⟨g2, H⟩ := gd H
    refine J_gP 1 5 dX2_slugOn_6 g2 flX2_29 rfl rfl ?_
    refine J_iload_n 1 dX2_slugOn_9 rfl rfl ?_
    obtain ⟨g3, H⟩ := gd H
    obtain ⟨g4, H⟩ := gd H
    refine J_iald dX2_slugOn_10 g3 (inB_ok g4) ?_
    refine J_icmp_ge 23 dX2_slugOn_11 rfl (fun q5 => ?_) (fun q5 => ?_)
    · replace H := br1 q5 H
      refine J_iconst (-1 : Int32) dX2_slugOn_23 kc_m1 ?_
      refine J_goto 35 dX2_slugOn_24 rfl ?_
      cases H
      exact J_iretI dX2_slugOn_35 rfl
    · replace H := br0 q5 H
      refine J_aload_n 0 dX2_slugOn_14 rfl rfl ?_
      refine J_gP 1 4 dX2_slugOn_15 g2 flX2_25 rfl rfl ?_
      refine J_iload_n 1 dX2_slugOn_18 rfl rfl ?_
      obtain ⟨g6, H⟩ := gd H
      obtain ⟨g7, H⟩ := gd H
      refine J_lP 24 dX2_slugOn_19 g6 rfl (inB_ok g7) rfl ?_
      refine J_ifnonnull 27 dX2_slugOn_20 rfl (fun q8 => ?_) (fun q8 => ?_)
      · replace H := br0 q8 H
        refine J_aload_n 0 dX2_slugOn_27 rfl rfl ?_
        refine J_gP 1 4 dX2_slugOn_28 g2 flX2_25 rfl rfl ?_
        refine J_iload_n 1 dX2_slugOn_31 rfl rfl ?_
        refine J_lP 24 dX2_slugOn_32 g6 rfl (inB_ok g7) rfl ?_
        refine J_iload_n 2 dX2_slugOn_33 rfl rfl ?_
        obtain ⟨g9, H⟩ := gd H
        obtain ⟨g10, H⟩ := gd H
        refine J_iald dX2_slugOn_34 g9 (inB_ok g10) ?_
        cases H
        exact J_iretI dX2_slugOn_35 rfl
      · replace H := br1 q8 H
        refine J_iconst (-1 : Int32) dX2_slugOn_23 kc_m1 ?_
        refine J_goto 35 dX2_slugOn_24 rfl ?_
        cases H
        exact J_iretI dX2_slugOn_35 rfl
theorem okX2_slugOn {d : Nat} {h : Hp} {v0 : Nat} {v1 : Int32} {v2 : Int32} {r : Int32} (H : MX2_slugOn h v0 v1 v2 = some r) : CT (d) YX2_slugOn [.ref v0, .int v1, .int v2] h (oI r) h := CT_of (by decide +kernel) (Nat.le_of_ble_eq_true rfl) (eX2_slugOn H)
noncomputable def BX2_hasSlug_2 (h : Hp) (v0 : Nat) (v1 : Int32) (v2 : Int32) (v3 : Int32) : Option ((Int32) ⊕ Int32) :=
  gg (β := ((Int32) ⊕ Int32)) (kd h v0 = 1) <|
  gg (β := ((Int32) ⊕ Int32)) (kd h (gP h v0 5) = 20) <|
  gg (β := ((Int32) ⊕ Int32)) (inB v1 (ln h (gP h v0 5)) = true) <|
  if (gI h (gP h v0 5) v1.toNatClampNeg) ≤ v3 then
    some (.inr ((0 : Int32)))
  else
    Option.bind (α := Int32) (β := ((Int32) ⊕ Int32)) (MX2_slugOn h v0 v1 v3) fun (t6 : Int32) =>
    if t6 = v2 then
      some (.inr ((1 : Int32)))
    else
      some (.inl (v3 + (1 : Int32)))
set_option maxRecDepth 100000 in
set_option maxHeartbeats 8000000 in
theorem bX2_hasSlug_2 {d : Nat} {h : Hp} {v0 : Nat} {v1 : Int32} {v2 : Int32} {v3 : Int32} {r : Int32} {x : ((Int32) ⊕ Int32)} (H : BX2_hasSlug_2 h v0 v1 v2 v3 = some x) (hb0 : ∀ s : Int32, x = .inl s → J (d + 1) YX2_hasSlug 2 [.ref v0, .int v1, .int v2, .int s] [] h (oI r) h) (hx : ∀ z : Int32, x = .inr (z) → z = r) : J (d + 1) YX2_hasSlug 2 [.ref v0, .int v1, .int v2, .int v3] [] h (oI r) h := by
  unfold BX2_hasSlug_2 at H
  refine J_iload_n 3 dX2_hasSlug_2 rfl rfl ?_
  refine J_aload_n 0 dX2_hasSlug_3 rfl rfl ?_
  obtain ⟨g1, H⟩ := gd H
  refine J_gP 1 5 dX2_hasSlug_4 g1 flX2_29 rfl rfl ?_
  refine J_iload_n 1 dX2_hasSlug_7 rfl rfl ?_
  obtain ⟨g2, H⟩ := gd H
  obtain ⟨g3, H⟩ := gd H
  refine J_iald dX2_hasSlug_8 g2 (inB_ok g3) ?_
  refine J_icmp_ge 30 dX2_hasSlug_9 rfl (fun q4 => ?_) (fun q4 => ?_)
  · replace H := br1 q4 H
    refine J_iconst (0 : Int32) dX2_hasSlug_30 kc_0 ?_
    cases H
    cases hx _ rfl
    exact J_rZ dX2_hasSlug_31 rfl rfl
  · replace H := br0 q4 H
    refine J_aload_n 0 dX2_hasSlug_12 rfl rfl ?_
    refine J_iload_n 1 dX2_hasSlug_13 rfl rfl ?_
    refine J_iload_n 3 dX2_hasSlug_14 rfl rfl ?_
    obtain ⟨t6, e5, H⟩ := bd H
    refine J_cV (as := [.int v1, .int v3]) 1 YX2_slugOn 2 dX2_hasSlug_15 moX2_slugOn mvX2_slugOn mlX2_73 g1 rfl rfl (okX2_slugOn (d := d) e5) rfl rfl [] rfl rfl (st2 := [.int t6]) rfl ?_
    refine J_iload_n 2 dX2_hasSlug_18 rfl rfl ?_
    refine J_icmp_ne 24 dX2_hasSlug_19 rfl (fun q7 => ?_) (fun q7 => ?_)
    · replace H := br0 q7 H
      refine J_iinc (v3 + (1 : Int32)) dX2_hasSlug_24 rfl (congrArg (HAdd.hAdd v3) kc_1) (by decide) (ls' := [.ref v0, .int v1, .int v2, .int (v3 + (1 : Int32))]) rfl ?_
      refine J_goto 2 dX2_hasSlug_27 rfl ?_
      cases H
      exact J_dr (hb0 _ rfl) ⟨rfl, ⟨rfl, ⟨rfl, ⟨rfl, trivial⟩⟩⟩⟩
    · replace H := br1 q7 H
      refine J_iconst (1 : Int32) dX2_hasSlug_22 kc_1 ?_
      cases H
      cases hx _ rfl
      exact J_rZ dX2_hasSlug_23 rfl rfl
noncomputable def MX2_hasSlug_2 (h : Hp) (v0 : Nat) (v1 : Int32) (v2 : Int32) (v3 : Int32) : Option Int32 := it (fun q : Int32 => BX2_hasSlug_2 h v0 v1 v2 q) (v3)
set_option maxRecDepth 100000 in
set_option maxHeartbeats 8000000 in
theorem kX2_hasSlug_2 {d : Nat} {h : Hp} {v0 : Nat} {v1 : Int32} {v2 : Int32} {v3 : Int32} {r : Int32} (H : MX2_hasSlug_2 h v0 v1 v2 v3 = some r) : J (d + 1) YX2_hasSlug 2 [.ref v0, .int v1, .int v2, .int v3] [] h (oI r) h := by
  unfold MX2_hasSlug_2 at H
  refine it_J (G := (fun q : Int32 => J (d + 1) YX2_hasSlug 2 [.ref v0, .int v1, .int v2, .int q] [] h (oI r) h)) (Q := (fun y : Int32 => y = r)) (fun q x Hq hm => ?_) H rfl
  exact bX2_hasSlug_2 Hq (fun s hs => by subst hs; exact hm) (fun z hz => by subst hz; exact hm)
noncomputable def MX2_hasSlug (h : Hp) (v0 : Nat) (v1 : Int32) (v2 : Int32) : Option Int32 :=
  MX2_hasSlug_2 h v0 v1 v2 (0 : Int32)
set_option maxRecDepth 100000 in
set_option maxHeartbeats 8000000 in
theorem eX2_hasSlug {d : Nat} {h : Hp} {v0 : Nat} {v1 : Int32} {v2 : Int32} {r : Int32} (H : MX2_hasSlug h v0 v1 v2 = some r) : J (d + 1) YX2_hasSlug 0 [.ref v0, .int v1, .int v2, Value.null] [] h (oI r) h := by
  unfold MX2_hasSlug at H
  refine J_iconst (0 : Int32) dX2_hasSlug_0 kc_0 ?_
  refine J_istore_n 3 dX2_hasSlug_1 rfl (by decide) (ls' := [.ref v0, .int v1, .int v2, .int (0 : Int32)]) rfl ?_
  exact J_dr (kX2_hasSlug_2 H ) ⟨rfl, ⟨rfl, ⟨rfl, ⟨rfl, trivial⟩⟩⟩⟩
theorem okX2_hasSlug {d : Nat} {h : Hp} {v0 : Nat} {v1 : Int32} {v2 : Int32} {r : Int32} (H : MX2_hasSlug h v0 v1 v2 = some r) : CT (d + 1) YX2_hasSlug [.ref v0, .int v1, .int v2] h (oI r) h := CT_of (by decide +kernel) (Nat.le_of_ble_eq_true rfl) (eX2_hasSlug H)
noncomputable def MX2_countNew_37 (h : Hp) (v0 : Nat) (v1 : Int32) (v2 : Int32) (v4 : Int32) (s0 : Int32) (s1 : Int32) : Option ((Int32 × Int32) ⊕ Int32) :=
  some (.inl ((s0 + s1), (v4 + (1 : Int32))))
set_option maxRecDepth 100000 in
set_option maxHeartbeats 8000000 in
theorem kX2_countNew_37 {d : Nat} {h : Hp} {v0 : Nat} {v1 : Int32} {v2 : Int32} {v4 : Int32} {s0 : Int32} {s1 : Int32} {r : Int32} {x : ((Int32 × Int32) ⊕ Int32)} (H : MX2_countNew_37 h v0 v1 v2 v4 s0 s1 = some x) (hb0 : ∀ s : Int32 × Int32, x = .inl s → J (d + 2) YX2_countNew 5 [.ref v0, .int v1, .int v2, .int s.1, .int s.2] [] h (oI r) h) (hx : ∀ z : Int32, x = .inr (z) → z = r) : J (d + 2) YX2_countNew 37 [.ref v0, .int v1, .int v2, Value.null, .int v4] [.int s1, .int s0] h (oI r) h := by
  unfold MX2_countNew_37 at H
  refine J_iadd dX2_countNew_37 ?_
  refine J_istore_n 3 dX2_countNew_38 rfl (by decide) (ls' := [.ref v0, .int v1, .int v2, .int (s0 + s1), .int v4]) rfl ?_
  refine J_iinc (v4 + (1 : Int32)) dX2_countNew_39 rfl (congrArg (HAdd.hAdd v4) kc_1) (by decide) (ls' := [.ref v0, .int v1, .int v2, .int (s0 + s1), .int (v4 + (1 : Int32))]) rfl ?_
  refine J_goto 5 dX2_countNew_42 rfl ?_
  cases H
  exact J_dr (hb0 _ rfl) ⟨rfl, ⟨rfl, ⟨rfl, ⟨rfl, ⟨rfl, trivial⟩⟩⟩⟩⟩
noncomputable def BX2_countNew_5 (h : Hp) (v0 : Nat) (v1 : Int32) (v2 : Int32) (v3 : Int32) (v4 : Int32) : Option ((Int32 × Int32) ⊕ Int32) :=
  gg (β := ((Int32 × Int32) ⊕ Int32)) (kd h v0 = 1) <|
  gg (β := ((Int32 × Int32) ⊕ Int32)) (kd h (gP h v0 5) = 20) <|
  gg (β := ((Int32 × Int32) ⊕ Int32)) (inB v2 (ln h (gP h v0 5)) = true) <|
  if (gI h (gP h v0 5) v2.toNatClampNeg) ≤ v4 then
    some (.inr (v3))
  else
    Option.bind (α := Int32) (β := ((Int32 × Int32) ⊕ Int32)) (MX2_slugOn h v0 v2 v4) fun (t6 : Int32) =>
    Option.bind (α := Int32) (β := ((Int32 × Int32) ⊕ Int32)) (MX2_hasSlug h v0 v1 t6) fun (t8 : Int32) =>
    if t8 = 0 then
      MX2_countNew_37 h v0 v1 v2 v4 v3 (1 : Int32)
    else
      MX2_countNew_37 h v0 v1 v2 v4 v3 (0 : Int32)
set_option maxRecDepth 100000 in
set_option maxHeartbeats 8000000 in
theorem bX2_countNew_5 {d : Nat} {h : Hp} {v0 : Nat} {v1 : Int32} {v2 : Int32} {v3 : Int32} {v4 : Int32} {r : Int32} {x : ((Int32 × Int32) ⊕ Int32)} (H : BX2_countNew_5 h v0 v1 v2 v3 v4 = some x) (hb0 : ∀ s : Int32 × Int32, x = .inl s → J (d + 2) YX2_countNew 5 [.ref v0, .int v1, .int v2, .int s.1, .int s.2] [] h (oI r) h) (hx : ∀ z : Int32, x = .inr (z) → z = r) : J (d + 2) YX2_countNew 5 [.ref v0, .int v1, .int v2, .int v3, .int v4] [] h (oI r) h := by
  unfold BX2_countNew_5 at H
  refine J_iload dX2_countNew_5 rfl ?_
  refine J_aload_n 0 dX2_countNew_7 rfl rfl ?_
  obtain ⟨g1, H⟩ := gd H
  refine J_gP 1 5 dX2_countNew_8 g1 flX2_29 rfl rfl ?_
  refine J_iload_n 2 dX2_countNew_11 rfl rfl ?_
  obtain ⟨g2, H⟩ := gd H
  obtain ⟨g3, H⟩ := gd H
  refine J_iald dX2_countNew_12 g2 (inB_ok g3) ?_
  refine J_icmp_ge 45 dX2_countNew_13 rfl (fun q4 => ?_) (fun q4 => ?_)
  · replace H := br1 q4 H
    refine J_iload_n 3 dX2_countNew_45 rfl rfl ?_
    cases H
    cases hx _ rfl
    exact J_iretI dX2_countNew_46 rfl
  · replace H := br0 q4 H
    refine J_iload_n 3 dX2_countNew_16 rfl rfl ?_
    refine J_aload_n 0 dX2_countNew_17 rfl rfl ?_
    refine J_iload_n 1 dX2_countNew_18 rfl rfl ?_
    refine J_aload_n 0 dX2_countNew_19 rfl rfl ?_
    refine J_iload_n 2 dX2_countNew_20 rfl rfl ?_
    refine J_iload dX2_countNew_21 rfl ?_
    obtain ⟨t6, e5, H⟩ := bd H
    refine J_cV (as := [.int v2, .int v4]) 1 YX2_slugOn 2 dX2_countNew_23 moX2_slugOn mvX2_slugOn mlX2_73 g1 rfl rfl (okX2_slugOn (d := d + 1) e5) rfl rfl [.int v1, .ref v0, .int v3] rfl rfl (st2 := [.int t6, .int v1, .ref v0, .int v3]) rfl ?_
    obtain ⟨t8, e7, H⟩ := bd H
    refine J_cV (as := [.int v1, .int t6]) 1 YX2_hasSlug 2 dX2_countNew_26 moX2_hasSlug mvX2_hasSlug mlX2_77 g1 rfl rfl (okX2_hasSlug (d := d) e7) rfl rfl [.int v3] rfl rfl (st2 := [.int t8, .int v3]) rfl ?_
    refine J_if_eq 36 dX2_countNew_29 rfl (fun q9 => ?_) (fun q9 => ?_)
    · replace H := br1 q9 H
      refine J_iconst (1 : Int32) dX2_countNew_36 kc_1 ?_
      exact J_dr (kX2_countNew_37 H hb0 hx) ⟨rfl, ⟨rfl, ⟨rfl, ⟨rfl, trivial⟩⟩⟩⟩
    · replace H := br0 q9 H
      refine J_iconst (0 : Int32) dX2_countNew_32 kc_0 ?_
      refine J_goto 37 dX2_countNew_33 rfl ?_
      exact J_dr (kX2_countNew_37 H hb0 hx) ⟨rfl, ⟨rfl, ⟨rfl, ⟨rfl, trivial⟩⟩⟩⟩
noncomputable def MX2_countNew_5 (h : Hp) (v0 : Nat) (v1 : Int32) (v2 : Int32) (v3 : Int32) (v4 : Int32) : Option Int32 := it (fun q : Int32 × Int32 => BX2_countNew_5 h v0 v1 v2 q.1 q.2) (v3, v4)
set_option maxRecDepth 100000 in
set_option maxHeartbeats 8000000 in
theorem kX2_countNew_5 {d : Nat} {h : Hp} {v0 : Nat} {v1 : Int32} {v2 : Int32} {v3 : Int32} {v4 : Int32} {r : Int32} (H : MX2_countNew_5 h v0 v1 v2 v3 v4 = some r) : J (d + 2) YX2_countNew 5 [.ref v0, .int v1, .int v2, .int v3, .int v4] [] h (oI r) h := by
  unfold MX2_countNew_5 at H
  refine it_J (G := (fun q : Int32 × Int32 => J (d + 2) YX2_countNew 5 [.ref v0, .int v1, .int v2, .int q.1, .int q.2] [] h (oI r) h)) (Q := (fun y : Int32 => y = r)) (fun q x Hq hm => ?_) H rfl
  exact bX2_countNew_5 Hq (fun s hs => by subst hs; exact hm) (fun z hz => by subst hz; exact hm)
noncomputable def MX2_countNew (h : Hp) (v0 : Nat) (v1 : Int32) (v2 : Int32) : Option Int32 :=
  MX2_countNew_5 h v0 v1 v2 (0 : Int32) (0 : Int32)
set_option maxRecDepth 100000 in
set_option maxHeartbeats 8000000 in
theorem eX2_countNew {d : Nat} {h : Hp} {v0 : Nat} {v1 : Int32} {v2 : Int32} {r : Int32} (H : MX2_countNew h v0 v1 v2 = some r) : J (d + 2) YX2_countNew 0 [.ref v0, .int v1, .int v2, Value.null, Value.null] [] h (oI r) h := by
  unfold MX2_countNew at H
  refine J_iconst (0 : Int32) dX2_countNew_0 kc_0 ?_
  refine J_istore_n 3 dX2_countNew_1 rfl (by decide) (ls' := [.ref v0, .int v1, .int v2, .int (0 : Int32), Value.null]) rfl ?_
  refine J_iconst (0 : Int32) dX2_countNew_2 kc_0 ?_
  refine J_istore dX2_countNew_3 (by decide) (ls' := [.ref v0, .int v1, .int v2, .int (0 : Int32), .int (0 : Int32)]) rfl ?_
  exact J_dr (kX2_countNew_5 H ) ⟨rfl, ⟨rfl, ⟨rfl, ⟨rfl, ⟨rfl, trivial⟩⟩⟩⟩⟩
theorem okX2_countNew {d : Nat} {h : Hp} {v0 : Nat} {v1 : Int32} {v2 : Int32} {r : Int32} (H : MX2_countNew h v0 v1 v2 = some r) : CT (d + 2) YX2_countNew [.ref v0, .int v1, .int v2] h (oI r) h := CT_of (by decide +kernel) (Nat.le_of_ble_eq_true rfl) (eX2_countNew H)
noncomputable def MX11_changed (h : Hp) (v0 : Nat) (v1 : Int32) (v2 : Int32) (v3 : Int32) : Option ((Int32 ⊕ Nat) × Hp) :=
  Option.bind (α := Int32) (β := ((Int32 ⊕ Nat) × Hp)) (MX11_isPage h v1) fun (t2 : Int32) =>
  if t2 = 0 then
    some (.inr 1, bmp h 1 6)
  else
    gg (β := ((Int32 ⊕ Nat) × Hp)) (kd h v0 = 10) <|
    Option.bind (α := Int32) (β := ((Int32 ⊕ Nat) × Hp)) (MX11_isEdition h v0 v2) fun (t6 : Int32) =>
    if t6 = 0 then
      some (.inr 1, bmp h 1 6)
    else
      Option.bind (α := Int32) (β := ((Int32 ⊕ Nat) × Hp)) (MX11_isEdition h v0 v3) fun (t9 : Int32) =>
      if t9 = 0 then
        some (.inr 1, bmp h 1 6)
      else
        gg (β := ((Int32 ⊕ Nat) × Hp)) (kd h (gP h v0 6) = 1) <|
        Option.bind (α := Int32) (β := ((Int32 ⊕ Nat) × Hp)) (MX2_countNew h (gP h v0 6) (((6 : Int32) * (v2 + (1 : Int32))) + v1) (((6 : Int32) * (v3 + (1 : Int32))) + v1)) fun (t13 : Int32) =>
        some (.inl t13, h)
set_option maxRecDepth 100000 in
set_option maxHeartbeats 8000000 in
theorem eX11_changed {d : Nat} {h : Hp} {v0 : Nat} {v1 : Int32} {v2 : Int32} {v3 : Int32} {r : Int32 ⊕ Nat} {h9 : Hp} (H : MX11_changed h v0 v1 v2 v3 = some (r, h9)) : J (d + 3) YX11_changed 0 [.ref v0, .int v1, .int v2, .int v3] [] h (oT r) h9 := by
  unfold MX11_changed at H
  refine J_iload_n 1 dX11_changed_0 rfl rfl ?_
  obtain ⟨t2, e1, H⟩ := bd H
  refine J_cS (as := [.int v1]) YX11_isPage 1 dX11_changed_1 moX11_isPage msX11_isPage mlX11_382 (okX11_isPage (d := d + 2) e1) rfl rfl [] rfl rfl (st2 := [.int t2]) rfl ?_
  refine J_if_eq 23 dX11_changed_4 rfl (fun q3 => ?_) (fun q3 => ?_)
  · replace H := br1 q3 H
    cases H
    exact J_throw 1 ["java/lang/RuntimeException", "java/lang/Exception"] dX11_changed_23 dX11_changed_26 dX11_changed_27 dX11_changed_30 th_86 clX11_84 (Nat.le_of_ble_eq_true rfl)
  · replace H := br0 q3 H
    refine J_aload_n 0 dX11_changed_7 rfl rfl ?_
    refine J_iload_n 2 dX11_changed_8 rfl rfl ?_
    obtain ⟨g5, H⟩ := gd H
    obtain ⟨t6, e4, H⟩ := bd H
    refine J_cV (as := [.int v2]) 10 YX11_isEdition 1 dX11_changed_9 moX11_isEdition mvX11_isEdition mlX11_450 g5 rfl rfl (okX11_isEdition (d := d + 2) e4) rfl rfl [] rfl rfl (st2 := [.int t6]) rfl ?_
    refine J_if_eq 23 dX11_changed_12 rfl (fun q7 => ?_) (fun q7 => ?_)
    · replace H := br1 q7 H
      cases H
      exact J_throw 1 ["java/lang/RuntimeException", "java/lang/Exception"] dX11_changed_23 dX11_changed_26 dX11_changed_27 dX11_changed_30 th_86 clX11_84 (Nat.le_of_ble_eq_true rfl)
    · replace H := br0 q7 H
      refine J_aload_n 0 dX11_changed_15 rfl rfl ?_
      refine J_iload_n 3 dX11_changed_16 rfl rfl ?_
      obtain ⟨t9, e8, H⟩ := bd H
      refine J_cV (as := [.int v3]) 10 YX11_isEdition 1 dX11_changed_17 moX11_isEdition mvX11_isEdition mlX11_450 g5 rfl rfl (okX11_isEdition (d := d + 2) e8) rfl rfl [] rfl rfl (st2 := [.int t9]) rfl ?_
      refine J_if_ne 31 dX11_changed_20 rfl (fun q10 => ?_) (fun q10 => ?_)
      · replace H := br0 q10 H
        refine J_aload_n 0 dX11_changed_31 rfl rfl ?_
        refine J_gP 10 6 dX11_changed_32 g5 flX11_46 rfl rfl ?_
        refine J_bipush (6 : Int32) dX11_changed_35 kb_6 ?_
        refine J_iload_n 2 dX11_changed_37 rfl rfl ?_
        refine J_iconst (1 : Int32) dX11_changed_38 kc_1 ?_
        refine J_iadd dX11_changed_39 ?_
        refine J_imul dX11_changed_40 ?_
        refine J_iload_n 1 dX11_changed_41 rfl rfl ?_
        refine J_iadd dX11_changed_42 ?_
        refine J_bipush (6 : Int32) dX11_changed_43 kb_6 ?_
        refine J_iload_n 3 dX11_changed_45 rfl rfl ?_
        refine J_iconst (1 : Int32) dX11_changed_46 kc_1 ?_
        refine J_iadd dX11_changed_47 ?_
        refine J_imul dX11_changed_48 ?_
        refine J_iload_n 1 dX11_changed_49 rfl rfl ?_
        refine J_iadd dX11_changed_50 ?_
        obtain ⟨g12, H⟩ := gd H
        obtain ⟨t13, e11, H⟩ := bd H
        refine J_cV (as := [.int (((6 : Int32) * (v2 + (1 : Int32))) + v1), .int (((6 : Int32) * (v3 + (1 : Int32))) + v1)]) 1 YX2_countNew 2 dX11_changed_51 moX2_countNew mvX2_countNew mlX11_462 g12 rfl rfl (okX2_countNew (d := d) e11) rfl rfl [] rfl rfl (st2 := [.int t13]) rfl ?_
        cases H
        exact J_iretI dX11_changed_54 rfl
      · replace H := br1 q10 H
        cases H
        exact J_throw 1 ["java/lang/RuntimeException", "java/lang/Exception"] dX11_changed_23 dX11_changed_26 dX11_changed_27 dX11_changed_30 th_86 clX11_84 (Nat.le_of_ble_eq_true rfl)
theorem okX11_changed {d : Nat} {h : Hp} {v0 : Nat} {v1 : Int32} {v2 : Int32} {v3 : Int32} {r : Int32 ⊕ Nat} {h9 : Hp} (H : MX11_changed h v0 v1 v2 v3 = some (r, h9)) : CT (d + 3) YX11_changed [.ref v0, .int v1, .int v2, .int v3] h (oT r) h9 := CT_of (by decide +kernel) (Nat.le_of_ble_eq_true rfl) (eX11_changed H)
noncomputable def MX7_rowCount (h : Hp) (v0 : Nat) : Option Int32 :=
  gg (β := Int32) (kd h v0 = 6) <|
  some (jmin (8 : Int32) (gI h v0 0))
set_option maxRecDepth 100000 in
set_option maxHeartbeats 8000000 in
theorem eX7_rowCount {d : Nat} {h : Hp} {v0 : Nat} {r : Int32} (H : MX7_rowCount h v0 = some r) : J (d) YX7_rowCount 0 [.ref v0] [] h (oI r) h := by
  unfold MX7_rowCount at H
  refine J_bipush (8 : Int32) dX7_rowCount_0 kb_8 ?_
  refine J_aload_n 0 dX7_rowCount_2 rfl rfl ?_
  obtain ⟨g1, H⟩ := gd H
  refine J_getI 6 0 dX7_rowCount_3 g1 flX7_9 rfl ?_
  refine J_mn dX7_rowCount_6 mlX7_371 rfl ?_
  cases H
  exact J_iretI dX7_rowCount_9 rfl
theorem okX7_rowCount {d : Nat} {h : Hp} {v0 : Nat} {r : Int32} (H : MX7_rowCount h v0 = some r) : CT (d) YX7_rowCount [.ref v0] h (oI r) h := CT_of (by decide +kernel) (Nat.le_of_ble_eq_true rfl) (eX7_rowCount H)
noncomputable def MX7_rowPlace (h : Hp) (v0 : Nat) (v1 : Int32) (v2 : Int32) : Option Int32 :=
  if v1 < 0 then
    some (-1 : Int32)
  else
    gg (β := Int32) (kd h v0 = 6) <|
    Option.bind (α := Int32) (β := Int32) (MX7_rowCount h v0) fun (t4 : Int32) =>
    if t4 ≤ v1 then
      some (-1 : Int32)
    else
      if v2 < 0 then
        some (-1 : Int32)
      else
        if v2 < (4 : Int32) then
          Option.bind (α := Int32) (β := Int32) (MX7_rowCount h v0) fun (t9 : Int32) =>
          some ((((((gI h v0 0) - t9) + v1) - (((gI h v0 0) - t9) + v1) / (8 : Int32) * (8 : Int32)) * (4 : Int32)) + v2)
        else
          some (-1 : Int32)
set_option maxRecDepth 100000 in
set_option maxHeartbeats 8000000 in
theorem eX7_rowPlace {d : Nat} {h : Hp} {v0 : Nat} {v1 : Int32} {v2 : Int32} {r : Int32} (H : MX7_rowPlace h v0 v1 v2 = some r) : J (d + 1) YX7_rowPlace 0 [.ref v0, .int v1, .int v2] [] h (oI r) h := by
  unfold MX7_rowPlace at H
  refine J_iload_n 1 dX7_rowPlace_0 rfl rfl ?_
  refine J_if_lt 21 dX7_rowPlace_1 rfl (fun q1 => ?_) (fun q1 => ?_)
  · replace H := br1 q1 H
    refine J_iconst (-1 : Int32) dX7_rowPlace_21 kc_m1 ?_
    cases H
    exact J_iretI dX7_rowPlace_22 rfl
  · replace H := br0 q1 H
    refine J_iload_n 1 dX7_rowPlace_4 rfl rfl ?_
    refine J_aload_n 0 dX7_rowPlace_5 rfl rfl ?_
    obtain ⟨g3, H⟩ := gd H
    obtain ⟨t4, e2, H⟩ := bd H
    refine J_cV (as := []) 6 YX7_rowCount 0 dX7_rowPlace_6 moX7_rowCount mvX7_rowCount mlX7_387 g3 rfl rfl (okX7_rowCount (d := d) e2) rfl rfl [.int v1] rfl rfl (st2 := [.int t4, .int v1]) rfl ?_
    refine J_icmp_ge 21 dX7_rowPlace_9 rfl (fun q5 => ?_) (fun q5 => ?_)
    · replace H := br1 q5 H
      refine J_iconst (-1 : Int32) dX7_rowPlace_21 kc_m1 ?_
      cases H
      exact J_iretI dX7_rowPlace_22 rfl
    · replace H := br0 q5 H
      refine J_iload_n 2 dX7_rowPlace_12 rfl rfl ?_
      refine J_if_lt 21 dX7_rowPlace_13 rfl (fun q6 => ?_) (fun q6 => ?_)
      · replace H := br1 q6 H
        refine J_iconst (-1 : Int32) dX7_rowPlace_21 kc_m1 ?_
        cases H
        exact J_iretI dX7_rowPlace_22 rfl
      · replace H := br0 q6 H
        refine J_iload_n 2 dX7_rowPlace_16 rfl rfl ?_
        refine J_iconst (4 : Int32) dX7_rowPlace_17 kc_4 ?_
        refine J_icmp_lt 23 dX7_rowPlace_18 rfl (fun q7 => ?_) (fun q7 => ?_)
        · replace H := br1 q7 H
          refine J_aload_n 0 dX7_rowPlace_23 rfl rfl ?_
          refine J_getI 6 0 dX7_rowPlace_24 g3 flX7_9 rfl ?_
          refine J_aload_n 0 dX7_rowPlace_27 rfl rfl ?_
          obtain ⟨t9, e8, H⟩ := bd H
          refine J_cV (as := []) 6 YX7_rowCount 0 dX7_rowPlace_28 moX7_rowCount mvX7_rowCount mlX7_387 g3 rfl rfl (okX7_rowCount (d := d) e8) rfl rfl [.int (gI h v0 0)] rfl rfl (st2 := [.int t9, .int (gI h v0 0)]) rfl ?_
          refine J_isub dX7_rowPlace_31 ?_
          refine J_iload_n 1 dX7_rowPlace_32 rfl rfl ?_
          refine J_iadd dX7_rowPlace_33 ?_
          refine J_bipush (8 : Int32) dX7_rowPlace_34 kb_8 ?_
          refine J_irem dX7_rowPlace_36 (by decide) ?_
          refine J_iconst (4 : Int32) dX7_rowPlace_37 kc_4 ?_
          refine J_imul dX7_rowPlace_38 ?_
          refine J_iload_n 2 dX7_rowPlace_39 rfl rfl ?_
          refine J_iadd dX7_rowPlace_40 ?_
          cases H
          exact J_iretI dX7_rowPlace_41 rfl
        · replace H := br0 q7 H
          refine J_iconst (-1 : Int32) dX7_rowPlace_21 kc_m1 ?_
          cases H
          exact J_iretI dX7_rowPlace_22 rfl
theorem okX7_rowPlace {d : Nat} {h : Hp} {v0 : Nat} {v1 : Int32} {v2 : Int32} {r : Int32} (H : MX7_rowPlace h v0 v1 v2 = some r) : CT (d + 1) YX7_rowPlace [.ref v0, .int v1, .int v2] h (oI r) h := CT_of (by decide +kernel) (Nat.le_of_ble_eq_true rfl) (eX7_rowPlace H)
noncomputable def MX11_check_56 (h : Hp) (v1 : Int32) (v2 : Int32) : Option Int32 :=
  some (((4 : Int32) * v1) + v2)
set_option maxRecDepth 100000 in
set_option maxHeartbeats 8000000 in
theorem kX11_check_56 {d : Nat} {h : Hp} {v1 : Int32} {v2 : Int32} {r : Int32} (H : MX11_check_56 h v1 v2 = some r) : J (d + 2) YX11_check 56 [Value.null, .int v1, .int v2, Value.null] [] h (oI r) h := by
  unfold MX11_check_56 at H
  refine J_iconst (4 : Int32) dX11_check_56 kc_4 ?_
  refine J_iload_n 1 dX11_check_57 rfl rfl ?_
  refine J_imul dX11_check_58 ?_
  refine J_iload_n 2 dX11_check_59 rfl rfl ?_
  refine J_iadd dX11_check_60 ?_
  cases H
  exact J_iretI dX11_check_61 rfl
noncomputable def BX11_check_15 (h : Hp) (v0 : Nat) (v1 : Int32) (v2 : Int32) : Option ((Int32) ⊕ ((Int32) ⊕ Int32)) :=
  if (4 : Int32) ≤ v2 then
    some (.inr (.inl (v1 + (1 : Int32))))
  else
    gg (β := ((Int32) ⊕ ((Int32) ⊕ Int32))) (kd h v0 = 10) <|
    gg (β := ((Int32) ⊕ ((Int32) ⊕ Int32))) (kd h (gP h v0 5) = 6) <|
    Option.bind (α := Int32) (β := ((Int32) ⊕ ((Int32) ⊕ Int32))) (MX7_rowPlace h (gP h v0 5) v1 v2) fun (t10 : Int32) =>
    if t10 = (-1 : Int32) then
      some (.inl (v2 + (1 : Int32)))
    else
      gg (β := ((Int32) ⊕ ((Int32) ⊕ Int32))) (kd h (gP h (gP h v0 5) 12) = 20) <|
      gg (β := ((Int32) ⊕ ((Int32) ⊕ Int32))) (inB t10 (ln h (gP h (gP h v0 5) 12)) = true) <|
      gg (β := ((Int32) ⊕ ((Int32) ⊕ Int32))) (kd h (gP h (gP h v0 5) 13) = 20) <|
      gg (β := ((Int32) ⊕ ((Int32) ⊕ Int32))) (inB t10 (ln h (gP h (gP h v0 5) 13)) = true) <|
      if (gI h (gP h (gP h v0 5) 12) t10.toNatClampNeg) = (gI h (gP h (gP h v0 5) 13) t10.toNatClampNeg) then
        some (.inl (v2 + (1 : Int32)))
      else
        up1 (up1 (MX11_check_56 h v1 v2))
set_option maxRecDepth 100000 in
set_option maxHeartbeats 8000000 in
theorem bX11_check_15 {d : Nat} {h : Hp} {v0 : Nat} {v1 : Int32} {v2 : Int32} {r : Int32} {x : ((Int32) ⊕ ((Int32) ⊕ Int32))} (H : BX11_check_15 h v0 v1 v2 = some x) (hb0 : ∀ s : Int32, x = .inl s → J (d + 2) YX11_check 15 [.ref v0, .int v1, .int s, Value.null] [] h (oI r) h) (hb1 : ∀ s : Int32, x = .inr (.inl s) → J (d + 2) YX11_check 2 [.ref v0, .int s, Value.null, Value.null] [] h (oI r) h) (hx : ∀ z : Int32, x = .inr (.inr (z)) → z = r) : J (d + 2) YX11_check 15 [.ref v0, .int v1, .int v2, Value.null] [] h (oI r) h := by
  unfold BX11_check_15 at H
  refine J_iload_n 2 dX11_check_15 rfl rfl ?_
  refine J_iconst (4 : Int32) dX11_check_16 kc_4 ?_
  refine J_icmp_ge 68 dX11_check_17 rfl (fun q6 => ?_) (fun q6 => ?_)
  · replace H := br1 q6 H
    refine J_iinc (v1 + (1 : Int32)) dX11_check_68 rfl (congrArg (HAdd.hAdd v1) kc_1) (by decide) (ls' := [.ref v0, .int (v1 + (1 : Int32)), .int v2, Value.null]) rfl ?_
    refine J_goto 2 dX11_check_71 rfl ?_
    cases H
    exact J_dr (hb1 _ rfl) ⟨rfl, ⟨rfl, trivial⟩⟩
  · replace H := br0 q6 H
    refine J_aload_n 0 dX11_check_20 rfl rfl ?_
    obtain ⟨g7, H⟩ := gd H
    refine J_gP 10 5 dX11_check_21 g7 flX11_39 rfl rfl ?_
    refine J_iload_n 1 dX11_check_24 rfl rfl ?_
    refine J_iload_n 2 dX11_check_25 rfl rfl ?_
    obtain ⟨g9, H⟩ := gd H
    obtain ⟨t10, e8, H⟩ := bd H
    refine J_cV (as := [.int v1, .int v2]) 6 YX7_rowPlace 2 dX11_check_26 moX7_rowPlace mvX7_rowPlace mlX11_483 g9 rfl rfl (okX7_rowPlace (d := d) e8) rfl rfl [] rfl rfl (st2 := [.int t10]) rfl ?_
    refine J_istore_n 3 dX11_check_29 rfl (by decide) (ls' := [.ref v0, .int v1, .int v2, .int t10]) rfl ?_
    refine J_iload_n 3 dX11_check_30 rfl rfl ?_
    refine J_iconst (-1 : Int32) dX11_check_31 kc_m1 ?_
    refine J_icmp_eq 62 dX11_check_32 rfl (fun q11 => ?_) (fun q11 => ?_)
    · replace H := br1 q11 H
      refine J_iinc (v2 + (1 : Int32)) dX11_check_62 rfl (congrArg (HAdd.hAdd v2) kc_1) (by decide) (ls' := [.ref v0, .int v1, .int (v2 + (1 : Int32)), .int t10]) rfl ?_
      refine J_goto 15 dX11_check_65 rfl ?_
      cases H
      exact J_dr (hb0 _ rfl) ⟨rfl, ⟨rfl, ⟨rfl, trivial⟩⟩⟩
    · replace H := br0 q11 H
      refine J_aload_n 0 dX11_check_35 rfl rfl ?_
      refine J_gP 10 5 dX11_check_36 g7 flX11_39 rfl rfl ?_
      refine J_gP 6 12 dX11_check_39 g9 flX11_486 rfl rfl ?_
      refine J_iload_n 3 dX11_check_42 rfl rfl ?_
      obtain ⟨g12, H⟩ := gd H
      obtain ⟨g13, H⟩ := gd H
      refine J_iald dX11_check_43 g12 (inB_ok g13) ?_
      refine J_aload_n 0 dX11_check_44 rfl rfl ?_
      refine J_gP 10 5 dX11_check_45 g7 flX11_39 rfl rfl ?_
      refine J_gP 6 13 dX11_check_48 g9 flX11_492 rfl rfl ?_
      refine J_iload_n 3 dX11_check_51 rfl rfl ?_
      obtain ⟨g14, H⟩ := gd H
      obtain ⟨g15, H⟩ := gd H
      refine J_iald dX11_check_52 g14 (inB_ok g15) ?_
      refine J_icmp_eq 62 dX11_check_53 rfl (fun q16 => ?_) (fun q16 => ?_)
      · replace H := br1 q16 H
        refine J_iinc (v2 + (1 : Int32)) dX11_check_62 rfl (congrArg (HAdd.hAdd v2) kc_1) (by decide) (ls' := [.ref v0, .int v1, .int (v2 + (1 : Int32)), .int t10]) rfl ?_
        refine J_goto 15 dX11_check_65 rfl ?_
        cases H
        exact J_dr (hb0 _ rfl) ⟨rfl, ⟨rfl, ⟨rfl, trivial⟩⟩⟩
      · replace H := br0 q16 H
        obtain ⟨y0, H90, rfl⟩ := up1_el H
        replace H := H90
        obtain ⟨y1, H91, rfl⟩ := up1_el H
        replace H := H91
        obtain rfl := hx _ rfl
        exact J_dr (kX11_check_56 H ) ⟨rfl, ⟨rfl, trivial⟩⟩
noncomputable def MX11_check_15 (h : Hp) (v0 : Nat) (v1 : Int32) (v2 : Int32) : Option ((Int32) ⊕ Int32) := it (fun q : Int32 => BX11_check_15 h v0 v1 q) (v2)
set_option maxRecDepth 100000 in
set_option maxHeartbeats 8000000 in
theorem kX11_check_15 {d : Nat} {h : Hp} {v0 : Nat} {v1 : Int32} {v2 : Int32} {r : Int32} {x : ((Int32) ⊕ Int32)} (H : MX11_check_15 h v0 v1 v2 = some x) (hb0 : ∀ s : Int32, x = .inl s → J (d + 2) YX11_check 2 [.ref v0, .int s, Value.null, Value.null] [] h (oI r) h) (hx : ∀ z : Int32, x = .inr (z) → z = r) : J (d + 2) YX11_check 15 [.ref v0, .int v1, .int v2, Value.null] [] h (oI r) h := by
  unfold MX11_check_15 at H
  refine it_J (G := (fun q : Int32 => J (d + 2) YX11_check 15 [.ref v0, .int v1, .int q, Value.null] [] h (oI r) h)) (Q := (fun y : ((Int32) ⊕ Int32) => (∀ s : Int32, y = .inl s → J (d + 2) YX11_check 2 [.ref v0, .int s, Value.null, Value.null] [] h (oI r) h) ∧ (∀ z : Int32, y = .inr (z) → z = r))) (fun q x Hq hm => ?_) H ⟨hb0, hx⟩
  exact bX11_check_15 Hq (fun s hs => by subst hs; exact hm) (fun s hs => by subst hs; exact (hm.1) s rfl) (fun z hz => by subst hz; exact (hm.2) z rfl)
noncomputable def BX11_check_2 (h : Hp) (v0 : Nat) (v1 : Int32) : Option ((Int32) ⊕ Int32) :=
  gg (β := ((Int32) ⊕ Int32)) (kd h v0 = 10) <|
  gg (β := ((Int32) ⊕ Int32)) (kd h (gP h v0 5) = 6) <|
  Option.bind (α := Int32) (β := ((Int32) ⊕ Int32)) (MX7_rowCount h (gP h v0 5)) fun (t4 : Int32) =>
  if t4 ≤ v1 then
    some (.inr ((-1 : Int32)))
  else
    MX11_check_15 h v0 v1 (0 : Int32)
set_option maxRecDepth 100000 in
set_option maxHeartbeats 8000000 in
theorem bX11_check_2 {d : Nat} {h : Hp} {v0 : Nat} {v1 : Int32} {r : Int32} {x : ((Int32) ⊕ Int32)} (H : BX11_check_2 h v0 v1 = some x) (hb0 : ∀ s : Int32, x = .inl s → J (d + 2) YX11_check 2 [.ref v0, .int s, Value.null, Value.null] [] h (oI r) h) (hx : ∀ z : Int32, x = .inr (z) → z = r) : J (d + 2) YX11_check 2 [.ref v0, .int v1, Value.null, Value.null] [] h (oI r) h := by
  unfold BX11_check_2 at H
  refine J_iload_n 1 dX11_check_2 rfl rfl ?_
  refine J_aload_n 0 dX11_check_3 rfl rfl ?_
  obtain ⟨g1, H⟩ := gd H
  refine J_gP 10 5 dX11_check_4 g1 flX11_39 rfl rfl ?_
  obtain ⟨g3, H⟩ := gd H
  obtain ⟨t4, e2, H⟩ := bd H
  refine J_cV (as := []) 6 YX7_rowCount 0 dX11_check_7 moX7_rowCount mvX7_rowCount mlX11_489 g3 rfl rfl (okX7_rowCount (d := d + 1) e2) rfl rfl [.int v1] rfl rfl (st2 := [.int t4, .int v1]) rfl ?_
  refine J_icmp_ge 74 dX11_check_10 rfl (fun q5 => ?_) (fun q5 => ?_)
  · replace H := br1 q5 H
    refine J_iconst (-1 : Int32) dX11_check_74 kc_m1 ?_
    cases H
    cases hx _ rfl
    exact J_iretI dX11_check_75 rfl
  · replace H := br0 q5 H
    refine J_iconst (0 : Int32) dX11_check_13 kc_0 ?_
    refine J_istore_n 2 dX11_check_14 rfl (by decide) (ls' := [.ref v0, .int v1, .int (0 : Int32), Value.null]) rfl ?_
    exact J_dr (kX11_check_15 H hb0 hx) ⟨rfl, ⟨rfl, ⟨rfl, trivial⟩⟩⟩
noncomputable def MX11_check_2 (h : Hp) (v0 : Nat) (v1 : Int32) : Option Int32 := it (fun q : Int32 => BX11_check_2 h v0 q) (v1)
set_option maxRecDepth 100000 in
set_option maxHeartbeats 8000000 in
theorem kX11_check_2 {d : Nat} {h : Hp} {v0 : Nat} {v1 : Int32} {r : Int32} (H : MX11_check_2 h v0 v1 = some r) : J (d + 2) YX11_check 2 [.ref v0, .int v1, Value.null, Value.null] [] h (oI r) h := by
  unfold MX11_check_2 at H
  refine it_J (G := (fun q : Int32 => J (d + 2) YX11_check 2 [.ref v0, .int q, Value.null, Value.null] [] h (oI r) h)) (Q := (fun y : Int32 => y = r)) (fun q x Hq hm => ?_) H rfl
  exact bX11_check_2 Hq (fun s hs => by subst hs; exact hm) (fun z hz => by subst hz; exact hm)
noncomputable def MX11_check (h : Hp) (v0 : Nat) : Option Int32 :=
  MX11_check_2 h v0 (0 : Int32)
set_option maxRecDepth 100000 in
set_option maxHeartbeats 8000000 in
theorem eX11_check {d : Nat} {h : Hp} {v0 : Nat} {r : Int32} (H : MX11_check h v0 = some r) : J (d + 2) YX11_check 0 [.ref v0, Value.null, Value.null, Value.null] [] h (oI r) h := by
  unfold MX11_check at H
  refine J_iconst (0 : Int32) dX11_check_0 kc_0 ?_
  refine J_istore_n 1 dX11_check_1 rfl (by decide) (ls' := [.ref v0, .int (0 : Int32), Value.null, Value.null]) rfl ?_
  exact J_dr (kX11_check_2 H ) ⟨rfl, ⟨rfl, trivial⟩⟩
theorem okX11_check {d : Nat} {h : Hp} {v0 : Nat} {r : Int32} (H : MX11_check h v0 = some r) : CT (d + 2) YX11_check [.ref v0] h (oI r) h := CT_of (by decide +kernel) (Nat.le_of_ble_eq_true rfl) (eX11_check H)
noncomputable def MX11_useTape (h : Hp) (v0 : Nat) : Option (Int32 × Hp) :=
  gg (β := (Int32 × Hp)) (kd h v0 = 10) <|
  lt (α := Hp) (β := Option (Int32 × Hp)) (sI h v0 1 (0 : Int32)) fun (h2 : Hp) =>
  some ((gI h v0 1), h2)
set_option maxRecDepth 100000 in
set_option maxHeartbeats 8000000 in
theorem eX11_useTape {d : Nat} {h : Hp} {v0 : Nat} {r : Int32} {h9 : Hp} (H : MX11_useTape h v0 = some (r, h9)) : J (d) YX11_useTape 0 [.ref v0, Value.null] [] h (oI r) h9 := by
  unfold MX11_useTape at H
  refine J_aload_n 0 dX11_useTape_0 rfl rfl ?_
  obtain ⟨g1, H⟩ := gd H
  refine J_getI 10 1 dX11_useTape_1 g1 flX11_13 rfl ?_
  refine J_istore_n 1 dX11_useTape_4 rfl (by decide) (ls' := [.ref v0, .int (gI h v0 1)]) rfl ?_
  refine J_aload_n 0 dX11_useTape_5 rfl rfl ?_
  refine J_iconst (0 : Int32) dX11_useTape_6 kc_0 ?_
  obtain ⟨h2, e3, H⟩ := lt_el H
  refine J_pI 10 1 dX11_useTape_7 g1 flX11_13 rfl rfl e3 ?_
  have c4 := ekI e3
  have c5 := elI e3
  have c6 := epI e3
  refine J_iload_n 1 dX11_useTape_10 rfl rfl ?_
  cases H
  exact J_iretI dX11_useTape_11 rfl
theorem okX11_useTape {d : Nat} {h : Hp} {v0 : Nat} {r : Int32} {h9 : Hp} (H : MX11_useTape h v0 = some (r, h9)) : CT (d) YX11_useTape [.ref v0] h (oI r) h9 := CT_of (by decide +kernel) (Nat.le_of_ble_eq_true rfl) (eX11_useTape H)
noncomputable def MX1_isLetter (h : Hp) (v0 : Int32) : Option Int32 :=
  if v0 < (97 : Int32) then
    some (0 : Int32)
  else
    if (122 : Int32) < v0 then
      some (0 : Int32)
    else
      some (1 : Int32)
set_option maxRecDepth 100000 in
set_option maxHeartbeats 8000000 in
theorem eX1_isLetter {d : Nat} {h : Hp} {v0 : Int32} {r : Int32} (H : MX1_isLetter h v0 = some r) : J (d) YX1_isLetter 0 [.int v0] [] h (oI r) h := by
  unfold MX1_isLetter at H
  refine J_iload_n 0 dX1_isLetter_0 rfl rfl ?_
  refine J_bipush (97 : Int32) dX1_isLetter_1 kb_97 ?_
  refine J_icmp_lt 16 dX1_isLetter_3 rfl (fun q1 => ?_) (fun q1 => ?_)
  · replace H := br1 q1 H
    refine J_iconst (0 : Int32) dX1_isLetter_16 kc_0 ?_
    cases H
    exact J_rZ dX1_isLetter_17 rfl rfl
  · replace H := br0 q1 H
    refine J_iload_n 0 dX1_isLetter_6 rfl rfl ?_
    refine J_bipush (122 : Int32) dX1_isLetter_7 kb_122 ?_
    refine J_icmp_gt 16 dX1_isLetter_9 rfl (fun q2 => ?_) (fun q2 => ?_)
    · replace H := br1 q2 H
      refine J_iconst (0 : Int32) dX1_isLetter_16 kc_0 ?_
      cases H
      exact J_rZ dX1_isLetter_17 rfl rfl
    · replace H := br0 q2 H
      refine J_iconst (1 : Int32) dX1_isLetter_12 kc_1 ?_
      refine J_goto 17 dX1_isLetter_13 rfl ?_
      cases H
      exact J_rZ dX1_isLetter_17 rfl rfl
theorem okX1_isLetter {d : Nat} {h : Hp} {v0 : Int32} {r : Int32} (H : MX1_isLetter h v0 = some r) : CT (d) YX1_isLetter [.int v0] h (oI r) h := CT_of (by decide +kernel) (Nat.le_of_ble_eq_true rfl) (eX1_isLetter H)
noncomputable def MX1_firstWrong_173 (h : Hp) (v1 : Int32) (v6 : Int32) (v9 : Int32) : Option Int32 :=
  if v9 = 0 then
    if v6 = 0 then
      some v1
    else
      some (-1 : Int32)
  else
    some v1
set_option maxRecDepth 100000 in
set_option maxHeartbeats 8000000 in
theorem kX1_firstWrong_173 {d : Nat} {h : Hp} {v1 : Int32} {v6 : Int32} {v9 : Int32} {r : Int32} (H : MX1_firstWrong_173 h v1 v6 v9 = some r) : J (d + 1) YX1_firstWrong 173 [Value.null, .int v1, Value.null, Value.null, Value.null, Value.null, .int v6, Value.null, Value.null, .int v9, Value.null, Value.null] [] h (oI r) h := by
  unfold MX1_firstWrong_173 at H
  refine J_iload dX1_firstWrong_173 rfl ?_
  refine J_if_ne 183 dX1_firstWrong_175 rfl (fun q2 => ?_) (fun q2 => ?_)
  · replace H := br0 q2 H
    refine J_iload_n 1 dX1_firstWrong_183 rfl rfl ?_
    refine J_goto 188 dX1_firstWrong_184 rfl ?_
    cases H
    exact J_iretI dX1_firstWrong_188 rfl
  · replace H := br1 q2 H
    refine J_iload dX1_firstWrong_178 rfl ?_
    refine J_if_ne 187 dX1_firstWrong_180 rfl (fun q3 => ?_) (fun q3 => ?_)
    · replace H := br0 q3 H
      refine J_iconst (-1 : Int32) dX1_firstWrong_187 kc_m1 ?_
      cases H
      exact J_iretI dX1_firstWrong_188 rfl
    · replace H := br1 q3 H
      refine J_iload_n 1 dX1_firstWrong_183 rfl rfl ?_
      refine J_goto 188 dX1_firstWrong_184 rfl ?_
      cases H
      exact J_iretI dX1_firstWrong_188 rfl
noncomputable def MX1_firstWrong_164 (h : Hp) (v0 : Nat) (v1 : Int32) (v2 : Int32) (v3 : Int32) (v5 : Int32) (v6 : Int32) (v7 : Int32) (v9 : Int32) (v10 : Int32) : Option ((Int32 × Int32 × Int32 × Int32 × Int32 × Int32) ⊕ Int32) :=
  some (.inl (v5, v6, v7, (0 : Int32), v9, (v10 + (1 : Int32))))
set_option maxRecDepth 100000 in
set_option maxHeartbeats 8000000 in
theorem kX1_firstWrong_164 {d : Nat} {h : Hp} {v0 : Nat} {v1 : Int32} {v2 : Int32} {v3 : Int32} {v5 : Int32} {v6 : Int32} {v7 : Int32} {v9 : Int32} {v10 : Int32} {r : Int32} {x : ((Int32 × Int32 × Int32 × Int32 × Int32 × Int32) ⊕ Int32)} (H : MX1_firstWrong_164 h v0 v1 v2 v3 v5 v6 v7 v9 v10 = some x) (hb0 : ∀ s : Int32 × Int32 × Int32 × Int32 × Int32 × Int32, x = .inl s → J (d + 1) YX1_firstWrong 19 [.ref v0, .int v1, .int v2, .int v3, Value.null, .int s.1, .int s.2.1, .int s.2.2.1, .int s.2.2.2.1, .int s.2.2.2.2.1, .int s.2.2.2.2.2, Value.null] [] h (oI r) h) (hx : ∀ z : Int32, x = .inr (z) → z = r) : J (d + 1) YX1_firstWrong 164 [.ref v0, .int v1, .int v2, .int v3, Value.null, .int v5, .int v6, .int v7, Value.null, .int v9, .int v10, Value.null] [] h (oI r) h := by
  unfold MX1_firstWrong_164 at H
  refine J_iconst (0 : Int32) dX1_firstWrong_164 kc_0 ?_
  refine J_istore dX1_firstWrong_165 (by decide) (ls' := [.ref v0, .int v1, .int v2, .int v3, Value.null, .int v5, .int v6, .int v7, .int (0 : Int32), .int v9, .int v10, Value.null]) rfl ?_
  refine J_iinc (v10 + (1 : Int32)) dX1_firstWrong_167 rfl (congrArg (HAdd.hAdd v10) kc_1) (by decide) (ls' := [.ref v0, .int v1, .int v2, .int v3, Value.null, .int v5, .int v6, .int v7, .int (0 : Int32), .int v9, .int (v10 + (1 : Int32)), Value.null]) rfl ?_
  refine J_goto 19 dX1_firstWrong_170 rfl ?_
  cases H
  exact J_dr (hb0 _ rfl) ⟨rfl, ⟨rfl, ⟨rfl, ⟨rfl, ⟨rfl, ⟨rfl, ⟨rfl, ⟨rfl, ⟨rfl, ⟨rfl, trivial⟩⟩⟩⟩⟩⟩⟩⟩⟩⟩
noncomputable def MX1_firstWrong_154 (h : Hp) (v0 : Nat) (v1 : Int32) (v2 : Int32) (v3 : Int32) (v5 : Int32) (v6 : Int32) (v7 : Int32) (v9 : Int32) (v10 : Int32) (v11 : Int32) : Option ((Int32 × Int32 × Int32 × Int32 × Int32 × Int32) ⊕ Int32) :=
  if v11 = (32 : Int32) then
    MX1_firstWrong_164 h v0 v1 v2 v3 v5 v6 v7 v9 v10
  else
    some (.inr (v10))
set_option maxRecDepth 100000 in
set_option maxHeartbeats 8000000 in
theorem kX1_firstWrong_154 {d : Nat} {h : Hp} {v0 : Nat} {v1 : Int32} {v2 : Int32} {v3 : Int32} {v5 : Int32} {v6 : Int32} {v7 : Int32} {v9 : Int32} {v10 : Int32} {v11 : Int32} {r : Int32} {x : ((Int32 × Int32 × Int32 × Int32 × Int32 × Int32) ⊕ Int32)} (H : MX1_firstWrong_154 h v0 v1 v2 v3 v5 v6 v7 v9 v10 v11 = some x) (hb0 : ∀ s : Int32 × Int32 × Int32 × Int32 × Int32 × Int32, x = .inl s → J (d + 1) YX1_firstWrong 19 [.ref v0, .int v1, .int v2, .int v3, Value.null, .int s.1, .int s.2.1, .int s.2.2.1, .int s.2.2.2.1, .int s.2.2.2.2.1, .int s.2.2.2.2.2, Value.null] [] h (oI r) h) (hx : ∀ z : Int32, x = .inr (z) → z = r) : J (d + 1) YX1_firstWrong 154 [.ref v0, .int v1, .int v2, .int v3, Value.null, .int v5, .int v6, .int v7, Value.null, .int v9, .int v10, .int v11] [] h (oI r) h := by
  unfold MX1_firstWrong_154 at H
  refine J_iload dX1_firstWrong_154 rfl ?_
  refine J_bipush (32 : Int32) dX1_firstWrong_156 kb_32 ?_
  refine J_icmp_eq 164 dX1_firstWrong_158 rfl (fun q13 => ?_) (fun q13 => ?_)
  · replace H := br1 q13 H
    exact J_dr (kX1_firstWrong_164 H hb0 hx) ⟨rfl, ⟨rfl, ⟨rfl, ⟨rfl, ⟨rfl, ⟨rfl, ⟨rfl, ⟨rfl, ⟨rfl, trivial⟩⟩⟩⟩⟩⟩⟩⟩⟩
  · replace H := br0 q13 H
    refine J_iload dX1_firstWrong_161 rfl ?_
    cases H
    cases hx _ rfl
    exact J_iretI dX1_firstWrong_163 rfl
noncomputable def MX1_firstWrong_124 (h : Hp) (v0 : Nat) (v1 : Int32) (v2 : Int32) (v3 : Int32) (v5 : Int32) (v6 : Int32) (v7 : Int32) (v9 : Int32) (v10 : Int32) (v11 : Int32) : Option ((Int32 × Int32 × Int32 × Int32 × Int32 × Int32) ⊕ Int32) :=
  if v11 = (47 : Int32) then
    if v6 ≤ 0 then
      MX1_firstWrong_154 h v0 v1 v2 v3 v5 v6 v7 v9 v10 v11
    else
      if v2 ≤ v5 then
        MX1_firstWrong_154 h v0 v1 v2 v3 v5 v6 v7 v9 v10 v11
      else
        MX1_firstWrong_164 h v0 v1 v2 v3 (v5 + (1 : Int32)) (0 : Int32) (0 : Int32) v9 v10
  else
    MX1_firstWrong_154 h v0 v1 v2 v3 v5 v6 v7 v9 v10 v11
set_option maxRecDepth 100000 in
set_option maxHeartbeats 8000000 in
theorem kX1_firstWrong_124 {d : Nat} {h : Hp} {v0 : Nat} {v1 : Int32} {v2 : Int32} {v3 : Int32} {v5 : Int32} {v6 : Int32} {v7 : Int32} {v9 : Int32} {v10 : Int32} {v11 : Int32} {r : Int32} {x : ((Int32 × Int32 × Int32 × Int32 × Int32 × Int32) ⊕ Int32)} (H : MX1_firstWrong_124 h v0 v1 v2 v3 v5 v6 v7 v9 v10 v11 = some x) (hb0 : ∀ s : Int32 × Int32 × Int32 × Int32 × Int32 × Int32, x = .inl s → J (d + 1) YX1_firstWrong 19 [.ref v0, .int v1, .int v2, .int v3, Value.null, .int s.1, .int s.2.1, .int s.2.2.1, .int s.2.2.2.1, .int s.2.2.2.2.1, .int s.2.2.2.2.2, Value.null] [] h (oI r) h) (hx : ∀ z : Int32, x = .inr (z) → z = r) : J (d + 1) YX1_firstWrong 124 [.ref v0, .int v1, .int v2, .int v3, Value.null, .int v5, .int v6, .int v7, Value.null, .int v9, .int v10, .int v11] [] h (oI r) h := by
  unfold MX1_firstWrong_124 at H
  refine J_iload dX1_firstWrong_124 rfl ?_
  refine J_bipush (47 : Int32) dX1_firstWrong_126 kb_47 ?_
  refine J_icmp_ne 154 dX1_firstWrong_128 rfl (fun q12 => ?_) (fun q12 => ?_)
  · replace H := br0 q12 H
    exact J_dr (kX1_firstWrong_154 H hb0 hx) ⟨rfl, ⟨rfl, ⟨rfl, ⟨rfl, ⟨rfl, ⟨rfl, ⟨rfl, ⟨rfl, ⟨rfl, ⟨rfl, trivial⟩⟩⟩⟩⟩⟩⟩⟩⟩⟩
  · replace H := br1 q12 H
    refine J_iload dX1_firstWrong_131 rfl ?_
    refine J_if_le 154 dX1_firstWrong_133 rfl (fun q14 => ?_) (fun q14 => ?_)
    · replace H := br1 q14 H
      exact J_dr (kX1_firstWrong_154 H hb0 hx) ⟨rfl, ⟨rfl, ⟨rfl, ⟨rfl, ⟨rfl, ⟨rfl, ⟨rfl, ⟨rfl, ⟨rfl, ⟨rfl, trivial⟩⟩⟩⟩⟩⟩⟩⟩⟩⟩
    · replace H := br0 q14 H
      refine J_iload dX1_firstWrong_136 rfl ?_
      refine J_iload_n 2 dX1_firstWrong_138 rfl rfl ?_
      refine J_icmp_ge 154 dX1_firstWrong_139 rfl (fun q15 => ?_) (fun q15 => ?_)
      · replace H := br1 q15 H
        exact J_dr (kX1_firstWrong_154 H hb0 hx) ⟨rfl, ⟨rfl, ⟨rfl, ⟨rfl, ⟨rfl, ⟨rfl, ⟨rfl, ⟨rfl, ⟨rfl, ⟨rfl, trivial⟩⟩⟩⟩⟩⟩⟩⟩⟩⟩
      · replace H := br0 q15 H
        refine J_iinc (v5 + (1 : Int32)) dX1_firstWrong_142 rfl (congrArg (HAdd.hAdd v5) kc_1) (by decide) (ls' := [.ref v0, .int v1, .int v2, .int v3, Value.null, .int (v5 + (1 : Int32)), .int v6, .int v7, Value.null, .int v9, .int v10, .int v11]) rfl ?_
        refine J_iconst (0 : Int32) dX1_firstWrong_145 kc_0 ?_
        refine J_istore dX1_firstWrong_146 (by decide) (ls' := [.ref v0, .int v1, .int v2, .int v3, Value.null, .int (v5 + (1 : Int32)), .int (0 : Int32), .int v7, Value.null, .int v9, .int v10, .int v11]) rfl ?_
        refine J_iconst (0 : Int32) dX1_firstWrong_148 kc_0 ?_
        refine J_istore dX1_firstWrong_149 (by decide) (ls' := [.ref v0, .int v1, .int v2, .int v3, Value.null, .int (v5 + (1 : Int32)), .int (0 : Int32), .int (0 : Int32), Value.null, .int v9, .int v10, .int v11]) rfl ?_
        refine J_goto 164 dX1_firstWrong_151 rfl ?_
        exact J_dr (kX1_firstWrong_164 H hb0 hx) ⟨rfl, ⟨rfl, ⟨rfl, ⟨rfl, ⟨rfl, ⟨rfl, ⟨rfl, ⟨rfl, ⟨rfl, trivial⟩⟩⟩⟩⟩⟩⟩⟩⟩
noncomputable def MX1_firstWrong_69 (h : Hp) (v0 : Nat) (v1 : Int32) (v2 : Int32) (v3 : Int32) (v5 : Int32) (v6 : Int32) (v7 : Int32) (v8 : Int32) (v10 : Int32) : Option ((Int32 × Int32 × Int32 × Int32 × Int32 × Int32) ⊕ Int32) :=
  if v3 < v6 then
    some (.inr (v10))
  else
    if (40 : Int32) < v7 then
      some (.inr (v10))
    else
      if (v8 + (1 : Int32)) ≤ (12 : Int32) then
        some (.inl (v5, v6, v7, (v8 + (1 : Int32)), (0 : Int32), (v10 + (1 : Int32))))
      else
        some (.inr (v10))
set_option maxRecDepth 100000 in
set_option maxHeartbeats 8000000 in
theorem kX1_firstWrong_69 {d : Nat} {h : Hp} {v0 : Nat} {v1 : Int32} {v2 : Int32} {v3 : Int32} {v5 : Int32} {v6 : Int32} {v7 : Int32} {v8 : Int32} {v10 : Int32} {r : Int32} {x : ((Int32 × Int32 × Int32 × Int32 × Int32 × Int32) ⊕ Int32)} (H : MX1_firstWrong_69 h v0 v1 v2 v3 v5 v6 v7 v8 v10 = some x) (hb0 : ∀ s : Int32 × Int32 × Int32 × Int32 × Int32 × Int32, x = .inl s → J (d + 1) YX1_firstWrong 19 [.ref v0, .int v1, .int v2, .int v3, Value.null, .int s.1, .int s.2.1, .int s.2.2.1, .int s.2.2.2.1, .int s.2.2.2.2.1, .int s.2.2.2.2.2, Value.null] [] h (oI r) h) (hx : ∀ z : Int32, x = .inr (z) → z = r) : J (d + 1) YX1_firstWrong 69 [.ref v0, .int v1, .int v2, .int v3, Value.null, .int v5, .int v6, .int v7, .int v8, Value.null, .int v10, Value.null] [] h (oI r) h := by
  unfold MX1_firstWrong_69 at H
  refine J_iinc (v8 + (1 : Int32)) dX1_firstWrong_69 rfl (congrArg (HAdd.hAdd v8) kc_1) (by decide) (ls' := [.ref v0, .int v1, .int v2, .int v3, Value.null, .int v5, .int v6, .int v7, .int (v8 + (1 : Int32)), Value.null, .int v10, Value.null]) rfl ?_
  refine J_iconst (0 : Int32) dX1_firstWrong_72 kc_0 ?_
  refine J_istore dX1_firstWrong_73 (by decide) (ls' := [.ref v0, .int v1, .int v2, .int v3, Value.null, .int v5, .int v6, .int v7, .int (v8 + (1 : Int32)), .int (0 : Int32), .int v10, Value.null]) rfl ?_
  refine J_iload dX1_firstWrong_75 rfl ?_
  refine J_iload_n 3 dX1_firstWrong_77 rfl rfl ?_
  refine J_icmp_gt 95 dX1_firstWrong_78 rfl (fun q18 => ?_) (fun q18 => ?_)
  · replace H := br1 q18 H
    refine J_iload dX1_firstWrong_95 rfl ?_
    cases H
    cases hx _ rfl
    exact J_iretI dX1_firstWrong_97 rfl
  · replace H := br0 q18 H
    refine J_iload dX1_firstWrong_81 rfl ?_
    refine J_bipush (40 : Int32) dX1_firstWrong_83 kb_40 ?_
    refine J_icmp_gt 95 dX1_firstWrong_85 rfl (fun q19 => ?_) (fun q19 => ?_)
    · replace H := br1 q19 H
      refine J_iload dX1_firstWrong_95 rfl ?_
      cases H
      cases hx _ rfl
      exact J_iretI dX1_firstWrong_97 rfl
    · replace H := br0 q19 H
      refine J_iload dX1_firstWrong_88 rfl ?_
      refine J_bipush (12 : Int32) dX1_firstWrong_90 kb_12 ?_
      refine J_icmp_le 167 dX1_firstWrong_92 rfl (fun q20 => ?_) (fun q20 => ?_)
      · replace H := br1 q20 H
        refine J_iinc (v10 + (1 : Int32)) dX1_firstWrong_167 rfl (congrArg (HAdd.hAdd v10) kc_1) (by decide) (ls' := [.ref v0, .int v1, .int v2, .int v3, Value.null, .int v5, .int v6, .int v7, .int (v8 + (1 : Int32)), .int (0 : Int32), .int (v10 + (1 : Int32)), Value.null]) rfl ?_
        refine J_goto 19 dX1_firstWrong_170 rfl ?_
        cases H
        exact J_dr (hb0 _ rfl) ⟨rfl, ⟨rfl, ⟨rfl, ⟨rfl, ⟨rfl, ⟨rfl, ⟨rfl, ⟨rfl, ⟨rfl, ⟨rfl, trivial⟩⟩⟩⟩⟩⟩⟩⟩⟩⟩
      · replace H := br0 q20 H
        refine J_iload dX1_firstWrong_95 rfl ?_
        cases H
        cases hx _ rfl
        exact J_iretI dX1_firstWrong_97 rfl
noncomputable def MX1_firstWrong_63 (h : Hp) (v0 : Nat) (v1 : Int32) (v2 : Int32) (v3 : Int32) (v5 : Int32) (v7 : Int32) (v8 : Int32) (v10 : Int32) (s0 : Int32) (s1 : Int32) : Option ((Int32 × Int32 × Int32 × Int32 × Int32 × Int32) ⊕ Int32) :=
  MX1_firstWrong_69 h v0 v1 v2 v3 v5 (s0 + s1) (v7 + (1 : Int32)) v8 v10
set_option maxRecDepth 100000 in
set_option maxHeartbeats 8000000 in
theorem kX1_firstWrong_63 {d : Nat} {h : Hp} {v0 : Nat} {v1 : Int32} {v2 : Int32} {v3 : Int32} {v5 : Int32} {v7 : Int32} {v8 : Int32} {v10 : Int32} {s0 : Int32} {s1 : Int32} {r : Int32} {x : ((Int32 × Int32 × Int32 × Int32 × Int32 × Int32) ⊕ Int32)} (H : MX1_firstWrong_63 h v0 v1 v2 v3 v5 v7 v8 v10 s0 s1 = some x) (hb0 : ∀ s : Int32 × Int32 × Int32 × Int32 × Int32 × Int32, x = .inl s → J (d + 1) YX1_firstWrong 19 [.ref v0, .int v1, .int v2, .int v3, Value.null, .int s.1, .int s.2.1, .int s.2.2.1, .int s.2.2.2.1, .int s.2.2.2.2.1, .int s.2.2.2.2.2, Value.null] [] h (oI r) h) (hx : ∀ z : Int32, x = .inr (z) → z = r) : J (d + 1) YX1_firstWrong 63 [.ref v0, .int v1, .int v2, .int v3, Value.null, .int v5, Value.null, .int v7, .int v8, Value.null, .int v10, Value.null] [.int s1, .int s0] h (oI r) h := by
  unfold MX1_firstWrong_63 at H
  refine J_iadd dX1_firstWrong_63 ?_
  refine J_istore dX1_firstWrong_64 (by decide) (ls' := [.ref v0, .int v1, .int v2, .int v3, Value.null, .int v5, .int (s0 + s1), .int v7, .int v8, Value.null, .int v10, Value.null]) rfl ?_
  refine J_iinc (v7 + (1 : Int32)) dX1_firstWrong_66 rfl (congrArg (HAdd.hAdd v7) kc_1) (by decide) (ls' := [.ref v0, .int v1, .int v2, .int v3, Value.null, .int v5, .int (s0 + s1), .int (v7 + (1 : Int32)), .int v8, Value.null, .int v10, Value.null]) rfl ?_
  exact J_dr (kX1_firstWrong_69 H hb0 hx) ⟨rfl, ⟨rfl, ⟨rfl, ⟨rfl, ⟨rfl, ⟨rfl, ⟨rfl, ⟨rfl, ⟨rfl, trivial⟩⟩⟩⟩⟩⟩⟩⟩⟩
noncomputable def BX1_firstWrong_19 (h : Hp) (v0 : Nat) (v1 : Int32) (v2 : Int32) (v3 : Int32) (v5 : Int32) (v6 : Int32) (v7 : Int32) (v8 : Int32) (v9 : Int32) (v10 : Int32) : Option ((Int32 × Int32 × Int32 × Int32 × Int32 × Int32) ⊕ Int32) :=
  if v1 ≤ v10 then
    up1 (MX1_firstWrong_173 h v1 v6 v9)
  else
    gg (β := ((Int32 × Int32 × Int32 × Int32 × Int32 × Int32) ⊕ Int32)) (kd h v0 = 21) <|
    if (nI (ln h v0)) ≤ v10 then
      up1 (MX1_firstWrong_173 h v1 v6 v9)
    else
      gg (β := ((Int32 × Int32 × Int32 × Int32 × Int32 × Int32) ⊕ Int32)) (inB v10 (ln h v0) = true) <|
      Option.bind (α := Int32) (β := ((Int32 × Int32 × Int32 × Int32 × Int32 × Int32) ⊕ Int32)) (MX1_isLetter h (gI h v0 v10.toNatClampNeg)) fun (t8 : Int32) =>
      if t8 = 0 then
        if v9 = 0 then
          if (gI h v0 v10.toNatClampNeg) = (45 : Int32) then
            if v8 ≤ 0 then
              MX1_firstWrong_124 h v0 v1 v2 v3 v5 v6 v7 v9 v10 (gI h v0 v10.toNatClampNeg)
            else
              MX1_firstWrong_164 h v0 v1 v2 v3 v5 v6 v7 (1 : Int32) v10
          else
            MX1_firstWrong_124 h v0 v1 v2 v3 v5 v6 v7 v9 v10 (gI h v0 v10.toNatClampNeg)
        else
          some (.inr (v10))
      else
        if v8 = 0 then
          if v9 = 0 then
            MX1_firstWrong_63 h v0 v1 v2 v3 v5 v7 v8 v10 v6 (1 : Int32)
          else
            MX1_firstWrong_63 h v0 v1 v2 v3 v5 v7 v8 v10 v6 (0 : Int32)
        else
          MX1_firstWrong_69 h v0 v1 v2 v3 v5 v6 v7 v8 v10
set_option maxRecDepth 100000 in
set_option maxHeartbeats 8000000 in
theorem bX1_firstWrong_19 {d : Nat} {h : Hp} {v0 : Nat} {v1 : Int32} {v2 : Int32} {v3 : Int32} {v5 : Int32} {v6 : Int32} {v7 : Int32} {v8 : Int32} {v9 : Int32} {v10 : Int32} {r : Int32} {x : ((Int32 × Int32 × Int32 × Int32 × Int32 × Int32) ⊕ Int32)} (H : BX1_firstWrong_19 h v0 v1 v2 v3 v5 v6 v7 v8 v9 v10 = some x) (hb0 : ∀ s : Int32 × Int32 × Int32 × Int32 × Int32 × Int32, x = .inl s → J (d + 1) YX1_firstWrong 19 [.ref v0, .int v1, .int v2, .int v3, Value.null, .int s.1, .int s.2.1, .int s.2.2.1, .int s.2.2.2.1, .int s.2.2.2.2.1, .int s.2.2.2.2.2, Value.null] [] h (oI r) h) (hx : ∀ z : Int32, x = .inr (z) → z = r) : J (d + 1) YX1_firstWrong 19 [.ref v0, .int v1, .int v2, .int v3, Value.null, .int v5, .int v6, .int v7, .int v8, .int v9, .int v10, Value.null] [] h (oI r) h := by
  unfold BX1_firstWrong_19 at H
  refine J_iload dX1_firstWrong_19 rfl ?_
  refine J_iload_n 1 dX1_firstWrong_21 rfl rfl ?_
  refine J_icmp_ge 173 dX1_firstWrong_22 rfl (fun q1 => ?_) (fun q1 => ?_)
  · replace H := br1 q1 H
    obtain ⟨y0, H90, rfl⟩ := up1_el H
    replace H := H90
    obtain rfl := hx _ rfl
    exact J_dr (kX1_firstWrong_173 H ) ⟨rfl, ⟨rfl, ⟨rfl, trivial⟩⟩⟩
  · replace H := br0 q1 H
    refine J_iload dX1_firstWrong_25 rfl ?_
    refine J_aload_n 0 dX1_firstWrong_27 rfl rfl ?_
    obtain ⟨g4, H⟩ := gd H
    refine J_len 21 dX1_firstWrong_28 g4 rfl ?_
    refine J_icmp_ge 173 dX1_firstWrong_29 rfl (fun q5 => ?_) (fun q5 => ?_)
    · replace H := br1 q5 H
      obtain ⟨y0, H90, rfl⟩ := up1_el H
      replace H := H90
      obtain rfl := hx _ rfl
      exact J_dr (kX1_firstWrong_173 H ) ⟨rfl, ⟨rfl, ⟨rfl, trivial⟩⟩⟩
    · replace H := br0 q5 H
      refine J_aload_n 0 dX1_firstWrong_32 rfl rfl ?_
      refine J_iload dX1_firstWrong_33 rfl ?_
      obtain ⟨g6, H⟩ := gd H
      refine J_bald dX1_firstWrong_35 g4 (inB_ok g6) ?_
      refine J_istore dX1_firstWrong_36 (by decide) (ls' := [.ref v0, .int v1, .int v2, .int v3, Value.null, .int v5, .int v6, .int v7, .int v8, .int v9, .int v10, .int (gI h v0 v10.toNatClampNeg)]) rfl ?_
      refine J_iload dX1_firstWrong_38 rfl ?_
      obtain ⟨t8, e7, H⟩ := bd H
      refine J_cS (as := [.int (gI h v0 v10.toNatClampNeg)]) YX1_isLetter 1 dX1_firstWrong_40 moX1_isLetter msX1_isLetter mlX1_9 (okX1_isLetter (d := d) e7) rfl rfl [] rfl rfl (st2 := [.int t8]) rfl ?_
      refine J_if_eq 98 dX1_firstWrong_43 rfl (fun q9 => ?_) (fun q9 => ?_)
      · replace H := br1 q9 H
        refine J_iload dX1_firstWrong_98 rfl ?_
        refine J_if_eq 106 dX1_firstWrong_100 rfl (fun q10 => ?_) (fun q10 => ?_)
        · replace H := br1 q10 H
          refine J_iload dX1_firstWrong_106 rfl ?_
          refine J_bipush (45 : Int32) dX1_firstWrong_108 kb_45 ?_
          refine J_icmp_ne 124 dX1_firstWrong_110 rfl (fun q11 => ?_) (fun q11 => ?_)
          · replace H := br0 q11 H
            exact J_dr (kX1_firstWrong_124 H hb0 hx) ⟨rfl, ⟨rfl, ⟨rfl, ⟨rfl, ⟨rfl, ⟨rfl, ⟨rfl, ⟨rfl, ⟨rfl, ⟨rfl, trivial⟩⟩⟩⟩⟩⟩⟩⟩⟩⟩
          · replace H := br1 q11 H
            refine J_iload dX1_firstWrong_113 rfl ?_
            refine J_if_le 124 dX1_firstWrong_115 rfl (fun q16 => ?_) (fun q16 => ?_)
            · replace H := br1 q16 H
              exact J_dr (kX1_firstWrong_124 H hb0 hx) ⟨rfl, ⟨rfl, ⟨rfl, ⟨rfl, ⟨rfl, ⟨rfl, ⟨rfl, ⟨rfl, ⟨rfl, ⟨rfl, trivial⟩⟩⟩⟩⟩⟩⟩⟩⟩⟩
            · replace H := br0 q16 H
              refine J_iconst (1 : Int32) dX1_firstWrong_118 kc_1 ?_
              refine J_istore dX1_firstWrong_119 (by decide) (ls' := [.ref v0, .int v1, .int v2, .int v3, Value.null, .int v5, .int v6, .int v7, .int v8, .int (1 : Int32), .int v10, .int (gI h v0 v10.toNatClampNeg)]) rfl ?_
              refine J_goto 164 dX1_firstWrong_121 rfl ?_
              exact J_dr (kX1_firstWrong_164 H hb0 hx) ⟨rfl, ⟨rfl, ⟨rfl, ⟨rfl, ⟨rfl, ⟨rfl, ⟨rfl, ⟨rfl, ⟨rfl, trivial⟩⟩⟩⟩⟩⟩⟩⟩⟩
        · replace H := br0 q10 H
          refine J_iload dX1_firstWrong_103 rfl ?_
          cases H
          cases hx _ rfl
          exact J_iretI dX1_firstWrong_105 rfl
      · replace H := br0 q9 H
        refine J_iload dX1_firstWrong_46 rfl ?_
        refine J_if_ne 69 dX1_firstWrong_48 rfl (fun q17 => ?_) (fun q17 => ?_)
        · replace H := br0 q17 H
          exact J_dr (kX1_firstWrong_69 H hb0 hx) ⟨rfl, ⟨rfl, ⟨rfl, ⟨rfl, ⟨rfl, ⟨rfl, ⟨rfl, ⟨rfl, ⟨rfl, trivial⟩⟩⟩⟩⟩⟩⟩⟩⟩
        · replace H := br1 q17 H
          refine J_iload dX1_firstWrong_51 rfl ?_
          refine J_iload dX1_firstWrong_53 rfl ?_
          refine J_if_eq 62 dX1_firstWrong_55 rfl (fun q21 => ?_) (fun q21 => ?_)
          · replace H := br1 q21 H
            refine J_iconst (1 : Int32) dX1_firstWrong_62 kc_1 ?_
            exact J_dr (kX1_firstWrong_63 H hb0 hx) ⟨rfl, ⟨rfl, ⟨rfl, ⟨rfl, ⟨rfl, ⟨rfl, ⟨rfl, ⟨rfl, trivial⟩⟩⟩⟩⟩⟩⟩⟩
          · replace H := br0 q21 H
            refine J_iconst (0 : Int32) dX1_firstWrong_58 kc_0 ?_
            refine J_goto 63 dX1_firstWrong_59 rfl ?_
            exact J_dr (kX1_firstWrong_63 H hb0 hx) ⟨rfl, ⟨rfl, ⟨rfl, ⟨rfl, ⟨rfl, ⟨rfl, ⟨rfl, ⟨rfl, trivial⟩⟩⟩⟩⟩⟩⟩⟩
noncomputable def MX1_firstWrong_19 (h : Hp) (v0 : Nat) (v1 : Int32) (v2 : Int32) (v3 : Int32) (v5 : Int32) (v6 : Int32) (v7 : Int32) (v8 : Int32) (v9 : Int32) (v10 : Int32) : Option Int32 := it (fun q : Int32 × Int32 × Int32 × Int32 × Int32 × Int32 => BX1_firstWrong_19 h v0 v1 v2 v3 q.1 q.2.1 q.2.2.1 q.2.2.2.1 q.2.2.2.2.1 q.2.2.2.2.2) (v5, v6, v7, v8, v9, v10)
set_option maxRecDepth 100000 in
set_option maxHeartbeats 8000000 in
theorem kX1_firstWrong_19 {d : Nat} {h : Hp} {v0 : Nat} {v1 : Int32} {v2 : Int32} {v3 : Int32} {v5 : Int32} {v6 : Int32} {v7 : Int32} {v8 : Int32} {v9 : Int32} {v10 : Int32} {r : Int32} (H : MX1_firstWrong_19 h v0 v1 v2 v3 v5 v6 v7 v8 v9 v10 = some r) : J (d + 1) YX1_firstWrong 19 [.ref v0, .int v1, .int v2, .int v3, Value.null, .int v5, .int v6, .int v7, .int v8, .int v9, .int v10, Value.null] [] h (oI r) h := by
  unfold MX1_firstWrong_19 at H
  refine it_J (G := (fun q : Int32 × Int32 × Int32 × Int32 × Int32 × Int32 => J (d + 1) YX1_firstWrong 19 [.ref v0, .int v1, .int v2, .int v3, Value.null, .int q.1, .int q.2.1, .int q.2.2.1, .int q.2.2.2.1, .int q.2.2.2.2.1, .int q.2.2.2.2.2, Value.null] [] h (oI r) h)) (Q := (fun y : Int32 => y = r)) (fun q x Hq hm => ?_) H rfl
  exact bX1_firstWrong_19 Hq (fun s hs => by subst hs; exact hm) (fun z hz => by subst hz; exact hm)
noncomputable def MX1_firstWrong (h : Hp) (v0 : Nat) (v1 : Int32) (v2 : Int32) (v3 : Int32) (v4 : Int32) : Option Int32 :=
  MX1_firstWrong_19 h v0 v1 v2 v3 (1 : Int32) (0 : Int32) v4 (0 : Int32) (0 : Int32) (0 : Int32)
set_option maxRecDepth 100000 in
set_option maxHeartbeats 8000000 in
theorem eX1_firstWrong {d : Nat} {h : Hp} {v0 : Nat} {v1 : Int32} {v2 : Int32} {v3 : Int32} {v4 : Int32} {r : Int32} (H : MX1_firstWrong h v0 v1 v2 v3 v4 = some r) : J (d + 1) YX1_firstWrong 0 [.ref v0, .int v1, .int v2, .int v3, .int v4, Value.null, Value.null, Value.null, Value.null, Value.null, Value.null, Value.null] [] h (oI r) h := by
  unfold MX1_firstWrong at H
  refine J_iconst (1 : Int32) dX1_firstWrong_0 kc_1 ?_
  refine J_istore dX1_firstWrong_1 (by decide) (ls' := [.ref v0, .int v1, .int v2, .int v3, .int v4, .int (1 : Int32), Value.null, Value.null, Value.null, Value.null, Value.null, Value.null]) rfl ?_
  refine J_iconst (0 : Int32) dX1_firstWrong_3 kc_0 ?_
  refine J_istore dX1_firstWrong_4 (by decide) (ls' := [.ref v0, .int v1, .int v2, .int v3, .int v4, .int (1 : Int32), .int (0 : Int32), Value.null, Value.null, Value.null, Value.null, Value.null]) rfl ?_
  refine J_iload dX1_firstWrong_6 rfl ?_
  refine J_istore dX1_firstWrong_8 (by decide) (ls' := [.ref v0, .int v1, .int v2, .int v3, .int v4, .int (1 : Int32), .int (0 : Int32), .int v4, Value.null, Value.null, Value.null, Value.null]) rfl ?_
  refine J_iconst (0 : Int32) dX1_firstWrong_10 kc_0 ?_
  refine J_istore dX1_firstWrong_11 (by decide) (ls' := [.ref v0, .int v1, .int v2, .int v3, .int v4, .int (1 : Int32), .int (0 : Int32), .int v4, .int (0 : Int32), Value.null, Value.null, Value.null]) rfl ?_
  refine J_iconst (0 : Int32) dX1_firstWrong_13 kc_0 ?_
  refine J_istore dX1_firstWrong_14 (by decide) (ls' := [.ref v0, .int v1, .int v2, .int v3, .int v4, .int (1 : Int32), .int (0 : Int32), .int v4, .int (0 : Int32), .int (0 : Int32), Value.null, Value.null]) rfl ?_
  refine J_iconst (0 : Int32) dX1_firstWrong_16 kc_0 ?_
  refine J_istore dX1_firstWrong_17 (by decide) (ls' := [.ref v0, .int v1, .int v2, .int v3, .int v4, .int (1 : Int32), .int (0 : Int32), .int v4, .int (0 : Int32), .int (0 : Int32), .int (0 : Int32), Value.null]) rfl ?_
  exact J_dr (kX1_firstWrong_19 H ) ⟨rfl, ⟨rfl, ⟨rfl, ⟨rfl, ⟨rfl, ⟨rfl, ⟨rfl, ⟨rfl, ⟨rfl, ⟨rfl, trivial⟩⟩⟩⟩⟩⟩⟩⟩⟩⟩
theorem okX1_firstWrong {d : Nat} {h : Hp} {v0 : Nat} {v1 : Int32} {v2 : Int32} {v3 : Int32} {v4 : Int32} {r : Int32} (H : MX1_firstWrong h v0 v1 v2 v3 v4 = some r) : CT (d + 1) YX1_firstWrong [.ref v0, .int v1, .int v2, .int v3, .int v4] h (oI r) h := CT_of (by decide +kernel) (Nat.le_of_ble_eq_true rfl) (eX1_firstWrong H)
noncomputable def MX5_firstBit_42 (h : Hp) (v0 : Nat) : Option Int32 :=
  gg (β := Int32) (kd h v0 = 4) <|
  some (gI h v0 5)
set_option maxRecDepth 100000 in
set_option maxHeartbeats 8000000 in
theorem kX5_firstBit_42 {d : Nat} {h : Hp} {v0 : Nat} {r : Int32} (H : MX5_firstBit_42 h v0 = some r) : J (d) YX5_firstBit 42 [.ref v0, Value.null, Value.null, Value.null] [] h (oI r) h := by
  unfold MX5_firstBit_42 at H
  refine J_aload_n 0 dX5_firstBit_42 rfl rfl ?_
  obtain ⟨g3, H⟩ := gd H
  refine J_getI 4 5 dX5_firstBit_43 g3 flX5_29 rfl ?_
  cases H
  exact J_iretI dX5_firstBit_46 rfl
noncomputable def MX5_firstBit_34 (h : Hp) (v0 : Nat) (v1 : Int32) (v3 : Int32) (s0 : Int32) (s1 : Int32) : Option ((Int32 × Int32) ⊕ Int32) :=
  some (.inl ((s0 + s1), (v3 + (1 : Int32))))
set_option maxRecDepth 100000 in
set_option maxHeartbeats 8000000 in
theorem kX5_firstBit_34 {d : Nat} {h : Hp} {v0 : Nat} {v1 : Int32} {v3 : Int32} {s0 : Int32} {s1 : Int32} {r : Int32} {x : ((Int32 × Int32) ⊕ Int32)} (H : MX5_firstBit_34 h v0 v1 v3 s0 s1 = some x) (hb0 : ∀ s : Int32 × Int32, x = .inl s → J (d) YX5_firstBit 4 [.ref v0, .int v1, .int s.1, .int s.2] [] h (oI r) h) (hx : ∀ z : Int32, x = .inr (z) → z = r) : J (d) YX5_firstBit 34 [.ref v0, .int v1, Value.null, .int v3] [.int s1, .int s0] h (oI r) h := by
  unfold MX5_firstBit_34 at H
  refine J_iadd dX5_firstBit_34 ?_
  refine J_istore_n 2 dX5_firstBit_35 rfl (by decide) (ls' := [.ref v0, .int v1, .int (s0 + s1), .int v3]) rfl ?_
  refine J_iinc (v3 + (1 : Int32)) dX5_firstBit_36 rfl (congrArg (HAdd.hAdd v3) kc_1) (by decide) (ls' := [.ref v0, .int v1, .int (s0 + s1), .int (v3 + (1 : Int32))]) rfl ?_
  refine J_goto 4 dX5_firstBit_39 rfl ?_
  cases H
  exact J_dr (hb0 _ rfl) ⟨rfl, ⟨rfl, ⟨rfl, ⟨rfl, trivial⟩⟩⟩⟩
noncomputable def BX5_firstBit_4 (h : Hp) (v0 : Nat) (v1 : Int32) (v2 : Int32) (v3 : Int32) : Option ((Int32 × Int32) ⊕ Int32) :=
  gg (β := ((Int32 × Int32) ⊕ Int32)) (kd h v0 = 4) <|
  if (gI h v0 5) ≤ v3 then
    up1 (MX5_firstBit_42 h v0)
  else
    if v2 = v1 then
      some (.inr (v3))
    else
      gg (β := ((Int32 × Int32) ⊕ Int32)) (kd h (gP h v0 2) = 22) <|
      gg (β := ((Int32 × Int32) ⊕ Int32)) (inB v3 (ln h (gP h v0 2)) = true) <|
      if (gI h (gP h v0 2) v3.toNatClampNeg) = 0 then
        MX5_firstBit_34 h v0 v1 v3 v2 (0 : Int32)
      else
        MX5_firstBit_34 h v0 v1 v3 v2 (1 : Int32)
set_option maxRecDepth 100000 in
set_option maxHeartbeats 8000000 in
theorem bX5_firstBit_4 {d : Nat} {h : Hp} {v0 : Nat} {v1 : Int32} {v2 : Int32} {v3 : Int32} {r : Int32} {x : ((Int32 × Int32) ⊕ Int32)} (H : BX5_firstBit_4 h v0 v1 v2 v3 = some x) (hb0 : ∀ s : Int32 × Int32, x = .inl s → J (d) YX5_firstBit 4 [.ref v0, .int v1, .int s.1, .int s.2] [] h (oI r) h) (hx : ∀ z : Int32, x = .inr (z) → z = r) : J (d) YX5_firstBit 4 [.ref v0, .int v1, .int v2, .int v3] [] h (oI r) h := by
  unfold BX5_firstBit_4 at H
  refine J_iload_n 3 dX5_firstBit_4 rfl rfl ?_
  refine J_aload_n 0 dX5_firstBit_5 rfl rfl ?_
  obtain ⟨g1, H⟩ := gd H
  refine J_getI 4 5 dX5_firstBit_6 g1 flX5_29 rfl ?_
  refine J_icmp_ge 42 dX5_firstBit_9 rfl (fun q2 => ?_) (fun q2 => ?_)
  · replace H := br1 q2 H
    obtain ⟨y0, H90, rfl⟩ := up1_el H
    replace H := H90
    obtain rfl := hx _ rfl
    exact J_dr (kX5_firstBit_42 H ) ⟨rfl, trivial⟩
  · replace H := br0 q2 H
    refine J_iload_n 2 dX5_firstBit_12 rfl rfl ?_
    refine J_iload_n 1 dX5_firstBit_13 rfl rfl ?_
    refine J_icmp_ne 19 dX5_firstBit_14 rfl (fun q4 => ?_) (fun q4 => ?_)
    · replace H := br0 q4 H
      refine J_iload_n 2 dX5_firstBit_19 rfl rfl ?_
      refine J_aload_n 0 dX5_firstBit_20 rfl rfl ?_
      refine J_gP 4 2 dX5_firstBit_21 g1 flX5_19 rfl rfl ?_
      refine J_iload_n 3 dX5_firstBit_24 rfl rfl ?_
      obtain ⟨g5, H⟩ := gd H
      obtain ⟨g6, H⟩ := gd H
      refine J_zald dX5_firstBit_25 g5 (inB_ok g6) ?_
      refine J_if_eq 33 dX5_firstBit_26 rfl (fun q7 => ?_) (fun q7 => ?_)
      · replace H := br1 q7 H
        refine J_iconst (0 : Int32) dX5_firstBit_33 kc_0 ?_
        exact J_dr (kX5_firstBit_34 H hb0 hx) ⟨rfl, ⟨rfl, ⟨rfl, trivial⟩⟩⟩
      · replace H := br0 q7 H
        refine J_iconst (1 : Int32) dX5_firstBit_29 kc_1 ?_
        refine J_goto 34 dX5_firstBit_30 rfl ?_
        exact J_dr (kX5_firstBit_34 H hb0 hx) ⟨rfl, ⟨rfl, ⟨rfl, trivial⟩⟩⟩
    · replace H := br1 q4 H
      refine J_iload_n 3 dX5_firstBit_17 rfl rfl ?_
      cases H
      cases hx _ rfl
      exact J_iretI dX5_firstBit_18 rfl
noncomputable def MX5_firstBit_4 (h : Hp) (v0 : Nat) (v1 : Int32) (v2 : Int32) (v3 : Int32) : Option Int32 := it (fun q : Int32 × Int32 => BX5_firstBit_4 h v0 v1 q.1 q.2) (v2, v3)
set_option maxRecDepth 100000 in
set_option maxHeartbeats 8000000 in
theorem kX5_firstBit_4 {d : Nat} {h : Hp} {v0 : Nat} {v1 : Int32} {v2 : Int32} {v3 : Int32} {r : Int32} (H : MX5_firstBit_4 h v0 v1 v2 v3 = some r) : J (d) YX5_firstBit 4 [.ref v0, .int v1, .int v2, .int v3] [] h (oI r) h := by
  unfold MX5_firstBit_4 at H
  refine it_J (G := (fun q : Int32 × Int32 => J (d) YX5_firstBit 4 [.ref v0, .int v1, .int q.1, .int q.2] [] h (oI r) h)) (Q := (fun y : Int32 => y = r)) (fun q x Hq hm => ?_) H rfl
  exact bX5_firstBit_4 Hq (fun s hs => by subst hs; exact hm) (fun z hz => by subst hz; exact hm)
noncomputable def MX5_firstBit (h : Hp) (v0 : Nat) (v1 : Int32) : Option Int32 :=
  MX5_firstBit_4 h v0 v1 (0 : Int32) (0 : Int32)
set_option maxRecDepth 100000 in
set_option maxHeartbeats 8000000 in
theorem eX5_firstBit {d : Nat} {h : Hp} {v0 : Nat} {v1 : Int32} {r : Int32} (H : MX5_firstBit h v0 v1 = some r) : J (d) YX5_firstBit 0 [.ref v0, .int v1, Value.null, Value.null] [] h (oI r) h := by
  unfold MX5_firstBit at H
  refine J_iconst (0 : Int32) dX5_firstBit_0 kc_0 ?_
  refine J_istore_n 2 dX5_firstBit_1 rfl (by decide) (ls' := [.ref v0, .int v1, .int (0 : Int32), Value.null]) rfl ?_
  refine J_iconst (0 : Int32) dX5_firstBit_2 kc_0 ?_
  refine J_istore_n 3 dX5_firstBit_3 rfl (by decide) (ls' := [.ref v0, .int v1, .int (0 : Int32), .int (0 : Int32)]) rfl ?_
  exact J_dr (kX5_firstBit_4 H ) ⟨rfl, ⟨rfl, ⟨rfl, ⟨rfl, trivial⟩⟩⟩⟩
theorem okX5_firstBit {d : Nat} {h : Hp} {v0 : Nat} {v1 : Int32} {r : Int32} (H : MX5_firstBit h v0 v1 = some r) : CT (d) YX5_firstBit [.ref v0, .int v1] h (oI r) h := CT_of (by decide +kernel) (Nat.le_of_ble_eq_true rfl) (eX5_firstBit H)
noncomputable def MX5_bitsOfWord (h : Hp) (v0 : Nat) (v1 : Int32) : Option Int32 :=
  gg (β := Int32) (kd h v0 = 4) <|
  Option.bind (α := Int32) (β := Int32) (MX5_firstBit h v0 (v1 + (1 : Int32))) fun (t3 : Int32) =>
  Option.bind (α := Int32) (β := Int32) (MX5_firstBit h v0 v1) fun (t5 : Int32) =>
  some (t3 - t5)
set_option maxRecDepth 100000 in
set_option maxHeartbeats 8000000 in
theorem eX5_bitsOfWord {d : Nat} {h : Hp} {v0 : Nat} {v1 : Int32} {r : Int32} (H : MX5_bitsOfWord h v0 v1 = some r) : J (d + 1) YX5_bitsOfWord 0 [.ref v0, .int v1] [] h (oI r) h := by
  unfold MX5_bitsOfWord at H
  refine J_aload_n 0 dX5_bitsOfWord_0 rfl rfl ?_
  refine J_iload_n 1 dX5_bitsOfWord_1 rfl rfl ?_
  refine J_iconst (1 : Int32) dX5_bitsOfWord_2 kc_1 ?_
  refine J_iadd dX5_bitsOfWord_3 ?_
  obtain ⟨g2, H⟩ := gd H
  obtain ⟨t3, e1, H⟩ := bd H
  refine J_cV (as := [.int (v1 + (1 : Int32))]) 4 YX5_firstBit 1 dX5_bitsOfWord_4 moX5_firstBit mvX5_firstBit mlX5_83 g2 rfl rfl (okX5_firstBit (d := d) e1) rfl rfl [] rfl rfl (st2 := [.int t3]) rfl ?_
  refine J_aload_n 0 dX5_bitsOfWord_7 rfl rfl ?_
  refine J_iload_n 1 dX5_bitsOfWord_8 rfl rfl ?_
  obtain ⟨t5, e4, H⟩ := bd H
  refine J_cV (as := [.int v1]) 4 YX5_firstBit 1 dX5_bitsOfWord_9 moX5_firstBit mvX5_firstBit mlX5_83 g2 rfl rfl (okX5_firstBit (d := d) e4) rfl rfl [.int t3] rfl rfl (st2 := [.int t5, .int t3]) rfl ?_
  refine J_isub dX5_bitsOfWord_12 ?_
  cases H
  exact J_iretI dX5_bitsOfWord_13 rfl
theorem okX5_bitsOfWord {d : Nat} {h : Hp} {v0 : Nat} {v1 : Int32} {r : Int32} (H : MX5_bitsOfWord h v0 v1 = some r) : CT (d + 1) YX5_bitsOfWord [.ref v0, .int v1] h (oI r) h := CT_of (by decide +kernel) (Nat.le_of_ble_eq_true rfl) (eX5_bitsOfWord H)
noncomputable def MX5_addBit_63 (h : Hp) (s0 : Nat) (s1 : Int32) (s2 : Int32) : Option Hp :=
  gg (β := Hp) (kd h s0 = 4) <|
  lt (α := Hp) (β := Option Hp) (sI h s0 6 (s1 + s2)) fun (h26 : Hp) =>
  some h26
set_option maxRecDepth 100000 in
set_option maxHeartbeats 8000000 in
theorem kX5_addBit_63 {d : Nat} {h : Hp} {s0 : Nat} {s1 : Int32} {s2 : Int32} {h9 : Hp} (H : MX5_addBit_63 h s0 s1 s2 = some h9) : J (d) YX5_addBit 63 [Value.null, Value.null, Value.null] [.int s2, .int s1, .ref s0] h oV h9 := by
  unfold MX5_addBit_63 at H
  refine J_iadd dX5_addBit_63 ?_
  obtain ⟨g25, H⟩ := gd H
  obtain ⟨h26, e27, H⟩ := lt_el H
  refine J_pI 4 6 dX5_addBit_64 g25 flX5_33 rfl rfl e27 ?_
  have c28 := ekI e27
  have c29 := elI e27
  have c30 := epI e27
  cases H
  exact J_ret dX5_addBit_67 rfl
noncomputable def MX5_addBit (h : Hp) (v0 : Nat) (v1 : Int32) (v2 : Int32) : Option Hp :=
  gg (β := Hp) (kd h v0 = 4) <|
  if (40 : Int32) ≤ (gI h v0 5) then
    some h
  else
    gg (β := Hp) (kd h (gP h v0 0) = 21) <|
    if v1 ≤ (nI (ln h (gP h v0 0))) then
      gg (β := Hp) (kd h (gP h v0 2) = 22) <|
      gg (β := Hp) (inB (gI h v0 5) (ln h (gP h v0 2)) = true) <|
      lt (α := Hp) (β := Option Hp) (sI h (gP h v0 2) (gI h v0 5).toNatClampNeg (vp_nar .boolean v2)) fun (h7 : Hp) =>
      lt (α := Hp) (β := Option Hp) (sI h7 v0 5 ((gI h7 v0 5) + (1 : Int32))) fun (h12 : Hp) =>
      gg (β := Hp) (kd h (gP h v0 1) = 20) <|
      gg (β := Hp) (inB (gI h12 v0 5) (ln h (gP h v0 1)) = true) <|
      lt (α := Hp) (β := Option Hp) (sI h12 (gP h v0 1) (gI h12 v0 5).toNatClampNeg v1) fun (h19 : Hp) =>
      if v2 = 0 then
        MX5_addBit_63 h19 v0 (gI h19 v0 6) (0 : Int32)
      else
        MX5_addBit_63 h19 v0 (gI h19 v0 6) (1 : Int32)
    else
      some h
set_option maxRecDepth 100000 in
set_option maxHeartbeats 8000000 in
theorem eX5_addBit {d : Nat} {h : Hp} {v0 : Nat} {v1 : Int32} {v2 : Int32} {h9 : Hp} (H : MX5_addBit h v0 v1 v2 = some h9) : J (d) YX5_addBit 0 [.ref v0, .int v1, .int v2] [] h oV h9 := by
  unfold MX5_addBit at H
  refine J_aload_n 0 dX5_addBit_0 rfl rfl ?_
  obtain ⟨g1, H⟩ := gd H
  refine J_getI 4 5 dX5_addBit_1 g1 flX5_29 rfl ?_
  refine J_bipush (40 : Int32) dX5_addBit_4 kb_40 ?_
  refine J_icmp_ge 18 dX5_addBit_6 rfl (fun q2 => ?_) (fun q2 => ?_)
  · replace H := br1 q2 H
    cases H
    exact J_ret dX5_addBit_18 rfl
  · replace H := br0 q2 H
    refine J_iload_n 1 dX5_addBit_9 rfl rfl ?_
    refine J_aload_n 0 dX5_addBit_10 rfl rfl ?_
    refine J_gP 4 0 dX5_addBit_11 g1 flX5_9 rfl rfl ?_
    obtain ⟨g3, H⟩ := gd H
    refine J_len 21 dX5_addBit_14 g3 rfl ?_
    refine J_icmp_le 19 dX5_addBit_15 rfl (fun q4 => ?_) (fun q4 => ?_)
    · replace H := br1 q4 H
      refine J_aload_n 0 dX5_addBit_19 rfl rfl ?_
      refine J_gP 4 2 dX5_addBit_20 g1 flX5_19 rfl rfl ?_
      refine J_aload_n 0 dX5_addBit_23 rfl rfl ?_
      refine J_getI 4 5 dX5_addBit_24 g1 flX5_29 rfl ?_
      refine J_iload_n 2 dX5_addBit_27 rfl rfl ?_
      obtain ⟨g5, H⟩ := gd H
      obtain ⟨g6, H⟩ := gd H
      obtain ⟨h7, e8, H⟩ := lt_el H
      refine J_sZ dX5_addBit_28 g5 (inB_ok g6) e8 ?_
      have c9 := ekI e8
      have c10 := elI e8
      have c11 := epI e8
      refine J_aload_n 0 dX5_addBit_29 rfl rfl ?_
      refine J_dup dX5_addBit_30 rfl ?_
      refine J_getI 4 5 dX5_addBit_31 (kq c9 g1) flX5_29 rfl ?_
      refine J_iconst (1 : Int32) dX5_addBit_34 kc_1 ?_
      refine J_iadd dX5_addBit_35 ?_
      obtain ⟨h12, e13, H⟩ := lt_el H
      refine J_pI 4 5 dX5_addBit_36 (kq c9 g1) flX5_29 rfl rfl e13 ?_
      have c14 := (ekI e13).trans c9
      have c15 := (elI e13).trans c10
      have c16 := (epI e13).trans c11
      refine J_aload_n 0 dX5_addBit_39 rfl rfl ?_
      refine J_gP 4 1 dX5_addBit_40 (kq c14 g1) flX5_15 rfl (congrFun (congrFun c16 v0) 1) ?_
      refine J_aload_n 0 dX5_addBit_43 rfl rfl ?_
      refine J_getI 4 5 dX5_addBit_44 (kq c14 g1) flX5_29 rfl ?_
      refine J_iload_n 1 dX5_addBit_47 rfl rfl ?_
      obtain ⟨g17, H⟩ := gd H
      obtain ⟨g18, H⟩ := gd H
      obtain ⟨h19, e20, H⟩ := lt_el H
      refine J_sI dX5_addBit_48 (kq c14 g17) (lq c15 g18) e20 ?_
      have c21 := (ekI e20).trans c14
      have c22 := (elI e20).trans c15
      have c23 := (epI e20).trans c16
      refine J_aload_n 0 dX5_addBit_49 rfl rfl ?_
      refine J_dup dX5_addBit_50 rfl ?_
      refine J_getI 4 6 dX5_addBit_51 (kq c21 g1) flX5_33 rfl ?_
      refine J_iload_n 2 dX5_addBit_54 rfl rfl ?_
      refine J_if_eq 62 dX5_addBit_55 rfl (fun q24 => ?_) (fun q24 => ?_)
      · replace H := br1 q24 H
        refine J_iconst (0 : Int32) dX5_addBit_62 kc_0 ?_
        exact J_dr (kX5_addBit_63 H ) trivial
      · replace H := br0 q24 H
        refine J_iconst (1 : Int32) dX5_addBit_58 kc_1 ?_
        refine J_goto 63 dX5_addBit_59 rfl ?_
        exact J_dr (kX5_addBit_63 H ) trivial
    · replace H := br0 q4 H
      cases H
      exact J_ret dX5_addBit_18 rfl
theorem okX5_addBit {d : Nat} {h : Hp} {v0 : Nat} {v1 : Int32} {v2 : Int32} {h9 : Hp} (H : MX5_addBit h v0 v1 v2 = some h9) : CT (d) YX5_addBit [.ref v0, .int v1, .int v2] h oV h9 := CT_of (by decide +kernel) (Nat.le_of_ble_eq_true rfl) (eX5_addBit H)
noncomputable def MX5_addBits_102 (h : Hp) (v0 : Nat) (v1 : Nat) (v3 : Int32) (v4 : Int32) (v5 : Int32) (v6 : Int32) : Option ((Int32 × Hp) ⊕ Hp) :=
  gg (β := ((Int32 × Hp) ⊕ Hp)) (kd h v1 = 4) <|
  gg (β := ((Int32 × Hp) ⊕ Hp)) (kd h (gP h v1 2) = 22) <|
  gg (β := ((Int32 × Hp) ⊕ Hp)) (inB v4 (ln h (gP h v1 2)) = true) <|
  gg (β := ((Int32 × Hp) ⊕ Hp)) (kd h v0 = 4) <|
  Option.bind (α := Hp) (β := ((Int32 × Hp) ⊕ Hp)) (MX5_addBit h v0 (v5 + v6) (gI h (gP h v1 2) v4.toNatClampNeg)) fun (h18 : Hp) =>
  some (.inl ((v4 + (1 : Int32)), h18))
set_option maxRecDepth 100000 in
set_option maxHeartbeats 8000000 in
theorem kX5_addBits_102 {d : Nat} {h : Hp} {v0 : Nat} {v1 : Nat} {v3 : Int32} {v4 : Int32} {v5 : Int32} {v6 : Int32} {h9 : Hp} {x : ((Int32 × Hp) ⊕ Hp)} (H : MX5_addBits_102 h v0 v1 v3 v4 v5 v6 = some x) (hb0 : ∀ s : Int32 × Hp, x = .inl s → J (d + 1) YX5_addBits 3 [.ref v0, .ref v1, Value.null, .int v3, .int s.1, Value.null, Value.null, Value.null] [] s.2 oV h9) (hx : ∀ z : Hp, x = .inr (z) → z = h9) : J (d + 1) YX5_addBits 102 [.ref v0, .ref v1, Value.null, .int v3, .int v4, .int v5, .int v6, Value.null] [] h oV h9 := by
  unfold MX5_addBits_102 at H
  refine J_aload_n 0 dX5_addBits_102 rfl rfl ?_
  refine J_iload dX5_addBits_103 rfl ?_
  refine J_iload dX5_addBits_105 rfl ?_
  refine J_iadd dX5_addBits_107 ?_
  refine J_aload_n 1 dX5_addBits_108 rfl rfl ?_
  obtain ⟨g13, H⟩ := gd H
  refine J_gP 4 2 dX5_addBits_109 g13 flX5_19 rfl rfl ?_
  refine J_iload dX5_addBits_112 rfl ?_
  obtain ⟨g14, H⟩ := gd H
  obtain ⟨g15, H⟩ := gd H
  refine J_zald dX5_addBits_114 g14 (inB_ok g15) ?_
  obtain ⟨g17, H⟩ := gd H
  obtain ⟨h18, e16, H⟩ := bd H
  refine J_cV (as := [.int (v5 + v6), .int (gI h (gP h v1 2) v4.toNatClampNeg)]) 4 YX5_addBit 2 dX5_addBits_115 moX5_addBit mvX5_addBit mlX5_75 g17 rfl rfl (okX5_addBit (d := d) e16) rfl rfl [] rfl rfl (st2 := []) rfl ?_
  refine J_iinc (v4 + (1 : Int32)) dX5_addBits_118 rfl (congrArg (HAdd.hAdd v4) kc_1) (by decide) (ls' := [.ref v0, .ref v1, Value.null, .int v3, .int (v4 + (1 : Int32)), .int v5, .int v6, Value.null]) rfl ?_
  refine J_goto 3 dX5_addBits_121 rfl ?_
  cases H
  exact J_dr (hb0 _ rfl) ⟨rfl, ⟨rfl, ⟨rfl, ⟨rfl, trivial⟩⟩⟩⟩
noncomputable def BX5_addBits_51 (h : Hp) (v0 : Nat) (v1 : Nat) (v3 : Int32) (v4 : Int32) (v5 : Int32) (v6 : Int32) (v7 : Int32) : Option ((Int32 × Hp) ⊕ ((Int32 × Hp) ⊕ Hp)) :=
  if v6 ≤ v7 then
    up1 (MX5_addBits_102 h v0 v1 v3 v4 v5 v6)
  else
    gg (β := ((Int32 × Hp) ⊕ ((Int32 × Hp) ⊕ Hp))) (kd h v0 = 4) <|
    gg (β := ((Int32 × Hp) ⊕ ((Int32 × Hp) ⊕ Hp))) (kd h (gP h v0 0) = 21) <|
    if (nI (ln h (gP h v0 0))) ≤ (v5 + v7) then
      up1 (MX5_addBits_102 h v0 v1 v3 v4 v5 v6)
    else
      gg (β := ((Int32 × Hp) ⊕ ((Int32 × Hp) ⊕ Hp))) (kd h v1 = 4) <|
      gg (β := ((Int32 × Hp) ⊕ ((Int32 × Hp) ⊕ Hp))) (kd h (gP h v1 1) = 20) <|
      gg (β := ((Int32 × Hp) ⊕ ((Int32 × Hp) ⊕ Hp))) (inB v4 (ln h (gP h v1 1)) = true) <|
      gg (β := ((Int32 × Hp) ⊕ ((Int32 × Hp) ⊕ Hp))) (kd h (gP h v1 0) = 21) <|
      gg (β := ((Int32 × Hp) ⊕ ((Int32 × Hp) ⊕ Hp))) (inB ((gI h (gP h v1 1) v4.toNatClampNeg) + v7) (ln h (gP h v1 0)) = true) <|
      gg (β := ((Int32 × Hp) ⊕ ((Int32 × Hp) ⊕ Hp))) (inB (v5 + v7) (ln h (gP h v0 0)) = true) <|
      lt (α := Hp) (β := Option ((Int32 × Hp) ⊕ ((Int32 × Hp) ⊕ Hp))) (sI h (gP h v0 0) (v5 + v7).toNatClampNeg (vp_nar .byte (gI h (gP h v1 0) ((gI h (gP h v1 1) v4.toNatClampNeg) + v7).toNatClampNeg))) fun (h28 : Hp) =>
      some (.inl ((v7 + (1 : Int32)), h28))
set_option maxRecDepth 100000 in
set_option maxHeartbeats 8000000 in
theorem bX5_addBits_51 {d : Nat} {h : Hp} {v0 : Nat} {v1 : Nat} {v3 : Int32} {v4 : Int32} {v5 : Int32} {v6 : Int32} {v7 : Int32} {h9 : Hp} {x : ((Int32 × Hp) ⊕ ((Int32 × Hp) ⊕ Hp))} (H : BX5_addBits_51 h v0 v1 v3 v4 v5 v6 v7 = some x) (hb0 : ∀ s : Int32 × Hp, x = .inl s → J (d + 1) YX5_addBits 51 [.ref v0, .ref v1, Value.null, .int v3, .int v4, .int v5, .int v6, .int s.1] [] s.2 oV h9) (hb1 : ∀ s : Int32 × Hp, x = .inr (.inl s) → J (d + 1) YX5_addBits 3 [.ref v0, .ref v1, Value.null, .int v3, .int s.1, Value.null, Value.null, Value.null] [] s.2 oV h9) (hx : ∀ z : Hp, x = .inr (.inr (z)) → z = h9) : J (d + 1) YX5_addBits 51 [.ref v0, .ref v1, Value.null, .int v3, .int v4, .int v5, .int v6, .int v7] [] h oV h9 := by
  unfold BX5_addBits_51 at H
  refine J_iload dX5_addBits_51 rfl ?_
  refine J_iload dX5_addBits_53 rfl ?_
  refine J_icmp_ge 102 dX5_addBits_55 rfl (fun q12 => ?_) (fun q12 => ?_)
  · replace H := br1 q12 H
    obtain ⟨y0, H90, rfl⟩ := up1_el H
    replace H := H90
    exact J_dr (kX5_addBits_102 H (fun s hs => hb1 s (congrArg Sum.inr hs)) (fun s hs => hx s (congrArg Sum.inr hs))) ⟨rfl, ⟨rfl, ⟨rfl, ⟨rfl, ⟨rfl, ⟨rfl, trivial⟩⟩⟩⟩⟩⟩
  · replace H := br0 q12 H
    refine J_iload dX5_addBits_58 rfl ?_
    refine J_iload dX5_addBits_60 rfl ?_
    refine J_iadd dX5_addBits_62 ?_
    refine J_aload_n 0 dX5_addBits_63 rfl rfl ?_
    obtain ⟨g19, H⟩ := gd H
    refine J_gP 4 0 dX5_addBits_64 g19 flX5_9 rfl rfl ?_
    obtain ⟨g20, H⟩ := gd H
    refine J_len 21 dX5_addBits_67 g20 rfl ?_
    refine J_icmp_ge 102 dX5_addBits_68 rfl (fun q21 => ?_) (fun q21 => ?_)
    · replace H := br1 q21 H
      obtain ⟨y0, H90, rfl⟩ := up1_el H
      replace H := H90
      exact J_dr (kX5_addBits_102 H (fun s hs => hb1 s (congrArg Sum.inr hs)) (fun s hs => hx s (congrArg Sum.inr hs))) ⟨rfl, ⟨rfl, ⟨rfl, ⟨rfl, ⟨rfl, ⟨rfl, trivial⟩⟩⟩⟩⟩⟩
    · replace H := br0 q21 H
      refine J_aload_n 0 dX5_addBits_71 rfl rfl ?_
      refine J_gP 4 0 dX5_addBits_72 g19 flX5_9 rfl rfl ?_
      refine J_iload dX5_addBits_75 rfl ?_
      refine J_iload dX5_addBits_77 rfl ?_
      refine J_iadd dX5_addBits_79 ?_
      refine J_aload_n 1 dX5_addBits_80 rfl rfl ?_
      obtain ⟨g22, H⟩ := gd H
      refine J_gP 4 0 dX5_addBits_81 g22 flX5_9 rfl rfl ?_
      refine J_aload_n 1 dX5_addBits_84 rfl rfl ?_
      refine J_gP 4 1 dX5_addBits_85 g22 flX5_15 rfl rfl ?_
      refine J_iload dX5_addBits_88 rfl ?_
      obtain ⟨g23, H⟩ := gd H
      obtain ⟨g24, H⟩ := gd H
      refine J_iald dX5_addBits_90 g23 (inB_ok g24) ?_
      refine J_iload dX5_addBits_91 rfl ?_
      refine J_iadd dX5_addBits_93 ?_
      obtain ⟨g25, H⟩ := gd H
      obtain ⟨g26, H⟩ := gd H
      refine J_bald dX5_addBits_94 g25 (inB_ok g26) ?_
      obtain ⟨g27, H⟩ := gd H
      obtain ⟨h28, e29, H⟩ := lt_el H
      refine J_sB dX5_addBits_95 g20 (inB_ok g27) e29 ?_
      have c30 := ekI e29
      have c31 := elI e29
      have c32 := epI e29
      refine J_iinc (v7 + (1 : Int32)) dX5_addBits_96 rfl (congrArg (HAdd.hAdd v7) kc_1) (by decide) (ls' := [.ref v0, .ref v1, Value.null, .int v3, .int v4, .int v5, .int v6, .int (v7 + (1 : Int32))]) rfl ?_
      refine J_goto 51 dX5_addBits_99 rfl ?_
      cases H
      exact J_dr (hb0 _ rfl) ⟨rfl, ⟨rfl, ⟨rfl, ⟨rfl, ⟨rfl, ⟨rfl, ⟨rfl, trivial⟩⟩⟩⟩⟩⟩⟩
noncomputable def MX5_addBits_51 (h : Hp) (v0 : Nat) (v1 : Nat) (v3 : Int32) (v4 : Int32) (v5 : Int32) (v6 : Int32) (v7 : Int32) : Option ((Int32 × Hp) ⊕ Hp) := it (fun q : Int32 × Hp => BX5_addBits_51 q.2 v0 v1 v3 v4 v5 v6 q.1) (v7, h)
set_option maxRecDepth 100000 in
set_option maxHeartbeats 8000000 in
theorem kX5_addBits_51 {d : Nat} {h : Hp} {v0 : Nat} {v1 : Nat} {v3 : Int32} {v4 : Int32} {v5 : Int32} {v6 : Int32} {v7 : Int32} {h9 : Hp} {x : ((Int32 × Hp) ⊕ Hp)} (H : MX5_addBits_51 h v0 v1 v3 v4 v5 v6 v7 = some x) (hb0 : ∀ s : Int32 × Hp, x = .inl s → J (d + 1) YX5_addBits 3 [.ref v0, .ref v1, Value.null, .int v3, .int s.1, Value.null, Value.null, Value.null] [] s.2 oV h9) (hx : ∀ z : Hp, x = .inr (z) → z = h9) : J (d + 1) YX5_addBits 51 [.ref v0, .ref v1, Value.null, .int v3, .int v4, .int v5, .int v6, .int v7] [] h oV h9 := by
  unfold MX5_addBits_51 at H
  refine it_J (G := (fun q : Int32 × Hp => J (d + 1) YX5_addBits 51 [.ref v0, .ref v1, Value.null, .int v3, .int v4, .int v5, .int v6, .int q.1] [] q.2 oV h9)) (Q := (fun y : ((Int32 × Hp) ⊕ Hp) => (∀ s : Int32 × Hp, y = .inl s → J (d + 1) YX5_addBits 3 [.ref v0, .ref v1, Value.null, .int v3, .int s.1, Value.null, Value.null, Value.null] [] s.2 oV h9) ∧ (∀ z : Hp, y = .inr (z) → z = h9))) (fun q x Hq hm => ?_) H ⟨hb0, hx⟩
  exact bX5_addBits_51 Hq (fun s hs => by subst hs; exact hm) (fun s hs => by subst hs; exact (hm.1) s rfl) (fun z hz => by subst hz; exact (hm.2) z rfl)
noncomputable def BX5_addBits_3 (h : Hp) (v0 : Nat) (v1 : Nat) (v3 : Int32) (v4 : Int32) : Option ((Int32 × Hp) ⊕ Hp) :=
  if v3 ≤ v4 then
    some (.inr (h))
  else
    gg (β := ((Int32 × Hp) ⊕ Hp)) (kd h v1 = 4) <|
    if (gI h v1 5) ≤ v4 then
      some (.inr (h))
    else
      gg (β := ((Int32 × Hp) ⊕ Hp)) (kd h v0 = 4) <|
      gg (β := ((Int32 × Hp) ⊕ Hp)) (kd h (gP h v0 1) = 20) <|
      gg (β := ((Int32 × Hp) ⊕ Hp)) (inB (gI h v0 5) (ln h (gP h v0 1)) = true) <|
      gg (β := ((Int32 × Hp) ⊕ Hp)) (kd h (gP h v1 1) = 20) <|
      gg (β := ((Int32 × Hp) ⊕ Hp)) (inB (v4 + (1 : Int32)) (ln h (gP h v1 1)) = true) <|
      gg (β := ((Int32 × Hp) ⊕ Hp)) (inB v4 (ln h (gP h v1 1)) = true) <|
      lt (α := Int32) (β := Option ((Int32 × Hp) ⊕ Hp)) ((gI h (gP h v1 1) (v4 + (1 : Int32)).toNatClampNeg) - (gI h (gP h v1 1) v4.toNatClampNeg)) fun (w10 : Int32) =>
      MX5_addBits_51 h v0 v1 v3 v4 (gI h (gP h v0 1) (gI h v0 5).toNatClampNeg) w10 (0 : Int32)
set_option maxRecDepth 100000 in
set_option maxHeartbeats 8000000 in
theorem bX5_addBits_3 {d : Nat} {h : Hp} {v0 : Nat} {v1 : Nat} {v3 : Int32} {v4 : Int32} {h9 : Hp} {x : ((Int32 × Hp) ⊕ Hp)} (H : BX5_addBits_3 h v0 v1 v3 v4 = some x) (hb0 : ∀ s : Int32 × Hp, x = .inl s → J (d + 1) YX5_addBits 3 [.ref v0, .ref v1, Value.null, .int v3, .int s.1, Value.null, Value.null, Value.null] [] s.2 oV h9) (hx : ∀ z : Hp, x = .inr (z) → z = h9) : J (d + 1) YX5_addBits 3 [.ref v0, .ref v1, Value.null, .int v3, .int v4, Value.null, Value.null, Value.null] [] h oV h9 := by
  unfold BX5_addBits_3 at H
  refine J_iload dX5_addBits_3 rfl ?_
  refine J_iload_n 3 dX5_addBits_5 rfl rfl ?_
  refine J_icmp_ge 124 dX5_addBits_6 rfl (fun q1 => ?_) (fun q1 => ?_)
  · replace H := br1 q1 H
    cases H
    cases hx _ rfl
    exact J_ret dX5_addBits_124 rfl
  · replace H := br0 q1 H
    refine J_iload dX5_addBits_9 rfl ?_
    refine J_aload_n 1 dX5_addBits_11 rfl rfl ?_
    obtain ⟨g2, H⟩ := gd H
    refine J_getI 4 5 dX5_addBits_12 g2 flX5_29 rfl ?_
    refine J_icmp_ge 124 dX5_addBits_15 rfl (fun q3 => ?_) (fun q3 => ?_)
    · replace H := br1 q3 H
      cases H
      cases hx _ rfl
      exact J_ret dX5_addBits_124 rfl
    · replace H := br0 q3 H
      refine J_aload_n 0 dX5_addBits_18 rfl rfl ?_
      obtain ⟨g4, H⟩ := gd H
      refine J_gP 4 1 dX5_addBits_19 g4 flX5_15 rfl rfl ?_
      refine J_aload_n 0 dX5_addBits_22 rfl rfl ?_
      refine J_getI 4 5 dX5_addBits_23 g4 flX5_29 rfl ?_
      obtain ⟨g5, H⟩ := gd H
      obtain ⟨g6, H⟩ := gd H
      refine J_iald dX5_addBits_26 g5 (inB_ok g6) ?_
      refine J_istore dX5_addBits_27 (by decide) (ls' := [.ref v0, .ref v1, Value.null, .int v3, .int v4, .int (gI h (gP h v0 1) (gI h v0 5).toNatClampNeg), Value.null, Value.null]) rfl ?_
      refine J_aload_n 1 dX5_addBits_29 rfl rfl ?_
      refine J_gP 4 1 dX5_addBits_30 g2 flX5_15 rfl rfl ?_
      refine J_iload dX5_addBits_33 rfl ?_
      refine J_iconst (1 : Int32) dX5_addBits_35 kc_1 ?_
      refine J_iadd dX5_addBits_36 ?_
      obtain ⟨g7, H⟩ := gd H
      obtain ⟨g8, H⟩ := gd H
      refine J_iald dX5_addBits_37 g7 (inB_ok g8) ?_
      refine J_aload_n 1 dX5_addBits_38 rfl rfl ?_
      refine J_gP 4 1 dX5_addBits_39 g2 flX5_15 rfl rfl ?_
      refine J_iload dX5_addBits_42 rfl ?_
      obtain ⟨g9, H⟩ := gd H
      refine J_iald dX5_addBits_44 g7 (inB_ok g9) ?_
      refine J_isub dX5_addBits_45 ?_
      obtain ⟨w10, e11, H⟩ := lt_el H
      refine J_nmI e11 ?_
      refine J_istore dX5_addBits_46 (by decide) (ls' := [.ref v0, .ref v1, Value.null, .int v3, .int v4, .int (gI h (gP h v0 1) (gI h v0 5).toNatClampNeg), .int w10, Value.null]) rfl ?_
      refine J_iconst (0 : Int32) dX5_addBits_48 kc_0 ?_
      refine J_istore dX5_addBits_49 (by decide) (ls' := [.ref v0, .ref v1, Value.null, .int v3, .int v4, .int (gI h (gP h v0 1) (gI h v0 5).toNatClampNeg), .int w10, .int (0 : Int32)]) rfl ?_
      exact J_dr (kX5_addBits_51 H hb0 hx) ⟨rfl, ⟨rfl, ⟨rfl, ⟨rfl, ⟨rfl, ⟨rfl, ⟨rfl, trivial⟩⟩⟩⟩⟩⟩⟩
noncomputable def MX5_addBits_3 (h : Hp) (v0 : Nat) (v1 : Nat) (v3 : Int32) (v4 : Int32) : Option Hp := it (fun q : Int32 × Hp => BX5_addBits_3 q.2 v0 v1 v3 q.1) (v4, h)
set_option maxRecDepth 100000 in
set_option maxHeartbeats 8000000 in
theorem kX5_addBits_3 {d : Nat} {h : Hp} {v0 : Nat} {v1 : Nat} {v3 : Int32} {v4 : Int32} {h9 : Hp} (H : MX5_addBits_3 h v0 v1 v3 v4 = some h9) : J (d + 1) YX5_addBits 3 [.ref v0, .ref v1, Value.null, .int v3, .int v4, Value.null, Value.null, Value.null] [] h oV h9 := by
  unfold MX5_addBits_3 at H
  refine it_J (G := (fun q : Int32 × Hp => J (d + 1) YX5_addBits 3 [.ref v0, .ref v1, Value.null, .int v3, .int q.1, Value.null, Value.null, Value.null] [] q.2 oV h9)) (Q := (fun y : Hp => y = h9)) (fun q x Hq hm => ?_) H rfl
  exact bX5_addBits_3 Hq (fun s hs => by subst hs; exact hm) (fun z hz => by subst hz; exact hm)
noncomputable def MX5_addBits (h : Hp) (v0 : Nat) (v1 : Nat) (v2 : Int32) (v3 : Int32) : Option Hp :=
  MX5_addBits_3 h v0 v1 v3 v2
set_option maxRecDepth 100000 in
set_option maxHeartbeats 8000000 in
theorem eX5_addBits {d : Nat} {h : Hp} {v0 : Nat} {v1 : Nat} {v2 : Int32} {v3 : Int32} {h9 : Hp} (H : MX5_addBits h v0 v1 v2 v3 = some h9) : J (d + 1) YX5_addBits 0 [.ref v0, .ref v1, .int v2, .int v3, Value.null, Value.null, Value.null, Value.null] [] h oV h9 := by
  unfold MX5_addBits at H
  refine J_iload_n 2 dX5_addBits_0 rfl rfl ?_
  refine J_istore dX5_addBits_1 (by decide) (ls' := [.ref v0, .ref v1, .int v2, .int v3, .int v2, Value.null, Value.null, Value.null]) rfl ?_
  exact J_dr (kX5_addBits_3 H ) ⟨rfl, ⟨rfl, ⟨rfl, ⟨rfl, trivial⟩⟩⟩⟩
theorem okX5_addBits {d : Nat} {h : Hp} {v0 : Nat} {v1 : Nat} {v2 : Int32} {v3 : Int32} {h9 : Hp} (H : MX5_addBits h v0 v1 v2 v3 = some h9) : CT (d + 1) YX5_addBits [.ref v0, .ref v1, .int v2, .int v3] h oV h9 := CT_of (by decide +kernel) (Nat.le_of_ble_eq_true rfl) (eX5_addBits H)
