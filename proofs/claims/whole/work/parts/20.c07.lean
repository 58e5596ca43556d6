noncomputable def MX6_leastLate_98 (h : Hp) (v0 : Nat) (v2 : Int32) : Option (Int32 × Hp) :=
  gg (β := (Int32 × Hp)) (kd h v0 = 5) <|
  gg (β := (Int32 × Hp)) (kd h (gP h v0 4) = 20) <|
  gg (β := (Int32 × Hp)) (inB (v2 - (1 : Int32)) (ln h (gP h v0 4)) = true) <|
  if (gI h (gP h v0 4) (v2 - (1 : Int32)).toNatClampNeg) < (1000000000 : Int32) then
    some ((gI h (gP h v0 4) (v2 - (1 : Int32)).toNatClampNeg), h)
  else
    some ((-1 : Int32), h)
set_option maxRecDepth 100000 in
set_option maxHeartbeats 8000000 in
theorem kX6_leastLate_98 {d : Nat} {h : Hp} {v0 : Nat} {v2 : Int32} {r : Int32} {h9 : Hp} (H : MX6_leastLate_98 h v0 v2 = some (r, h9)) : J (d + 5) YX6_leastLate 98 [.ref v0, Value.null, .int v2, Value.null, Value.null] [] h (oI r) h9 := by
  unfold MX6_leastLate_98 at H
  refine J_aload_n 0 dX6_leastLate_98 rfl rfl ?_
  obtain ⟨g8, H⟩ := gd H
  refine J_gP 5 4 dX6_leastLate_99 g8 flX6_25 rfl rfl ?_
  refine J_iload_n 2 dX6_leastLate_102 rfl rfl ?_
  refine J_iconst (1 : Int32) dX6_leastLate_103 kc_1 ?_
  refine J_isub dX6_leastLate_104 ?_
  obtain ⟨g9, H⟩ := gd H
  obtain ⟨g10, H⟩ := gd H
  refine J_iald dX6_leastLate_105 g9 (inB_ok g10) ?_
  refine J_ldc (1000000000 : Int32) coX6_32 dX6_leastLate_106 ?_
  refine J_icmp_lt 115 dX6_leastLate_108 rfl (fun q11 => ?_) (fun q11 => ?_)
  · replace H := br1 q11 H
    refine J_aload_n 0 dX6_leastLate_115 rfl rfl ?_
    refine J_gP 5 4 dX6_leastLate_116 g8 flX6_25 rfl rfl ?_
    refine J_iload_n 2 dX6_leastLate_119 rfl rfl ?_
    refine J_iconst (1 : Int32) dX6_leastLate_120 kc_1 ?_
    refine J_isub dX6_leastLate_121 ?_
    refine J_iald dX6_leastLate_122 g9 (inB_ok g10) ?_
    cases H
    exact J_iretI dX6_leastLate_123 rfl
  · replace H := br0 q11 H
    refine J_iconst (-1 : Int32) dX6_leastLate_111 kc_m1 ?_
    refine J_goto 123 dX6_leastLate_112 rfl ?_
    cases H
    exact J_iretI dX6_leastLate_123 rfl
noncomputable def BX6_leastLate_43 (h : Hp) (v0 : Nat) (v1 : Nat) (v2 : Int32) (v3 : Int32) : Option ((Int32 × Hp) ⊕ (Int32 × Hp)) :=
  gg (β := ((Int32 × Hp) ⊕ (Int32 × Hp))) (kd h v1 = 6) <|
  if (gI h v1 9) ≤ v3 then
    up1 (MX6_leastLate_98 h v0 v2)
  else
    Option.bind (α := Nat) (β := ((Int32 × Hp) ⊕ (Int32 × Hp))) (MX7_findMachine h v1 v3) fun (t13 : Nat) =>
    if t13 = 0 then
      some (.inl ((v3 + (1 : Int32)), h))
    else
      gg (β := ((Int32 × Hp) ⊕ (Int32 × Hp))) (kd h t13 = 3) <|
      if (gI h t13 2) = 0 then
        b2 (α := Int32) (β := Hp) (γ := ((Int32 × Hp) ⊕ (Int32 × Hp))) (MX7_queuedLines h v1 t13) fun (t19 : Int32) (h18 : Hp) =>
        gg (β := ((Int32 × Hp) ⊕ (Int32 × Hp))) (kd h18 v0 = 5) <|
        Option.bind (α := Hp) (β := ((Int32 × Hp) ⊕ (Int32 × Hp))) (MX6_findOwn h18 v0 ((gI h v1 0) + t19) v2) fun (h22 : Hp) =>
        gg (β := ((Int32 × Hp) ⊕ (Int32 × Hp))) (kd h22 v0 = 5) <|
        Option.bind (α := Hp) (β := ((Int32 × Hp) ⊕ (Int32 × Hp))) (MX6_shareWithOwn h22 v0 v2) fun (h25 : Hp) =>
        some (.inl ((v3 + (1 : Int32)), h25))
      else
        some (.inl ((v3 + (1 : Int32)), h))
set_option maxRecDepth 100000 in
set_option maxHeartbeats 8000000 in
theorem bX6_leastLate_43 {d : Nat} {h : Hp} {v0 : Nat} {v1 : Nat} {v2 : Int32} {v3 : Int32} {r : Int32} {h9 : Hp} {x : ((Int32 × Hp) ⊕ (Int32 × Hp))} (H : BX6_leastLate_43 h v0 v1 v2 v3 = some x) (hb0 : ∀ s : Int32 × Hp, x = .inl s → J (d + 5) YX6_leastLate 43 [.ref v0, .ref v1, .int v2, .int s.1, Value.null] [] s.2 (oI r) h9) (hx : ∀ z : (Int32 × Hp), x = .inr (z) → z = (r, h9)) : J (d + 5) YX6_leastLate 43 [.ref v0, .ref v1, .int v2, .int v3, Value.null] [] h (oI r) h9 := by
  unfold BX6_leastLate_43 at H
  refine J_iload_n 3 dX6_leastLate_43 rfl rfl ?_
  refine J_aload_n 1 dX6_leastLate_44 rfl rfl ?_
  obtain ⟨g6, H⟩ := gd H
  refine J_getI 6 9 dX6_leastLate_45 g6 flX6_33 rfl ?_
  refine J_icmp_ge 98 dX6_leastLate_48 rfl (fun q7 => ?_) (fun q7 => ?_)
  · replace H := br1 q7 H
    obtain ⟨y0, H90, rfl⟩ := up1_el H
    replace H := H90
    obtain rfl := hx _ rfl
    exact J_dr (kX6_leastLate_98 H ) ⟨rfl, ⟨rfl, trivial⟩⟩
  · replace H := br0 q7 H
    refine J_aload_n 1 dX6_leastLate_51 rfl rfl ?_
    refine J_iload_n 3 dX6_leastLate_52 rfl rfl ?_
    obtain ⟨t13, e12, H⟩ := bd H
    refine J_cV (as := [.int v3]) 6 YX7_findMachine 1 dX6_leastLate_53 moX7_findMachine mvX7_findMachine mlX6_38 g6 rfl rfl (okX7_findMachine (d := d + 4) e12) rfl rfl [] rfl rfl (st2 := [.ref t13]) rfl ?_
    refine J_astore dX6_leastLate_56 (by decide) (ls' := [.ref v0, .ref v1, .int v2, .int v3, .ref t13]) rfl ?_
    refine J_aload dX6_leastLate_58 rfl ?_
    refine J_ifnull 92 dX6_leastLate_60 rfl (fun q14 => ?_) (fun q14 => ?_)
    · replace H := br1 q14 H
      refine J_iinc (v3 + (1 : Int32)) dX6_leastLate_92 rfl (congrArg (HAdd.hAdd v3) kc_1) (by decide) (ls' := [.ref v0, .ref v1, .int v2, .int (v3 + (1 : Int32)), .ref t13]) rfl ?_
      refine J_goto 43 dX6_leastLate_95 rfl ?_
      cases H
      exact J_dr (hb0 _ rfl) ⟨rfl, ⟨rfl, ⟨rfl, ⟨rfl, trivial⟩⟩⟩⟩
    · replace H := br0 q14 H
      refine J_aload dX6_leastLate_63 rfl ?_
      obtain ⟨g15, H⟩ := gd H
      refine J_getI 3 2 dX6_leastLate_65 g15 flX6_42 rfl ?_
      refine J_if_ne 92 dX6_leastLate_68 rfl (fun q16 => ?_) (fun q16 => ?_)
      · replace H := br0 q16 H
        refine J_iinc (v3 + (1 : Int32)) dX6_leastLate_92 rfl (congrArg (HAdd.hAdd v3) kc_1) (by decide) (ls' := [.ref v0, .ref v1, .int v2, .int (v3 + (1 : Int32)), .ref t13]) rfl ?_
        refine J_goto 43 dX6_leastLate_95 rfl ?_
        cases H
        exact J_dr (hb0 _ rfl) ⟨rfl, ⟨rfl, ⟨rfl, ⟨rfl, trivial⟩⟩⟩⟩
      · replace H := br1 q16 H
        refine J_aload_n 0 dX6_leastLate_71 rfl rfl ?_
        refine J_aload_n 1 dX6_leastLate_72 rfl rfl ?_
        refine J_getI 6 0 dX6_leastLate_73 g6 flX6_48 rfl ?_
        refine J_aload_n 1 dX6_leastLate_76 rfl rfl ?_
        refine J_aload dX6_leastLate_77 rfl ?_
        obtain ⟨t19, h18, e17, H⟩ := b2_el H
        refine J_cV (as := [.ref t13]) 6 YX7_queuedLines 1 dX6_leastLate_79 moX7_queuedLines mvX7_queuedLines mlX6_51 g6 rfl rfl (okX7_queuedLines (d := d) e17) rfl rfl [.int (gI h v1 0), .ref v0] rfl rfl (st2 := [.int t19, .int (gI h v1 0), .ref v0]) rfl ?_
        refine J_iadd dX6_leastLate_82 ?_
        refine J_iload_n 2 dX6_leastLate_83 rfl rfl ?_
        obtain ⟨g21, H⟩ := gd H
        obtain ⟨h22, e20, H⟩ := bd H
        refine J_cV (as := [.int ((gI h v1 0) + t19), .int v2]) 5 YX6_findOwn 2 dX6_leastLate_84 moX6_findOwn mvX6_findOwn mlX6_55 g21 rfl rfl (okX6_findOwn (d := d + 4) e20) rfl rfl [] rfl rfl (st2 := []) rfl ?_
        refine J_aload_n 0 dX6_leastLate_87 rfl rfl ?_
        refine J_iload_n 2 dX6_leastLate_88 rfl rfl ?_
        obtain ⟨g24, H⟩ := gd H
        obtain ⟨h25, e23, H⟩ := bd H
        refine J_cV (as := [.int v2]) 5 YX6_shareWithOwn 1 dX6_leastLate_89 moX6_shareWithOwn mvX6_shareWithOwn mlX6_59 g24 rfl rfl (okX6_shareWithOwn (d := d + 4) e23) rfl rfl [] rfl rfl (st2 := []) rfl ?_
        refine J_iinc (v3 + (1 : Int32)) dX6_leastLate_92 rfl (congrArg (HAdd.hAdd v3) kc_1) (by decide) (ls' := [.ref v0, .ref v1, .int v2, .int (v3 + (1 : Int32)), .ref t13]) rfl ?_
        refine J_goto 43 dX6_leastLate_95 rfl ?_
        cases H
        exact J_dr (hb0 _ rfl) ⟨rfl, ⟨rfl, ⟨rfl, ⟨rfl, trivial⟩⟩⟩⟩
noncomputable def MX6_leastLate_43 (h : Hp) (v0 : Nat) (v1 : Nat) (v2 : Int32) (v3 : Int32) : Option (Int32 × Hp) := it (fun q : Int32 × Hp => BX6_leastLate_43 q.2 v0 v1 v2 q.1) (v3, h)
set_option maxRecDepth 100000 in
set_option maxHeartbeats 8000000 in
theorem kX6_leastLate_43 {d : Nat} {h : Hp} {v0 : Nat} {v1 : Nat} {v2 : Int32} {v3 : Int32} {r : Int32} {h9 : Hp} (H : MX6_leastLate_43 h v0 v1 v2 v3 = some (r, h9)) : J (d + 5) YX6_leastLate 43 [.ref v0, .ref v1, .int v2, .int v3, Value.null] [] h (oI r) h9 := by
  unfold MX6_leastLate_43 at H
  refine it_J (G := (fun q : Int32 × Hp => J (d + 5) YX6_leastLate 43 [.ref v0, .ref v1, .int v2, .int q.1, Value.null] [] q.2 (oI r) h9)) (Q := (fun y : (Int32 × Hp) => y = (r, h9))) (fun q x Hq hm => ?_) H rfl
  exact bX6_leastLate_43 Hq (fun s hs => by subst hs; exact hm) (fun z hz => by subst hz; exact hm)
noncomputable def MX6_leastLate_41 (h : Hp) (v0 : Nat) (v1 : Nat) (v2 : Int32) : Option (Int32 × Hp) :=
  MX6_leastLate_43 h v0 v1 v2 (0 : Int32)
set_option maxRecDepth 100000 in
set_option maxHeartbeats 8000000 in
theorem kX6_leastLate_41 {d : Nat} {h : Hp} {v0 : Nat} {v1 : Nat} {v2 : Int32} {r : Int32} {h9 : Hp} (H : MX6_leastLate_41 h v0 v1 v2 = some (r, h9)) : J (d + 5) YX6_leastLate 41 [.ref v0, .ref v1, .int v2, Value.null, Value.null] [] h (oI r) h9 := by
  unfold MX6_leastLate_41 at H
  refine J_iconst (0 : Int32) dX6_leastLate_41 kc_0 ?_
  refine J_istore_n 3 dX6_leastLate_42 rfl (by decide) (ls' := [.ref v0, .ref v1, .int v2, .int (0 : Int32), Value.null]) rfl ?_
  exact J_dr (kX6_leastLate_43 H ) ⟨rfl, ⟨rfl, ⟨rfl, ⟨rfl, trivial⟩⟩⟩⟩
noncomputable def MX6_leastLate_34 (h : Hp) (v0 : Nat) (v1 : Nat) (v2 : Int32) (v3 : Int32) (s0 : Nat) (s1 : Int32) (s2 : Int32) : Option ((Int32 × Hp) ⊕ (Int32 × Hp)) :=
  gg (β := ((Int32 × Hp) ⊕ (Int32 × Hp))) (kd h s0 = 20) <|
  gg (β := ((Int32 × Hp) ⊕ (Int32 × Hp))) (inB s1 (ln h s0) = true) <|
  lt (α := Hp) (β := Option ((Int32 × Hp) ⊕ (Int32 × Hp))) (sI h s0 s1.toNatClampNeg s2) fun (h30 : Hp) =>
  some (.inl ((v3 + (1 : Int32)), h30))
set_option maxRecDepth 100000 in
set_option maxHeartbeats 8000000 in
theorem kX6_leastLate_34 {d : Nat} {h : Hp} {v0 : Nat} {v1 : Nat} {v2 : Int32} {v3 : Int32} {s0 : Nat} {s1 : Int32} {s2 : Int32} {r : Int32} {h9 : Hp} {x : ((Int32 × Hp) ⊕ (Int32 × Hp))} (H : MX6_leastLate_34 h v0 v1 v2 v3 s0 s1 s2 = some x) (hb0 : ∀ s : Int32 × Hp, x = .inl s → J (d + 5) YX6_leastLate 14 [.ref v0, .ref v1, .int v2, .int s.1, Value.null] [] s.2 (oI r) h9) (hx : ∀ z : (Int32 × Hp), x = .inr (z) → z = (r, h9)) : J (d + 5) YX6_leastLate 34 [.ref v0, .ref v1, .int v2, .int v3, Value.null] [.int s2, .int s1, .ref s0] h (oI r) h9 := by
  unfold MX6_leastLate_34 at H
  obtain ⟨g28, H⟩ := gd H
  obtain ⟨g29, H⟩ := gd H
  obtain ⟨h30, e31, H⟩ := lt_el H
  refine J_sI dX6_leastLate_34 g28 (inB_ok g29) e31 ?_
  have c32 := ekI e31
  have c33 := elI e31
  have c34 := epI e31
  refine J_iinc (v3 + (1 : Int32)) dX6_leastLate_35 rfl (congrArg (HAdd.hAdd v3) kc_1) (by decide) (ls' := [.ref v0, .ref v1, .int v2, .int (v3 + (1 : Int32)), Value.null]) rfl ?_
  refine J_goto 14 dX6_leastLate_38 rfl ?_
  cases H
  exact J_dr (hb0 _ rfl) ⟨rfl, ⟨rfl, ⟨rfl, ⟨rfl, trivial⟩⟩⟩⟩
noncomputable def BX6_leastLate_14 (h : Hp) (v0 : Nat) (v1 : Nat) (v2 : Int32) (v3 : Int32) : Option ((Int32 × Hp) ⊕ (Int32 × Hp)) :=
  if v2 ≤ v3 then
    up1 (MX6_leastLate_41 h v0 v1 v2)
  else
    gg (β := ((Int32 × Hp) ⊕ (Int32 × Hp))) (kd h v0 = 5) <|
    if v3 = 0 then
      MX6_leastLate_34 h v0 v1 v2 v3 (gP h v0 4) v3 (0 : Int32)
    else
      MX6_leastLate_34 h v0 v1 v2 v3 (gP h v0 4) v3 (1000000000 : Int32)
set_option maxRecDepth 100000 in
set_option maxHeartbeats 8000000 in
theorem bX6_leastLate_14 {d : Nat} {h : Hp} {v0 : Nat} {v1 : Nat} {v2 : Int32} {v3 : Int32} {r : Int32} {h9 : Hp} {x : ((Int32 × Hp) ⊕ (Int32 × Hp))} (H : BX6_leastLate_14 h v0 v1 v2 v3 = some x) (hb0 : ∀ s : Int32 × Hp, x = .inl s → J (d + 5) YX6_leastLate 14 [.ref v0, .ref v1, .int v2, .int s.1, Value.null] [] s.2 (oI r) h9) (hx : ∀ z : (Int32 × Hp), x = .inr (z) → z = (r, h9)) : J (d + 5) YX6_leastLate 14 [.ref v0, .ref v1, .int v2, .int v3, Value.null] [] h (oI r) h9 := by
  unfold BX6_leastLate_14 at H
  refine J_iload_n 3 dX6_leastLate_14 rfl rfl ?_
  refine J_iload_n 2 dX6_leastLate_15 rfl rfl ?_
  refine J_icmp_ge 41 dX6_leastLate_16 rfl (fun q5 => ?_) (fun q5 => ?_)
  · replace H := br1 q5 H
    obtain ⟨y0, H90, rfl⟩ := up1_el H
    replace H := H90
    obtain rfl := hx _ rfl
    exact J_dr (kX6_leastLate_41 H ) ⟨rfl, ⟨rfl, ⟨rfl, trivial⟩⟩⟩
  · replace H := br0 q5 H
    refine J_aload_n 0 dX6_leastLate_19 rfl rfl ?_
    obtain ⟨g26, H⟩ := gd H
    refine J_gP 5 4 dX6_leastLate_20 g26 flX6_25 rfl rfl ?_
    refine J_iload_n 3 dX6_leastLate_23 rfl rfl ?_
    refine J_iload_n 3 dX6_leastLate_24 rfl rfl ?_
    refine J_if_ne 32 dX6_leastLate_25 rfl (fun q27 => ?_) (fun q27 => ?_)
    · replace H := br0 q27 H
      refine J_ldc (1000000000 : Int32) coX6_32 dX6_leastLate_32 ?_
      exact J_dr (kX6_leastLate_34 H hb0 hx) ⟨rfl, ⟨rfl, ⟨rfl, ⟨rfl, trivial⟩⟩⟩⟩
    · replace H := br1 q27 H
      refine J_iconst (0 : Int32) dX6_leastLate_28 kc_0 ?_
      refine J_goto 34 dX6_leastLate_29 rfl ?_
      exact J_dr (kX6_leastLate_34 H hb0 hx) ⟨rfl, ⟨rfl, ⟨rfl, ⟨rfl, trivial⟩⟩⟩⟩
noncomputable def MX6_leastLate_14 (h : Hp) (v0 : Nat) (v1 : Nat) (v2 : Int32) (v3 : Int32) : Option (Int32 × Hp) := it (fun q : Int32 × Hp => BX6_leastLate_14 q.2 v0 v1 v2 q.1) (v3, h)
set_option maxRecDepth 100000 in
set_option maxHeartbeats 8000000 in
theorem kX6_leastLate_14 {d : Nat} {h : Hp} {v0 : Nat} {v1 : Nat} {v2 : Int32} {v3 : Int32} {r : Int32} {h9 : Hp} (H : MX6_leastLate_14 h v0 v1 v2 v3 = some (r, h9)) : J (d + 5) YX6_leastLate 14 [.ref v0, .ref v1, .int v2, .int v3, Value.null] [] h (oI r) h9 := by
  unfold MX6_leastLate_14 at H
  refine it_J (G := (fun q : Int32 × Hp => J (d + 5) YX6_leastLate 14 [.ref v0, .ref v1, .int v2, .int q.1, Value.null] [] q.2 (oI r) h9)) (Q := (fun y : (Int32 × Hp) => y = (r, h9))) (fun q x Hq hm => ?_) H rfl
  exact bX6_leastLate_14 Hq (fun s hs => by subst hs; exact hm) (fun z hz => by subst hz; exact hm)
noncomputable def MX6_leastLate (h : Hp) (v0 : Nat) (v1 : Nat) : Option (Int32 × Hp) :=
  gg (β := (Int32 × Hp)) (kd h v0 = 5) <|
  Option.bind (α := Hp) (β := (Int32 × Hp)) (MX6_loadParts h v0 v1) fun (h3 : Hp) =>
  gg (β := (Int32 × Hp)) (kd h3 v0 = 5) <|
  MX6_leastLate_14 h3 v0 v1 ((1 : Int32) <<< ((gI h3 v0 0) &&& 31)) (0 : Int32)
set_option maxRecDepth 100000 in
set_option maxHeartbeats 8000000 in
theorem eX6_leastLate {d : Nat} {h : Hp} {v0 : Nat} {v1 : Nat} {r : Int32} {h9 : Hp} (H : MX6_leastLate h v0 v1 = some (r, h9)) : J (d + 5) YX6_leastLate 0 [.ref v0, .ref v1, Value.null, Value.null, Value.null] [] h (oI r) h9 := by
  unfold MX6_leastLate at H
  refine J_aload_n 0 dX6_leastLate_0 rfl rfl ?_
  refine J_aload_n 1 dX6_leastLate_1 rfl rfl ?_
  obtain ⟨g2, H⟩ := gd H
  obtain ⟨h3, e1, H⟩ := bd H
  refine J_cV (as := [.ref v1]) 5 YX6_loadParts 1 dX6_leastLate_2 moX6_loadParts mvX6_loadParts mlX6_28 g2 rfl rfl (okX6_loadParts (d := d) e1) rfl rfl [] rfl rfl (st2 := []) rfl ?_
  refine J_iconst (1 : Int32) dX6_leastLate_5 kc_1 ?_
  refine J_aload_n 0 dX6_leastLate_6 rfl rfl ?_
  obtain ⟨g4, H⟩ := gd H
  refine J_getI 5 0 dX6_leastLate_7 g4 flX6_9 rfl ?_
  refine J_ishl dX6_leastLate_10 ?_
  refine J_istore_n 2 dX6_leastLate_11 rfl (by decide) (ls' := [.ref v0, .ref v1, .int ((1 : Int32) <<< ((gI h3 v0 0) &&& 31)), Value.null, Value.null]) rfl ?_
  refine J_iconst (0 : Int32) dX6_leastLate_12 kc_0 ?_
  refine J_istore_n 3 dX6_leastLate_13 rfl (by decide) (ls' := [.ref v0, .ref v1, .int ((1 : Int32) <<< ((gI h3 v0 0) &&& 31)), .int (0 : Int32), Value.null]) rfl ?_
  exact J_dr (kX6_leastLate_14 H ) ⟨rfl, ⟨rfl, ⟨rfl, ⟨rfl, trivial⟩⟩⟩⟩
theorem okX6_leastLate {d : Nat} {h : Hp} {v0 : Nat} {v1 : Nat} {r : Int32} {h9 : Hp} (H : MX6_leastLate h v0 v1 = some (r, h9)) : CT (d + 5) YX6_leastLate [.ref v0, .ref v1] h (oI r) h9 := CT_of (by decide +kernel) (Nat.le_of_ble_eq_true rfl) (eX6_leastLate H)
noncomputable def MX11_least (h : Hp) (v0 : Nat) : Option (Int32 × Hp) :=
  gg (β := (Int32 × Hp)) (kd h v0 = 10) <|
  gg (β := (Int32 × Hp)) (kd h (gP h v0 8) = 5) <|
  b2 (α := Int32) (β := Hp) (γ := (Int32 × Hp)) (MX6_leastLate h (gP h v0 8) (gP h v0 5)) fun (t5 : Int32) (h4 : Hp) =>
  some (t5, h4)
set_option maxRecDepth 100000 in
set_option maxHeartbeats 8000000 in
theorem eX11_least {d : Nat} {h : Hp} {v0 : Nat} {r : Int32} {h9 : Hp} (H : MX11_least h v0 = some (r, h9)) : J (d + 6) YX11_least 0 [.ref v0] [] h (oI r) h9 := by
  unfold MX11_least at H
  refine J_aload_n 0 dX11_least_0 rfl rfl ?_
  obtain ⟨g1, H⟩ := gd H
  refine J_gP 10 8 dX11_least_1 g1 flX11_60 rfl rfl ?_
  refine J_aload_n 0 dX11_least_4 rfl rfl ?_
  refine J_gP 10 5 dX11_least_5 g1 flX11_39 rfl rfl ?_
  obtain ⟨g3, H⟩ := gd H
  obtain ⟨t5, h4, e2, H⟩ := b2_el H
  refine J_cV (as := [.ref (gP h v0 5)]) 5 YX6_leastLate 1 dX11_least_8 moX6_leastLate mvX6_leastLate mlX11_465 g3 rfl rfl (okX6_leastLate (d := d) e2) rfl rfl [] rfl rfl (st2 := [.int t5]) rfl ?_
  cases H
  exact J_iretI dX11_least_11 rfl
theorem okX11_least {d : Nat} {h : Hp} {v0 : Nat} {r : Int32} {h9 : Hp} (H : MX11_least h v0 = some (r, h9)) : CT (d + 6) YX11_least [.ref v0] h (oI r) h9 := CT_of (by decide +kernel) (Nat.le_of_ble_eq_true rfl) (eX11_least H)
noncomputable def MX11_lies (h : Hp) (v0 : Nat) (v1 : Int32) (v2 : Int32) : Option ((Int32 ⊕ Nat) × Hp) :=
  gg (β := ((Int32 ⊕ Nat) × Hp)) (kd h v0 = 10) <|
  gg (β := ((Int32 ⊕ Nat) × Hp)) (kd h (gP h v0 5) = 6) <|
  Option.bind (α := Nat) (β := ((Int32 ⊕ Nat) × Hp)) (MX7_findPart h (gP h v0 5) v1) fun (t4 : Nat) =>
  if t4 = 0 then
    some (.inr 1, bmp h 1 6)
  else
    gg (β := ((Int32 ⊕ Nat) × Hp)) (kd h t4 = 4) <|
    if (gI h t4 11) = 0 then
      some (.inr 5, bmp h 1 6)
    else
      Option.bind (α := Int32) (β := ((Int32 ⊕ Nat) × Hp)) (MX5_hasLine h t4 v2) fun (t9 : Int32) =>
      if t9 = 0 then
        some (.inr 1, bmp h 1 6)
      else
        gg (β := ((Int32 ⊕ Nat) × Hp)) (kd h (gP h t4 4) = 20) <|
        gg (β := ((Int32 ⊕ Nat) × Hp)) (inB v2 (ln h (gP h t4 4)) = true) <|
        some (.inl (gI h (gP h t4 4) v2.toNatClampNeg), h)
set_option maxRecDepth 100000 in
set_option maxHeartbeats 8000000 in
theorem eX11_lies {d : Nat} {h : Hp} {v0 : Nat} {v1 : Int32} {v2 : Int32} {r : Int32 ⊕ Nat} {h9 : Hp} (H : MX11_lies h v0 v1 v2 = some (r, h9)) : J (d + 1) YX11_lies 0 [.ref v0, .int v1, .int v2, Value.null] [] h (oT r) h9 := by
  unfold MX11_lies at H
  refine J_aload_n 0 dX11_lies_0 rfl rfl ?_
  obtain ⟨g1, H⟩ := gd H
  refine J_gP 10 5 dX11_lies_1 g1 flX11_39 rfl rfl ?_
  refine J_iload_n 1 dX11_lies_4 rfl rfl ?_
  obtain ⟨g3, H⟩ := gd H
  obtain ⟨t4, e2, H⟩ := bd H
  refine J_cV (as := [.int v1]) 6 YX7_findPart 1 dX11_lies_5 moX7_findPart mvX7_findPart mlX11_139 g3 rfl rfl (okX7_findPart (d := d) e2) rfl rfl [] rfl rfl (st2 := [.ref t4]) rfl ?_
  refine J_astore_n 3 dX11_lies_8 rfl (by decide) (ls' := [.ref v0, .int v1, .int v2, .ref t4]) rfl ?_
  refine J_aload_n 3 dX11_lies_9 rfl rfl ?_
  refine J_ifnonnull 21 dX11_lies_10 rfl (fun q5 => ?_) (fun q5 => ?_)
  · replace H := br0 q5 H
    refine J_aload_n 3 dX11_lies_21 rfl rfl ?_
    obtain ⟨g6, H⟩ := gd H
    refine J_getI 4 11 dX11_lies_22 g6 flX11_159 rfl ?_
    refine J_if_ne 36 dX11_lies_25 rfl (fun q7 => ?_) (fun q7 => ?_)
    · replace H := br0 q7 H
      refine J_aload_n 3 dX11_lies_36 rfl rfl ?_
      refine J_iload_n 2 dX11_lies_37 rfl rfl ?_
      obtain ⟨t9, e8, H⟩ := bd H
      refine J_cV (as := [.int v2]) 4 YX5_hasLine 1 dX11_lies_38 moX5_hasLine mvX5_hasLine mlX11_208 g6 rfl rfl (okX5_hasLine (d := d) e8) rfl rfl [] rfl rfl (st2 := [.int t9]) rfl ?_
      refine J_if_ne 52 dX11_lies_41 rfl (fun q10 => ?_) (fun q10 => ?_)
      · replace H := br0 q10 H
        refine J_aload_n 3 dX11_lies_52 rfl rfl ?_
        refine J_gP 4 4 dX11_lies_53 g6 flX11_325 rfl rfl ?_
        refine J_iload_n 2 dX11_lies_56 rfl rfl ?_
        obtain ⟨g11, H⟩ := gd H
        obtain ⟨g12, H⟩ := gd H
        refine J_iald dX11_lies_57 g11 (inB_ok g12) ?_
        cases H
        exact J_iretI dX11_lies_58 rfl
      · replace H := br1 q10 H
        cases H
        exact J_throw 1 ["java/lang/RuntimeException", "java/lang/Exception"] dX11_lies_44 dX11_lies_47 dX11_lies_48 dX11_lies_51 th_86 clX11_84 (Nat.le_of_ble_eq_true rfl)
    · replace H := br1 q7 H
      cases H
      exact J_throw 5 ["java/lang/RuntimeException", "java/lang/Exception"] dX11_lies_28 dX11_lies_31 dX11_lies_32 dX11_lies_35 th_324 clX11_322 (Nat.le_of_ble_eq_true rfl)
  · replace H := br1 q5 H
    cases H
    exact J_throw 1 ["java/lang/RuntimeException", "java/lang/Exception"] dX11_lies_13 dX11_lies_16 dX11_lies_17 dX11_lies_20 th_86 clX11_84 (Nat.le_of_ble_eq_true rfl)
theorem okX11_lies {d : Nat} {h : Hp} {v0 : Nat} {v1 : Int32} {v2 : Int32} {r : Int32 ⊕ Nat} {h9 : Hp} (H : MX11_lies h v0 v1 v2 = some (r, h9)) : CT (d + 1) YX11_lies [.ref v0, .int v1, .int v2] h (oT r) h9 := CT_of (by decide +kernel) (Nat.le_of_ble_eq_true rfl) (eX11_lies H)
noncomputable def MX2_emptyRow (h : Hp) (v0 : Nat) (v1 : Int32) : Option (Int32 × Hp) :=
  gg (β := (Int32 × Hp)) (kd h v0 = 1) <|
  gg (β := (Int32 × Hp)) (kd h (gP h v0 5) = 20) <|
  gg (β := (Int32 × Hp)) (inB v1 (ln h (gP h v0 5)) = true) <|
  lt (α := Hp) (β := Option (Int32 × Hp)) (sI h (gP h v0 5) v1.toNatClampNeg (0 : Int32)) fun (h4 : Hp) =>
  some (v1, h4)
set_option maxRecDepth 100000 in
set_option maxHeartbeats 8000000 in
theorem eX2_emptyRow {d : Nat} {h : Hp} {v0 : Nat} {v1 : Int32} {r : Int32} {h9 : Hp} (H : MX2_emptyRow h v0 v1 = some (r, h9)) : J (d) YX2_emptyRow 0 [.ref v0, .int v1] [] h (oI r) h9 := by
  unfold MX2_emptyRow at H
  refine J_aload_n 0 dX2_emptyRow_0 rfl rfl ?_
  obtain ⟨g1, H⟩ := gd H
  refine J_gP 1 5 dX2_emptyRow_1 g1 flX2_29 rfl rfl ?_
  refine J_iload_n 1 dX2_emptyRow_4 rfl rfl ?_
  refine J_iconst (0 : Int32) dX2_emptyRow_5 kc_0 ?_
  obtain ⟨g2, H⟩ := gd H
  obtain ⟨g3, H⟩ := gd H
  obtain ⟨h4, e5, H⟩ := lt_el H
  refine J_sI dX2_emptyRow_6 g2 (inB_ok g3) e5 ?_
  have c6 := ekI e5
  have c7 := elI e5
  have c8 := epI e5
  refine J_iload_n 1 dX2_emptyRow_7 rfl rfl ?_
  cases H
  exact J_iretI dX2_emptyRow_8 rfl
theorem okX2_emptyRow {d : Nat} {h : Hp} {v0 : Nat} {v1 : Int32} {r : Int32} {h9 : Hp} (H : MX2_emptyRow h v0 v1 = some (r, h9)) : CT (d) YX2_emptyRow [.ref v0, .int v1] h (oI r) h9 := CT_of (by decide +kernel) (Nat.le_of_ble_eq_true rfl) (eX2_emptyRow H)
noncomputable def BX3_allRight_12 (h : Hp) (v0 : Nat) (v1 : Nat) (v2 : Int32) (v3 : Int32) : Option ((Int32 × Hp) ⊕ ((Int32 × Hp) ⊕ (Int32 × Hp))) :=
  gg (β := ((Int32 × Hp) ⊕ ((Int32 × Hp) ⊕ (Int32 × Hp)))) (kd h v0 = 2) <|
  gg (β := ((Int32 × Hp) ⊕ ((Int32 × Hp) ⊕ (Int32 × Hp)))) (kd h (gP h v0 4) = 20) <|
  gg (β := ((Int32 × Hp) ⊕ ((Int32 × Hp) ⊕ (Int32 × Hp)))) (inB v2 (ln h (gP h v0 4)) = true) <|
  if (gI h (gP h v0 4) v2.toNatClampNeg) ≤ v3 then
    some (.inr (.inl ((v2 + (1 : Int32)), h)))
  else
    gg (β := ((Int32 × Hp) ⊕ ((Int32 × Hp) ⊕ (Int32 × Hp)))) (kd h (gP h v0 2) = 20) <|
    gg (β := ((Int32 × Hp) ⊕ ((Int32 × Hp) ⊕ (Int32 × Hp)))) (inB v2 (ln h (gP h v0 2)) = true) <|
    gg (β := ((Int32 × Hp) ⊕ ((Int32 × Hp) ⊕ (Int32 × Hp)))) (kd h v1 = 6) <|
    Option.bind (α := Nat) (β := ((Int32 × Hp) ⊕ ((Int32 × Hp) ⊕ (Int32 × Hp)))) (MX7_findPart h v1 (((5 : Int32) * (gI h (gP h v0 2) v2.toNatClampNeg)) + v3)) fun (t11 : Nat) =>
    if t11 = 0 then
      some (.inr (.inr (((0 : Int32), h))))
    else
      b2 (α := Int32) (β := Hp) (γ := ((Int32 × Hp) ⊕ ((Int32 × Hp) ⊕ (Int32 × Hp)))) (MX7_firstNotRight h v1 t11) fun (t15 : Int32) (h14 : Hp) =>
      if t15 = (-1 : Int32) then
        some (.inl ((v3 + (1 : Int32)), h14))
      else
        some (.inr (.inr (((0 : Int32), h14))))
set_option maxRecDepth 100000 in
set_option maxHeartbeats 8000000 in
theorem bX3_allRight_12 {d : Nat} {h : Hp} {v0 : Nat} {v1 : Nat} {v2 : Int32} {v3 : Int32} {r : Int32} {h9 : Hp} {x : ((Int32 × Hp) ⊕ ((Int32 × Hp) ⊕ (Int32 × Hp)))} (H : BX3_allRight_12 h v0 v1 v2 v3 = some x) (hb0 : ∀ s : Int32 × Hp, x = .inl s → J (d + 4) YX3_allRight 12 [.ref v0, .ref v1, .int v2, .int s.1, Value.null] [] s.2 (oI r) h9) (hb1 : ∀ s : Int32 × Hp, x = .inr (.inl s) → J (d + 4) YX3_allRight 2 [.ref v0, .ref v1, .int s.1, Value.null, Value.null] [] s.2 (oI r) h9) (hx : ∀ z : (Int32 × Hp), x = .inr (.inr (z)) → z = (r, h9)) : J (d + 4) YX3_allRight 12 [.ref v0, .ref v1, .int v2, .int v3, Value.null] [] h (oI r) h9 := by
  unfold BX3_allRight_12 at H
  refine J_iload_n 3 dX3_allRight_12 rfl rfl ?_
  refine J_aload_n 0 dX3_allRight_13 rfl rfl ?_
  obtain ⟨g3, H⟩ := gd H
  refine J_gP 2 4 dX3_allRight_14 g3 flX3_25 rfl rfl ?_
  refine J_iload_n 2 dX3_allRight_17 rfl rfl ?_
  obtain ⟨g4, H⟩ := gd H
  obtain ⟨g5, H⟩ := gd H
  refine J_iald dX3_allRight_18 g4 (inB_ok g5) ?_
  refine J_icmp_ge 61 dX3_allRight_19 rfl (fun q6 => ?_) (fun q6 => ?_)
  · replace H := br1 q6 H
    refine J_iinc (v2 + (1 : Int32)) dX3_allRight_61 rfl (congrArg (HAdd.hAdd v2) kc_1) (by decide) (ls' := [.ref v0, .ref v1, .int (v2 + (1 : Int32)), .int v3, Value.null]) rfl ?_
    refine J_goto 2 dX3_allRight_64 rfl ?_
    cases H
    exact J_dr (hb1 _ rfl) ⟨rfl, ⟨rfl, ⟨rfl, trivial⟩⟩⟩
  · replace H := br0 q6 H
    refine J_aload_n 1 dX3_allRight_22 rfl rfl ?_
    refine J_iconst (5 : Int32) dX3_allRight_23 kc_5 ?_
    refine J_aload_n 0 dX3_allRight_24 rfl rfl ?_
    refine J_gP 2 2 dX3_allRight_25 g3 flX3_18 rfl rfl ?_
    refine J_iload_n 2 dX3_allRight_28 rfl rfl ?_
    obtain ⟨g7, H⟩ := gd H
    obtain ⟨g8, H⟩ := gd H
    refine J_iald dX3_allRight_29 g7 (inB_ok g8) ?_
    refine J_imul dX3_allRight_30 ?_
    refine J_iload_n 3 dX3_allRight_31 rfl rfl ?_
    refine J_iadd dX3_allRight_32 ?_
    obtain ⟨g10, H⟩ := gd H
    obtain ⟨t11, e9, H⟩ := bd H
    refine J_cV (as := [.int (((5 : Int32) * (gI h (gP h v0 2) v2.toNatClampNeg)) + v3)]) 6 YX7_findPart 1 dX3_allRight_33 moX7_findPart mvX7_findPart mlX3_67 g10 rfl rfl (okX7_findPart (d := d + 3) e9) rfl rfl [] rfl rfl (st2 := [.ref t11]) rfl ?_
    refine J_astore dX3_allRight_36 (by decide) (ls' := [.ref v0, .ref v1, .int v2, .int v3, .ref t11]) rfl ?_
    refine J_aload dX3_allRight_38 rfl ?_
    refine J_ifnull 53 dX3_allRight_40 rfl (fun q12 => ?_) (fun q12 => ?_)
    · replace H := br1 q12 H
      refine J_iconst (0 : Int32) dX3_allRight_53 kc_0 ?_
      cases H
      cases hx _ rfl
      exact J_rZ dX3_allRight_54 rfl rfl
    · replace H := br0 q12 H
      refine J_aload_n 1 dX3_allRight_43 rfl rfl ?_
      refine J_aload dX3_allRight_44 rfl ?_
      obtain ⟨t15, h14, e13, H⟩ := b2_el H
      refine J_cV (as := [.ref t11]) 6 YX7_firstNotRight 1 dX3_allRight_46 moX7_firstNotRight mvX7_firstNotRight mlX3_89 g10 rfl rfl (okX7_firstNotRight (d := d) e13) rfl rfl [] rfl rfl (st2 := [.int t15]) rfl ?_
      refine J_iconst (-1 : Int32) dX3_allRight_49 kc_m1 ?_
      refine J_icmp_eq 55 dX3_allRight_50 rfl (fun q16 => ?_) (fun q16 => ?_)
      · replace H := br1 q16 H
        refine J_iinc (v3 + (1 : Int32)) dX3_allRight_55 rfl (congrArg (HAdd.hAdd v3) kc_1) (by decide) (ls' := [.ref v0, .ref v1, .int v2, .int (v3 + (1 : Int32)), .ref t11]) rfl ?_
        refine J_goto 12 dX3_allRight_58 rfl ?_
        cases H
        exact J_dr (hb0 _ rfl) ⟨rfl, ⟨rfl, ⟨rfl, ⟨rfl, trivial⟩⟩⟩⟩
      · replace H := br0 q16 H
        refine J_iconst (0 : Int32) dX3_allRight_53 kc_0 ?_
        cases H
        cases hx _ rfl
        exact J_rZ dX3_allRight_54 rfl rfl
noncomputable def MX3_allRight_12 (h : Hp) (v0 : Nat) (v1 : Nat) (v2 : Int32) (v3 : Int32) : Option ((Int32 × Hp) ⊕ (Int32 × Hp)) := it (fun q : Int32 × Hp => BX3_allRight_12 q.2 v0 v1 v2 q.1) (v3, h)
set_option maxRecDepth 100000 in
set_option maxHeartbeats 8000000 in
theorem kX3_allRight_12 {d : Nat} {h : Hp} {v0 : Nat} {v1 : Nat} {v2 : Int32} {v3 : Int32} {r : Int32} {h9 : Hp} {x : ((Int32 × Hp) ⊕ (Int32 × Hp))} (H : MX3_allRight_12 h v0 v1 v2 v3 = some x) (hb0 : ∀ s : Int32 × Hp, x = .inl s → J (d + 4) YX3_allRight 2 [.ref v0, .ref v1, .int s.1, Value.null, Value.null] [] s.2 (oI r) h9) (hx : ∀ z : (Int32 × Hp), x = .inr (z) → z = (r, h9)) : J (d + 4) YX3_allRight 12 [.ref v0, .ref v1, .int v2, .int v3, Value.null] [] h (oI r) h9 := by
  unfold MX3_allRight_12 at H
  refine it_J (G := (fun q : Int32 × Hp => J (d + 4) YX3_allRight 12 [.ref v0, .ref v1, .int v2, .int q.1, Value.null] [] q.2 (oI r) h9)) (Q := (fun y : ((Int32 × Hp) ⊕ (Int32 × Hp)) => (∀ s : Int32 × Hp, y = .inl s → J (d + 4) YX3_allRight 2 [.ref v0, .ref v1, .int s.1, Value.null, Value.null] [] s.2 (oI r) h9) ∧ (∀ z : (Int32 × Hp), y = .inr (z) → z = (r, h9)))) (fun q x Hq hm => ?_) H ⟨hb0, hx⟩
  exact bX3_allRight_12 Hq (fun s hs => by subst hs; exact hm) (fun s hs => by subst hs; exact (hm.1) s rfl) (fun z hz => by subst hz; exact (hm.2) z rfl)
noncomputable def BX3_allRight_2 (h : Hp) (v0 : Nat) (v1 : Nat) (v2 : Int32) : Option ((Int32 × Hp) ⊕ (Int32 × Hp)) :=
  gg (β := ((Int32 × Hp) ⊕ (Int32 × Hp))) (kd h v0 = 2) <|
  if (gI h v0 0) ≤ v2 then
    some (.inr (((1 : Int32), h)))
  else
    MX3_allRight_12 h v0 v1 v2 (0 : Int32)
set_option maxRecDepth 100000 in
set_option maxHeartbeats 8000000 in
theorem bX3_allRight_2 {d : Nat} {h : Hp} {v0 : Nat} {v1 : Nat} {v2 : Int32} {r : Int32} {h9 : Hp} {x : ((Int32 × Hp) ⊕ (Int32 × Hp))} (H : BX3_allRight_2 h v0 v1 v2 = some x) (hb0 : ∀ s : Int32 × Hp, x = .inl s → J (d + 4) YX3_allRight 2 [.ref v0, .ref v1, .int s.1, Value.null, Value.null] [] s.2 (oI r) h9) (hx : ∀ z : (Int32 × Hp), x = .inr (z) → z = (r, h9)) : J (d + 4) YX3_allRight 2 [.ref v0, .ref v1, .int v2, Value.null, Value.null] [] h (oI r) h9 := by
  unfold BX3_allRight_2 at H
  refine J_iload_n 2 dX3_allRight_2 rfl rfl ?_
  refine J_aload_n 0 dX3_allRight_3 rfl rfl ?_
  obtain ⟨g1, H⟩ := gd H
  refine J_getI 2 0 dX3_allRight_4 g1 flX3_9 rfl ?_
  refine J_icmp_ge 67 dX3_allRight_7 rfl (fun q2 => ?_) (fun q2 => ?_)
  · replace H := br1 q2 H
    refine J_iconst (1 : Int32) dX3_allRight_67 kc_1 ?_
    cases H
    cases hx _ rfl
    exact J_rZ dX3_allRight_68 rfl rfl
  · replace H := br0 q2 H
    refine J_iconst (0 : Int32) dX3_allRight_10 kc_0 ?_
    refine J_istore_n 3 dX3_allRight_11 rfl (by decide) (ls' := [.ref v0, .ref v1, .int v2, .int (0 : Int32), Value.null]) rfl ?_
    exact J_dr (kX3_allRight_12 H hb0 hx) ⟨rfl, ⟨rfl, ⟨rfl, ⟨rfl, trivial⟩⟩⟩⟩
noncomputable def MX3_allRight_2 (h : Hp) (v0 : Nat) (v1 : Nat) (v2 : Int32) : Option (Int32 × Hp) := it (fun q : Int32 × Hp => BX3_allRight_2 q.2 v0 v1 q.1) (v2, h)
set_option maxRecDepth 100000 in
set_option maxHeartbeats 8000000 in
theorem kX3_allRight_2 {d : Nat} {h : Hp} {v0 : Nat} {v1 : Nat} {v2 : Int32} {r : Int32} {h9 : Hp} (H : MX3_allRight_2 h v0 v1 v2 = some (r, h9)) : J (d + 4) YX3_allRight 2 [.ref v0, .ref v1, .int v2, Value.null, Value.null] [] h (oI r) h9 := by
  unfold MX3_allRight_2 at H
  refine it_J (G := (fun q : Int32 × Hp => J (d + 4) YX3_allRight 2 [.ref v0, .ref v1, .int q.1, Value.null, Value.null] [] q.2 (oI r) h9)) (Q := (fun y : (Int32 × Hp) => y = (r, h9))) (fun q x Hq hm => ?_) H rfl
  exact bX3_allRight_2 Hq (fun s hs => by subst hs; exact hm) (fun z hz => by subst hz; exact hm)
noncomputable def MX3_allRight (h : Hp) (v0 : Nat) (v1 : Nat) : Option (Int32 × Hp) :=
  MX3_allRight_2 h v0 v1 (0 : Int32)
set_option maxRecDepth 100000 in
set_option maxHeartbeats 8000000 in
theorem eX3_allRight {d : Nat} {h : Hp} {v0 : Nat} {v1 : Nat} {r : Int32} {h9 : Hp} (H : MX3_allRight h v0 v1 = some (r, h9)) : J (d + 4) YX3_allRight 0 [.ref v0, .ref v1, Value.null, Value.null, Value.null] [] h (oI r) h9 := by
  unfold MX3_allRight at H
  refine J_iconst (0 : Int32) dX3_allRight_0 kc_0 ?_
  refine J_istore_n 2 dX3_allRight_1 rfl (by decide) (ls' := [.ref v0, .ref v1, .int (0 : Int32), Value.null, Value.null]) rfl ?_
  exact J_dr (kX3_allRight_2 H ) ⟨rfl, ⟨rfl, ⟨rfl, trivial⟩⟩⟩
theorem okX3_allRight {d : Nat} {h : Hp} {v0 : Nat} {v1 : Nat} {r : Int32} {h9 : Hp} (H : MX3_allRight h v0 v1 = some (r, h9)) : CT (d + 4) YX3_allRight [.ref v0, .ref v1] h (oI r) h9 := CT_of (by decide +kernel) (Nat.le_of_ble_eq_true rfl) (eX3_allRight H)
noncomputable def MX9_lastClose_32 (h : Hp) (v0 : Nat) (v2 : Int32) : Option Int32 :=
  gg (β := Int32) (kd h v0 = 8) <|
  gg (β := Int32) (kd h (gP h v0 4) = 20) <|
  gg (β := Int32) (inB v2 (ln h (gP h v0 4)) = true) <|
  some (gI h (gP h v0 4) v2.toNatClampNeg)
set_option maxRecDepth 100000 in
set_option maxHeartbeats 8000000 in
theorem kX9_lastClose_32 {d : Nat} {h : Hp} {v0 : Nat} {v2 : Int32} {r : Int32} (H : MX9_lastClose_32 h v0 v2 = some r) : J (d) YX9_lastClose 32 [.ref v0, Value.null, .int v2] [] h (oI r) h := by
  unfold MX9_lastClose_32 at H
  refine J_aload_n 0 dX9_lastClose_32 rfl rfl ?_
  obtain ⟨g10, H⟩ := gd H
  refine J_gP 8 4 dX9_lastClose_33 g10 flX9_25 rfl rfl ?_
  refine J_iload_n 2 dX9_lastClose_36 rfl rfl ?_
  obtain ⟨g11, H⟩ := gd H
  obtain ⟨g12, H⟩ := gd H
  refine J_iald dX9_lastClose_37 g11 (inB_ok g12) ?_
  cases H
  exact J_iretI dX9_lastClose_38 rfl
noncomputable def BX9_lastClose_7 (h : Hp) (v0 : Nat) (v1 : Int32) (v2 : Int32) : Option ((Int32) ⊕ Int32) :=
  if v2 < 0 then
    some (.inr ((-1 : Int32)))
  else
    gg (β := ((Int32) ⊕ Int32)) (kd h v0 = 8) <|
    gg (β := ((Int32) ⊕ Int32)) (kd h (gP h v0 2) = 20) <|
    gg (β := ((Int32) ⊕ Int32)) (inB v2 (ln h (gP h v0 2)) = true) <|
    if (gI h (gP h v0 2) v2.toNatClampNeg) = (6 : Int32) then
      gg (β := ((Int32) ⊕ Int32)) (kd h (gP h v0 3) = 20) <|
      gg (β := ((Int32) ⊕ Int32)) (inB v2 (ln h (gP h v0 3)) = true) <|
      if (gI h (gP h v0 3) v2.toNatClampNeg) = v1 then
        up1 (MX9_lastClose_32 h v0 v2)
      else
        some (.inl (v2 + (-1 : Int32)))
    else
      some (.inl (v2 + (-1 : Int32)))
set_option maxRecDepth 100000 in
set_option maxHeartbeats 8000000 in
theorem bX9_lastClose_7 {d : Nat} {h : Hp} {v0 : Nat} {v1 : Int32} {v2 : Int32} {r : Int32} {x : ((Int32) ⊕ Int32)} (H : BX9_lastClose_7 h v0 v1 v2 = some x) (hb0 : ∀ s : Int32, x = .inl s → J (d) YX9_lastClose 7 [.ref v0, .int v1, .int s] [] h (oI r) h) (hx : ∀ z : Int32, x = .inr (z) → z = r) : J (d) YX9_lastClose 7 [.ref v0, .int v1, .int v2] [] h (oI r) h := by
  unfold BX9_lastClose_7 at H
  refine J_iload_n 2 dX9_lastClose_7 rfl rfl ?_
  refine J_if_lt 45 dX9_lastClose_8 rfl (fun q2 => ?_) (fun q2 => ?_)
  · replace H := br1 q2 H
    refine J_iconst (-1 : Int32) dX9_lastClose_45 kc_m1 ?_
    cases H
    cases hx _ rfl
    exact J_iretI dX9_lastClose_46 rfl
  · replace H := br0 q2 H
    refine J_aload_n 0 dX9_lastClose_11 rfl rfl ?_
    obtain ⟨g3, H⟩ := gd H
    refine J_gP 8 2 dX9_lastClose_12 g3 flX9_18 rfl rfl ?_
    refine J_iload_n 2 dX9_lastClose_15 rfl rfl ?_
    obtain ⟨g4, H⟩ := gd H
    obtain ⟨g5, H⟩ := gd H
    refine J_iald dX9_lastClose_16 g4 (inB_ok g5) ?_
    refine J_bipush (6 : Int32) dX9_lastClose_17 kb_6 ?_
    refine J_icmp_ne 39 dX9_lastClose_19 rfl (fun q6 => ?_) (fun q6 => ?_)
    · replace H := br0 q6 H
      refine J_iinc (v2 + (-1 : Int32)) dX9_lastClose_39 rfl (congrArg (HAdd.hAdd v2) kc_m1) (by decide) (ls' := [.ref v0, .int v1, .int (v2 + (-1 : Int32))]) rfl ?_
      refine J_goto 7 dX9_lastClose_42 rfl ?_
      cases H
      exact J_dr (hb0 _ rfl) ⟨rfl, ⟨rfl, ⟨rfl, trivial⟩⟩⟩
    · replace H := br1 q6 H
      refine J_aload_n 0 dX9_lastClose_22 rfl rfl ?_
      refine J_gP 8 3 dX9_lastClose_23 g3 flX9_22 rfl rfl ?_
      refine J_iload_n 2 dX9_lastClose_26 rfl rfl ?_
      obtain ⟨g7, H⟩ := gd H
      obtain ⟨g8, H⟩ := gd H
      refine J_iald dX9_lastClose_27 g7 (inB_ok g8) ?_
      refine J_iload_n 1 dX9_lastClose_28 rfl rfl ?_
      refine J_icmp_ne 39 dX9_lastClose_29 rfl (fun q9 => ?_) (fun q9 => ?_)
      · replace H := br0 q9 H
        refine J_iinc (v2 + (-1 : Int32)) dX9_lastClose_39 rfl (congrArg (HAdd.hAdd v2) kc_m1) (by decide) (ls' := [.ref v0, .int v1, .int (v2 + (-1 : Int32))]) rfl ?_
        refine J_goto 7 dX9_lastClose_42 rfl ?_
        cases H
        exact J_dr (hb0 _ rfl) ⟨rfl, ⟨rfl, ⟨rfl, trivial⟩⟩⟩
      · replace H := br1 q9 H
        obtain ⟨y0, H90, rfl⟩ := up1_el H
        replace H := H90
        obtain rfl := hx _ rfl
        exact J_dr (kX9_lastClose_32 H ) ⟨rfl, ⟨rfl, trivial⟩⟩
noncomputable def MX9_lastClose_7 (h : Hp) (v0 : Nat) (v1 : Int32) (v2 : Int32) : Option Int32 := it (fun q : Int32 => BX9_lastClose_7 h v0 v1 q) (v2)
set_option maxRecDepth 100000 in
set_option maxHeartbeats 8000000 in
theorem kX9_lastClose_7 {d : Nat} {h : Hp} {v0 : Nat} {v1 : Int32} {v2 : Int32} {r : Int32} (H : MX9_lastClose_7 h v0 v1 v2 = some r) : J (d) YX9_lastClose 7 [.ref v0, .int v1, .int v2] [] h (oI r) h := by
  unfold MX9_lastClose_7 at H
  refine it_J (G := (fun q : Int32 => J (d) YX9_lastClose 7 [.ref v0, .int v1, .int q] [] h (oI r) h)) (Q := (fun y : Int32 => y = r)) (fun q x Hq hm => ?_) H rfl
  exact bX9_lastClose_7 Hq (fun s hs => by subst hs; exact hm) (fun z hz => by subst hz; exact hm)
noncomputable def MX9_lastClose (h : Hp) (v0 : Nat) (v1 : Int32) : Option Int32 :=
  gg (β := Int32) (kd h v0 = 8) <|
  MX9_lastClose_7 h v0 v1 ((gI h v0 1) - (1 : Int32))
set_option maxRecDepth 100000 in
set_option maxHeartbeats 8000000 in
theorem eX9_lastClose {d : Nat} {h : Hp} {v0 : Nat} {v1 : Int32} {r : Int32} (H : MX9_lastClose h v0 v1 = some r) : J (d) YX9_lastClose 0 [.ref v0, .int v1, Value.null] [] h (oI r) h := by
  unfold MX9_lastClose at H
  refine J_aload_n 0 dX9_lastClose_0 rfl rfl ?_
  obtain ⟨g1, H⟩ := gd H
  refine J_getI 8 1 dX9_lastClose_1 g1 flX9_15 rfl ?_
  refine J_iconst (1 : Int32) dX9_lastClose_4 kc_1 ?_
  refine J_isub dX9_lastClose_5 ?_
  refine J_istore_n 2 dX9_lastClose_6 rfl (by decide) (ls' := [.ref v0, .int v1, .int ((gI h v0 1) - (1 : Int32))]) rfl ?_
  exact J_dr (kX9_lastClose_7 H ) ⟨rfl, ⟨rfl, ⟨rfl, trivial⟩⟩⟩
theorem okX9_lastClose {d : Nat} {h : Hp} {v0 : Nat} {v1 : Int32} {r : Int32} (H : MX9_lastClose h v0 v1 = some r) : CT (d) YX9_lastClose [.ref v0, .int v1] h (oI r) h := CT_of (by decide +kernel) (Nat.le_of_ble_eq_true rfl) (eX9_lastClose H)
noncomputable def MX7_lateOf (h : Hp) (v0 : Nat) (v1 : Int32) : Option (Int32 × Hp) :=
  gg (β := (Int32 × Hp)) (kd h v0 = 6) <|
  b2 (α := Nat) (β := Hp) (γ := (Int32 × Hp)) (MX7_styleAt h v0 (gI h v0 0)) fun (t4 : Nat) (h3 : Hp) =>
  gg (β := (Int32 × Hp)) (kd h3 t4 = 8) <|
  Option.bind (α := Int32) (β := (Int32 × Hp)) (MX9_lastClose h3 t4 v1) fun (t7 : Int32) =>
  if t7 = (-1 : Int32) then
    some ((0 : Int32), h3)
  else
    gg (β := (Int32 × Hp)) (kd h3 v0 = 6) <|
    some ((jmax (0 : Int32) ((gI h3 v0 0) - t7)), h3)
set_option maxRecDepth 100000 in
set_option maxHeartbeats 8000000 in
theorem eX7_lateOf {d : Nat} {h : Hp} {v0 : Nat} {v1 : Int32} {r : Int32} {h9 : Hp} (H : MX7_lateOf h v0 v1 = some (r, h9)) : J (d + 3) YX7_lateOf 0 [.ref v0, .int v1, Value.null] [] h (oI r) h9 := by
  unfold MX7_lateOf at H
  refine J_aload_n 0 dX7_lateOf_0 rfl rfl ?_
  refine J_aload_n 0 dX7_lateOf_1 rfl rfl ?_
  obtain ⟨g1, H⟩ := gd H
  refine J_getI 6 0 dX7_lateOf_2 g1 flX7_9 rfl ?_
  obtain ⟨t4, h3, e2, H⟩ := b2_el H
  refine J_cV (as := [.int (gI h v0 0)]) 6 YX7_styleAt 1 dX7_lateOf_5 moX7_styleAt mvX7_styleAt mlX7_145 g1 rfl rfl (okX7_styleAt (d := d) e2) rfl rfl [] rfl rfl (st2 := [.ref t4]) rfl ?_
  refine J_iload_n 1 dX7_lateOf_8 rfl rfl ?_
  obtain ⟨g6, H⟩ := gd H
  obtain ⟨t7, e5, H⟩ := bd H
  refine J_cV (as := [.int v1]) 8 YX9_lastClose 1 dX7_lateOf_9 moX9_lastClose mvX9_lastClose mlX7_189 g6 rfl rfl (okX9_lastClose (d := d + 2) e5) rfl rfl [] rfl rfl (st2 := [.int t7]) rfl ?_
  refine J_istore_n 2 dX7_lateOf_12 rfl (by decide) (ls' := [.ref v0, .int v1, .int t7]) rfl ?_
  refine J_iload_n 2 dX7_lateOf_13 rfl rfl ?_
  refine J_iconst (-1 : Int32) dX7_lateOf_14 kc_m1 ?_
  refine J_icmp_ne 22 dX7_lateOf_15 rfl (fun q8 => ?_) (fun q8 => ?_)
  · replace H := br0 q8 H
    refine J_iconst (0 : Int32) dX7_lateOf_22 kc_0 ?_
    refine J_aload_n 0 dX7_lateOf_23 rfl rfl ?_
    obtain ⟨g9, H⟩ := gd H
    refine J_getI 6 0 dX7_lateOf_24 g9 flX7_9 rfl ?_
    refine J_iload_n 2 dX7_lateOf_27 rfl rfl ?_
    refine J_isub dX7_lateOf_28 ?_
    refine J_mx dX7_lateOf_29 mlX7_193 rfl ?_
    cases H
    exact J_iretI dX7_lateOf_32 rfl
  · replace H := br1 q8 H
    refine J_iconst (0 : Int32) dX7_lateOf_18 kc_0 ?_
    refine J_goto 32 dX7_lateOf_19 rfl ?_
    cases H
    exact J_iretI dX7_lateOf_32 rfl
theorem okX7_lateOf {d : Nat} {h : Hp} {v0 : Nat} {v1 : Int32} {r : Int32} {h9 : Hp} (H : MX7_lateOf h v0 v1 = some (r, h9)) : CT (d + 3) YX7_lateOf [.ref v0, .int v1] h (oI r) h9 := CT_of (by decide +kernel) (Nat.le_of_ble_eq_true rfl) (eX7_lateOf H)
noncomputable def MX11_lock_126 (h : Hp) (v0 : Nat) (v1 : Int32) (v3 : Int32) : Option ((Int32 ⊕ Nat) × Hp) :=
  gg (β := ((Int32 ⊕ Nat) × Hp)) (kd h v0 = 10) <|
  gg (β := ((Int32 ⊕ Nat) × Hp)) (kd h (gP h v0 6) = 1) <|
  gg (β := ((Int32 ⊕ Nat) × Hp)) (kd h (gP h v0 5) = 6) <|
  gg (β := ((Int32 ⊕ Nat) × Hp)) (kd h (gP h (gP h v0 6) 2) = 20) <|
  gg (β := ((Int32 ⊕ Nat) × Hp)) (inB v1 (ln h (gP h (gP h v0 6) 2)) = true) <|
  lt (α := Hp) (β := Option ((Int32 ⊕ Nat) × Hp)) (sI h (gP h (gP h v0 6) 2) v1.toNatClampNeg (gI h (gP h v0 5) 0)) fun (h27 : Hp) =>
  b2 (α := Int32) (β := Hp) (γ := ((Int32 ⊕ Nat) × Hp)) (MX7_lateOf h27 (gP h v0 5) v1) fun (t34 : Int32) (h33 : Hp) =>
  gg (β := ((Int32 ⊕ Nat) × Hp)) (kd h33 (gP h (gP h v0 6) 3) = 20) <|
  gg (β := ((Int32 ⊕ Nat) × Hp)) (inB v1 (ln h33 (gP h (gP h v0 6) 3)) = true) <|
  lt (α := Hp) (β := Option ((Int32 ⊕ Nat) × Hp)) (sI h33 (gP h (gP h v0 6) 3) v1.toNatClampNeg t34) fun (h37 : Hp) =>
  gg (β := ((Int32 ⊕ Nat) × Hp)) (kd h33 v0 = 10) <|
  gg (β := ((Int32 ⊕ Nat) × Hp)) (kd h33 (gP h33 v0 6) = 1) <|
  gg (β := ((Int32 ⊕ Nat) × Hp)) (kd h33 (gP h33 (gP h33 v0 6) 5) = 20) <|
  gg (β := ((Int32 ⊕ Nat) × Hp)) (inB v3 (ln h33 (gP h33 (gP h33 v0 6) 5)) = true) <|
  some (.inl (gI h37 (gP h33 (gP h33 v0 6) 5) v3.toNatClampNeg), h37)
set_option maxRecDepth 100000 in
set_option maxHeartbeats 8000000 in
theorem kX11_lock_126 {d : Nat} {h : Hp} {v0 : Nat} {v1 : Int32} {v3 : Int32} {r : Int32 ⊕ Nat} {h9 : Hp} (H : MX11_lock_126 h v0 v1 v3 = some (r, h9)) : J (d + 63) YX11_lock 126 [.ref v0, .int v1, Value.null, .int v3, Value.null, Value.null] [] h (oT r) h9 := by
  unfold MX11_lock_126 at H
  refine J_aload_n 0 dX11_lock_126 rfl rfl ?_
  obtain ⟨g22, H⟩ := gd H
  refine J_gP 10 6 dX11_lock_127 g22 flX11_46 rfl rfl ?_
  obtain ⟨g23, H⟩ := gd H
  refine J_gP 1 2 dX11_lock_130 g23 flX11_422 rfl rfl ?_
  refine J_iload_n 1 dX11_lock_133 rfl rfl ?_
  refine J_aload_n 0 dX11_lock_134 rfl rfl ?_
  refine J_gP 10 5 dX11_lock_135 g22 flX11_39 rfl rfl ?_
  obtain ⟨g24, H⟩ := gd H
  refine J_getI 6 0 dX11_lock_138 g24 flX11_117 rfl ?_
  obtain ⟨g25, H⟩ := gd H
  obtain ⟨g26, H⟩ := gd H
  obtain ⟨h27, e28, H⟩ := lt_el H
  refine J_sI dX11_lock_141 g25 (inB_ok g26) e28 ?_
  have c29 := ekI e28
  have c30 := elI e28
  have c31 := epI e28
  refine J_aload_n 0 dX11_lock_142 rfl rfl ?_
  refine J_gP 10 6 dX11_lock_143 (kq c29 g22) flX11_46 rfl (congrFun (congrFun c31 v0) 6) ?_
  refine J_gP 1 3 dX11_lock_146 (kq c29 g23) flX11_425 rfl (congrFun (congrFun c31 (gP h v0 6)) 3) ?_
  refine J_iload_n 1 dX11_lock_149 rfl rfl ?_
  refine J_aload_n 0 dX11_lock_150 rfl rfl ?_
  refine J_gP 10 5 dX11_lock_151 (kq c29 g22) flX11_39 rfl (congrFun (congrFun c31 v0) 5) ?_
  refine J_iload_n 1 dX11_lock_154 rfl rfl ?_
  obtain ⟨t34, h33, e32, H⟩ := b2_el H
  refine J_cV (as := [.int v1]) 6 YX7_lateOf 1 dX11_lock_155 moX7_lateOf mvX7_lateOf mlX11_428 (kq c29 g24) rfl rfl (okX7_lateOf (d := d + 59) e32) rfl rfl [.int v1, .ref (gP h (gP h v0 6) 3)] rfl rfl (st2 := [.int t34, .int v1, .ref (gP h (gP h v0 6) 3)]) rfl ?_
  obtain ⟨g35, H⟩ := gd H
  obtain ⟨g36, H⟩ := gd H
  obtain ⟨h37, e38, H⟩ := lt_el H
  refine J_sI dX11_lock_158 g35 (inB_ok g36) e38 ?_
  have c39 := ekI e38
  have c40 := elI e38
  have c41 := epI e38
  refine J_aload_n 0 dX11_lock_159 rfl rfl ?_
  obtain ⟨g42, H⟩ := gd H
  refine J_gP 10 6 dX11_lock_160 (kq c39 g42) flX11_46 rfl (congrFun (congrFun c41 v0) 6) ?_
  obtain ⟨g43, H⟩ := gd H
  refine J_gP 1 5 dX11_lock_163 (kq c39 g43) flX11_431 rfl (congrFun (congrFun c41 (gP h33 v0 6)) 5) ?_
  refine J_iload_n 3 dX11_lock_166 rfl rfl ?_
  obtain ⟨g44, H⟩ := gd H
  obtain ⟨g45, H⟩ := gd H
  refine J_iald dX11_lock_167 (kq c39 g44) (lq c40 g45) ?_
  cases H
  exact J_iretI dX11_lock_168 rfl
noncomputable def BX11_lock_62 (h : Hp) (v0 : Nat) (v1 : Int32) (v3 : Int32) (v4 : Int32) (v5 : Int32) : Option ((Int32 × Hp) ⊕ ((Int32 × Hp) ⊕ ((Int32 ⊕ Nat) × Hp))) :=
  gg (β := ((Int32 × Hp) ⊕ ((Int32 × Hp) ⊕ ((Int32 ⊕ Nat) × Hp)))) (kd h v0 = 10) <|
  gg (β := ((Int32 × Hp) ⊕ ((Int32 × Hp) ⊕ ((Int32 ⊕ Nat) × Hp)))) (kd h (gP h v0 7) = 2) <|
  if (gI h (gP h v0 7) 0) ≤ v5 then
    some (.inr (.inl ((v4 + (1 : Int32)), h)))
  else
    gg (β := ((Int32 × Hp) ⊕ ((Int32 × Hp) ⊕ ((Int32 ⊕ Nat) × Hp)))) (kd h (gP h (gP h v0 7) 3) = 20) <|
    gg (β := ((Int32 × Hp) ⊕ ((Int32 × Hp) ⊕ ((Int32 ⊕ Nat) × Hp)))) (inB v5 (ln h (gP h (gP h v0 7) 3)) = true) <|
    if (gI h (gP h (gP h v0 7) 3) v5.toNatClampNeg) = v4 then
      gg (β := ((Int32 × Hp) ⊕ ((Int32 × Hp) ⊕ ((Int32 ⊕ Nat) × Hp)))) (kd h (gP h (gP h v0 7) 2) = 20) <|
      gg (β := ((Int32 × Hp) ⊕ ((Int32 × Hp) ⊕ ((Int32 ⊕ Nat) × Hp)))) (inB v5 (ln h (gP h (gP h v0 7) 2)) = true) <|
      gg (β := ((Int32 × Hp) ⊕ ((Int32 × Hp) ⊕ ((Int32 ⊕ Nat) × Hp)))) (kd h (gP h (gP h v0 7) 4) = 20) <|
      gg (β := ((Int32 × Hp) ⊕ ((Int32 × Hp) ⊕ ((Int32 ⊕ Nat) × Hp)))) (inB v5 (ln h (gP h (gP h v0 7) 4)) = true) <|
      Option.bind (α := Hp) (β := ((Int32 × Hp) ⊕ ((Int32 × Hp) ⊕ ((Int32 ⊕ Nat) × Hp)))) (MX11_layStory h v0 v3 (gI h (gP h (gP h v0 7) 2) v5.toNatClampNeg) (gI h (gP h (gP h v0 7) 4) v5.toNatClampNeg)) fun (h57 : Hp) =>
      some (.inl ((v5 + (1 : Int32)), h57))
    else
      some (.inl ((v5 + (1 : Int32)), h))
set_option maxRecDepth 100000 in
set_option maxHeartbeats 8000000 in
theorem bX11_lock_62 {d : Nat} {h : Hp} {v0 : Nat} {v1 : Int32} {v3 : Int32} {v4 : Int32} {v5 : Int32} {r : Int32 ⊕ Nat} {h9 : Hp} {x : ((Int32 × Hp) ⊕ ((Int32 × Hp) ⊕ ((Int32 ⊕ Nat) × Hp)))} (H : BX11_lock_62 h v0 v1 v3 v4 v5 = some x) (hb0 : ∀ s : Int32 × Hp, x = .inl s → J (d + 63) YX11_lock 62 [.ref v0, .int v1, Value.null, .int v3, .int v4, .int s.1] [] s.2 (oT r) h9) (hb1 : ∀ s : Int32 × Hp, x = .inr (.inl s) → J (d + 63) YX11_lock 45 [.ref v0, .int v1, Value.null, .int v3, .int s.1, Value.null] [] s.2 (oT r) h9) (hx : ∀ z : ((Int32 ⊕ Nat) × Hp), x = .inr (.inr (z)) → z = (r, h9)) : J (d + 63) YX11_lock 62 [.ref v0, .int v1, Value.null, .int v3, .int v4, .int v5] [] h (oT r) h9 := by
  unfold BX11_lock_62 at H
  refine J_iload dX11_lock_62 rfl ?_
  refine J_aload_n 0 dX11_lock_64 rfl rfl ?_
  obtain ⟨g46, H⟩ := gd H
  refine J_gP 10 7 dX11_lock_65 g46 flX11_53 rfl rfl ?_
  obtain ⟨g47, H⟩ := gd H
  refine J_getI 2 0 dX11_lock_68 g47 flX11_414 rfl ?_
  refine J_icmp_ge 120 dX11_lock_71 rfl (fun q48 => ?_) (fun q48 => ?_)
  · replace H := br1 q48 H
    refine J_iinc (v4 + (1 : Int32)) dX11_lock_120 rfl (congrArg (HAdd.hAdd v4) kc_1) (by decide) (ls' := [.ref v0, .int v1, Value.null, .int v3, .int (v4 + (1 : Int32)), .int v5]) rfl ?_
    refine J_goto 45 dX11_lock_123 rfl ?_
    cases H
    exact J_dr (hb1 _ rfl) ⟨rfl, ⟨rfl, ⟨rfl, ⟨rfl, trivial⟩⟩⟩⟩
  · replace H := br0 q48 H
    refine J_aload_n 0 dX11_lock_74 rfl rfl ?_
    refine J_gP 10 7 dX11_lock_75 g46 flX11_53 rfl rfl ?_
    refine J_gP 2 3 dX11_lock_78 g47 flX11_404 rfl rfl ?_
    refine J_iload dX11_lock_81 rfl ?_
    obtain ⟨g49, H⟩ := gd H
    obtain ⟨g50, H⟩ := gd H
    refine J_iald dX11_lock_83 g49 (inB_ok g50) ?_
    refine J_iload dX11_lock_84 rfl ?_
    refine J_icmp_ne 114 dX11_lock_86 rfl (fun q51 => ?_) (fun q51 => ?_)
    · replace H := br0 q51 H
      refine J_iinc (v5 + (1 : Int32)) dX11_lock_114 rfl (congrArg (HAdd.hAdd v5) kc_1) (by decide) (ls' := [.ref v0, .int v1, Value.null, .int v3, .int v4, .int (v5 + (1 : Int32))]) rfl ?_
      refine J_goto 62 dX11_lock_117 rfl ?_
      cases H
      exact J_dr (hb0 _ rfl) ⟨rfl, ⟨rfl, ⟨rfl, ⟨rfl, ⟨rfl, trivial⟩⟩⟩⟩⟩
    · replace H := br1 q51 H
      refine J_aload_n 0 dX11_lock_89 rfl rfl ?_
      refine J_iload_n 3 dX11_lock_90 rfl rfl ?_
      refine J_aload_n 0 dX11_lock_91 rfl rfl ?_
      refine J_gP 10 7 dX11_lock_92 g46 flX11_53 rfl rfl ?_
      refine J_gP 2 2 dX11_lock_95 g47 flX11_417 rfl rfl ?_
      refine J_iload dX11_lock_98 rfl ?_
      obtain ⟨g52, H⟩ := gd H
      obtain ⟨g53, H⟩ := gd H
      refine J_iald dX11_lock_100 g52 (inB_ok g53) ?_
      refine J_aload_n 0 dX11_lock_101 rfl rfl ?_
      refine J_gP 10 7 dX11_lock_102 g46 flX11_53 rfl rfl ?_
      refine J_gP 2 4 dX11_lock_105 g47 flX11_401 rfl rfl ?_
      refine J_iload dX11_lock_108 rfl ?_
      obtain ⟨g54, H⟩ := gd H
      obtain ⟨g55, H⟩ := gd H
      refine J_iald dX11_lock_110 g54 (inB_ok g55) ?_
      obtain ⟨h57, e56, H⟩ := bd H
      refine J_cV (as := [.int v3, .int (gI h (gP h (gP h v0 7) 2) v5.toNatClampNeg), .int (gI h (gP h (gP h v0 7) 4) v5.toNatClampNeg)]) 10 YX11_layStory 3 dX11_lock_111 moX11_layStory mvX11_layStory mlX11_419 g46 rfl rfl (okX11_layStory (d := d + 60) e56) rfl rfl [] rfl rfl (st2 := []) rfl ?_
      refine J_iinc (v5 + (1 : Int32)) dX11_lock_114 rfl (congrArg (HAdd.hAdd v5) kc_1) (by decide) (ls' := [.ref v0, .int v1, Value.null, .int v3, .int v4, .int (v5 + (1 : Int32))]) rfl ?_
      refine J_goto 62 dX11_lock_117 rfl ?_
      cases H
      exact J_dr (hb0 _ rfl) ⟨rfl, ⟨rfl, ⟨rfl, ⟨rfl, ⟨rfl, trivial⟩⟩⟩⟩⟩
noncomputable def MX11_lock_62 (h : Hp) (v0 : Nat) (v1 : Int32) (v3 : Int32) (v4 : Int32) (v5 : Int32) : Option ((Int32 × Hp) ⊕ ((Int32 ⊕ Nat) × Hp)) := it (fun q : Int32 × Hp => BX11_lock_62 q.2 v0 v1 v3 v4 q.1) (v5, h)
set_option maxRecDepth 100000 in
set_option maxHeartbeats 8000000 in
theorem kX11_lock_62 {d : Nat} {h : Hp} {v0 : Nat} {v1 : Int32} {v3 : Int32} {v4 : Int32} {v5 : Int32} {r : Int32 ⊕ Nat} {h9 : Hp} {x : ((Int32 × Hp) ⊕ ((Int32 ⊕ Nat) × Hp))} (H : MX11_lock_62 h v0 v1 v3 v4 v5 = some x) (hb0 : ∀ s : Int32 × Hp, x = .inl s → J (d + 63) YX11_lock 45 [.ref v0, .int v1, Value.null, .int v3, .int s.1, Value.null] [] s.2 (oT r) h9) (hx : ∀ z : ((Int32 ⊕ Nat) × Hp), x = .inr (z) → z = (r, h9)) : J (d + 63) YX11_lock 62 [.ref v0, .int v1, Value.null, .int v3, .int v4, .int v5] [] h (oT r) h9 := by
  unfold MX11_lock_62 at H
  refine it_J (G := (fun q : Int32 × Hp => J (d + 63) YX11_lock 62 [.ref v0, .int v1, Value.null, .int v3, .int v4, .int q.1] [] q.2 (oT r) h9)) (Q := (fun y : ((Int32 × Hp) ⊕ ((Int32 ⊕ Nat) × Hp)) => (∀ s : Int32 × Hp, y = .inl s → J (d + 63) YX11_lock 45 [.ref v0, .int v1, Value.null, .int v3, .int s.1, Value.null] [] s.2 (oT r) h9) ∧ (∀ z : ((Int32 ⊕ Nat) × Hp), y = .inr (z) → z = (r, h9)))) (fun q x Hq hm => ?_) H ⟨hb0, hx⟩
  exact bX11_lock_62 Hq (fun s hs => by subst hs; exact hm) (fun s hs => by subst hs; exact (hm.1) s rfl) (fun z hz => by subst hz; exact (hm.2) z rfl)
noncomputable def BX11_lock_45 (h : Hp) (v0 : Nat) (v1 : Int32) (v3 : Int32) (v4 : Int32) : Option ((Int32 × Hp) ⊕ ((Int32 ⊕ Nat) × Hp)) :=
  gg (β := ((Int32 × Hp) ⊕ ((Int32 ⊕ Nat) × Hp))) (kd h v0 = 10) <|
  gg (β := ((Int32 × Hp) ⊕ ((Int32 ⊕ Nat) × Hp))) (kd h (gP h v0 6) = 1) <|
  gg (β := ((Int32 × Hp) ⊕ ((Int32 ⊕ Nat) × Hp))) (kd h (gP h (gP h v0 6) 0) = 20) <|
  gg (β := ((Int32 × Hp) ⊕ ((Int32 ⊕ Nat) × Hp))) (inB v1 (ln h (gP h (gP h v0 6) 0)) = true) <|
  if (gI h (gP h (gP h v0 6) 0) v1.toNatClampNeg) ≤ v4 then
    up1 (MX11_lock_126 h v0 v1 v3)
  else
    MX11_lock_62 h v0 v1 v3 v4 (0 : Int32)
set_option maxRecDepth 100000 in
set_option maxHeartbeats 8000000 in
theorem bX11_lock_45 {d : Nat} {h : Hp} {v0 : Nat} {v1 : Int32} {v3 : Int32} {v4 : Int32} {r : Int32 ⊕ Nat} {h9 : Hp} {x : ((Int32 × Hp) ⊕ ((Int32 ⊕ Nat) × Hp))} (H : BX11_lock_45 h v0 v1 v3 v4 = some x) (hb0 : ∀ s : Int32 × Hp, x = .inl s → J (d + 63) YX11_lock 45 [.ref v0, .int v1, Value.null, .int v3, .int s.1, Value.null] [] s.2 (oT r) h9) (hx : ∀ z : ((Int32 ⊕ Nat) × Hp), x = .inr (z) → z = (r, h9)) : J (d + 63) YX11_lock 45 [.ref v0, .int v1, Value.null, .int v3, .int v4, Value.null] [] h (oT r) h9 := by
  unfold BX11_lock_45 at H
  refine J_iload dX11_lock_45 rfl ?_
  refine J_aload_n 0 dX11_lock_47 rfl rfl ?_
  obtain ⟨g17, H⟩ := gd H
  refine J_gP 10 6 dX11_lock_48 g17 flX11_46 rfl rfl ?_
  obtain ⟨g18, H⟩ := gd H
  refine J_gP 1 0 dX11_lock_51 g18 flX11_385 rfl rfl ?_
  refine J_iload_n 1 dX11_lock_54 rfl rfl ?_
  obtain ⟨g19, H⟩ := gd H
  obtain ⟨g20, H⟩ := gd H
  refine J_iald dX11_lock_55 g19 (inB_ok g20) ?_
  refine J_icmp_ge 126 dX11_lock_56 rfl (fun q21 => ?_) (fun q21 => ?_)
  · replace H := br1 q21 H
    obtain ⟨y0, H90, rfl⟩ := up1_el H
    replace H := H90
    obtain rfl := hx _ rfl
    exact J_dr (kX11_lock_126 H ) ⟨rfl, ⟨rfl, ⟨rfl, trivial⟩⟩⟩
  · replace H := br0 q21 H
    refine J_iconst (0 : Int32) dX11_lock_59 kc_0 ?_
    refine J_istore dX11_lock_60 (by decide) (ls' := [.ref v0, .int v1, Value.null, .int v3, .int v4, .int (0 : Int32)]) rfl ?_
    exact J_dr (kX11_lock_62 H hb0 hx) ⟨rfl, ⟨rfl, ⟨rfl, ⟨rfl, ⟨rfl, trivial⟩⟩⟩⟩⟩
noncomputable def MX11_lock_45 (h : Hp) (v0 : Nat) (v1 : Int32) (v3 : Int32) (v4 : Int32) : Option ((Int32 ⊕ Nat) × Hp) := it (fun q : Int32 × Hp => BX11_lock_45 q.2 v0 v1 v3 q.1) (v4, h)
set_option maxRecDepth 100000 in
set_option maxHeartbeats 8000000 in
theorem kX11_lock_45 {d : Nat} {h : Hp} {v0 : Nat} {v1 : Int32} {v3 : Int32} {v4 : Int32} {r : Int32 ⊕ Nat} {h9 : Hp} (H : MX11_lock_45 h v0 v1 v3 v4 = some (r, h9)) : J (d + 63) YX11_lock 45 [.ref v0, .int v1, Value.null, .int v3, .int v4, Value.null] [] h (oT r) h9 := by
  unfold MX11_lock_45 at H
  refine it_J (G := (fun q : Int32 × Hp => J (d + 63) YX11_lock 45 [.ref v0, .int v1, Value.null, .int v3, .int q.1, Value.null] [] q.2 (oT r) h9)) (Q := (fun y : ((Int32 ⊕ Nat) × Hp) => y = (r, h9))) (fun q x Hq hm => ?_) H rfl
  exact bX11_lock_45 Hq (fun s hs => by subst hs; exact hm) (fun z hz => by subst hz; exact hm)
noncomputable def MX11_lock (h : Hp) (v0 : Nat) (v1 : Int32) (v2 : Int32) : Option ((Int32 ⊕ Nat) × Hp) :=
  gg (β := ((Int32 ⊕ Nat) × Hp)) (kd h v0 = 10) <|
  bT (α := Unit) (β := Int32) (MX11_findFit h v0 v1 v2) fun (t3 : Unit) (h4 : Hp) =>
  gg (β := ((Int32 ⊕ Nat) × Hp)) (kd h4 v0 = 10) <|
  gg (β := ((Int32 ⊕ Nat) × Hp)) (kd h4 (gP h4 v0 7) = 2) <|
  if (gI h4 (gP h4 v0 7) 1) = (-1 : Int32) then
    some (.inl (-1 : Int32), h4)
  else
    b2 (α := Int32) (β := Hp) (γ := ((Int32 ⊕ Nat) × Hp)) (MX3_allRight h4 (gP h4 v0 7) (gP h4 v0 5)) fun (t10 : Int32) (h9 : Hp) =>
    if t10 = 0 then
      some (.inl (-1 : Int32), h9)
    else
      gg (β := ((Int32 ⊕ Nat) × Hp)) (kd h9 v0 = 10) <|
      gg (β := ((Int32 ⊕ Nat) × Hp)) (kd h9 (gP h9 v0 6) = 1) <|
      b2 (α := Int32) (β := Hp) (γ := ((Int32 ⊕ Nat) × Hp)) (MX2_emptyRow h9 (gP h9 v0 6) v1) fun (t16 : Int32) (h15 : Hp) =>
      MX11_lock_45 h15 v0 v1 t16 (0 : Int32)
set_option maxRecDepth 100000 in
set_option maxHeartbeats 8000000 in
theorem eX11_lock {d : Nat} {h : Hp} {v0 : Nat} {v1 : Int32} {v2 : Int32} {r : Int32 ⊕ Nat} {h9 : Hp} (H : MX11_lock h v0 v1 v2 = some (r, h9)) : J (d + 63) YX11_lock 0 [.ref v0, .int v1, .int v2, Value.null, Value.null, Value.null] [] h (oT r) h9 := by
  unfold MX11_lock at H
  refine J_aload_n 0 dX11_lock_0 rfl rfl ?_
  refine J_iload_n 1 dX11_lock_1 rfl rfl ?_
  refine J_iload_n 2 dX11_lock_2 rfl rfl ?_
  obtain ⟨g2, H⟩ := gd H
  rcases bT_el H with ⟨t3, h4, e1, H⟩ | ⟨t3, h4, e1, H⟩
  rotate_left
  · cases H
    exact J_cVX (as := [.int v1, .int v2]) 10 YX11_findFit 2 dX11_lock_3 moX11_findFit mvX11_findFit mlX11_391 g2 rfl rfl (okX11_findFit (d := d) e1) rfl rfl [] rfl rfl
  refine J_cV (as := [.int v1, .int v2]) 10 YX11_findFit 2 dX11_lock_3 moX11_findFit mvX11_findFit mlX11_391 g2 rfl rfl (okX11_findFit (d := d) e1) rfl rfl [] rfl rfl (st2 := []) rfl ?_
  refine J_aload_n 0 dX11_lock_6 rfl rfl ?_
  obtain ⟨g5, H⟩ := gd H
  refine J_gP 10 7 dX11_lock_7 g5 flX11_53 rfl rfl ?_
  obtain ⟨g6, H⟩ := gd H
  refine J_getI 2 1 dX11_lock_10 g6 flX11_395 rfl ?_
  refine J_iconst (-1 : Int32) dX11_lock_13 kc_m1 ?_
  refine J_icmp_eq 31 dX11_lock_14 rfl (fun q7 => ?_) (fun q7 => ?_)
  · replace H := br1 q7 H
    refine J_iconst (-1 : Int32) dX11_lock_31 kc_m1 ?_
    cases H
    exact J_iretI dX11_lock_32 rfl
  · replace H := br0 q7 H
    refine J_aload_n 0 dX11_lock_17 rfl rfl ?_
    refine J_gP 10 7 dX11_lock_18 g5 flX11_53 rfl rfl ?_
    refine J_aload_n 0 dX11_lock_21 rfl rfl ?_
    refine J_gP 10 5 dX11_lock_22 g5 flX11_39 rfl rfl ?_
    obtain ⟨t10, h9, e8, H⟩ := b2_el H
    refine J_cV (as := [.ref (gP h4 v0 5)]) 2 YX3_allRight 1 dX11_lock_25 moX3_allRight mvX3_allRight mlX11_407 g6 rfl rfl (okX3_allRight (d := d + 58) e8) rfl rfl [] rfl rfl (st2 := [.int t10]) rfl ?_
    refine J_if_ne 33 dX11_lock_28 rfl (fun q11 => ?_) (fun q11 => ?_)
    · replace H := br0 q11 H
      refine J_aload_n 0 dX11_lock_33 rfl rfl ?_
      obtain ⟨g12, H⟩ := gd H
      refine J_gP 10 6 dX11_lock_34 g12 flX11_46 rfl rfl ?_
      refine J_iload_n 1 dX11_lock_37 rfl rfl ?_
      obtain ⟨g14, H⟩ := gd H
      obtain ⟨t16, h15, e13, H⟩ := b2_el H
      refine J_cV (as := [.int v1]) 1 YX2_emptyRow 1 dX11_lock_38 moX2_emptyRow mvX2_emptyRow mlX11_411 g14 rfl rfl (okX2_emptyRow (d := d + 62) e13) rfl rfl [] rfl rfl (st2 := [.int t16]) rfl ?_
      refine J_istore_n 3 dX11_lock_41 rfl (by decide) (ls' := [.ref v0, .int v1, .int v2, .int t16, Value.null, Value.null]) rfl ?_
      refine J_iconst (0 : Int32) dX11_lock_42 kc_0 ?_
      refine J_istore dX11_lock_43 (by decide) (ls' := [.ref v0, .int v1, .int v2, .int t16, .int (0 : Int32), Value.null]) rfl ?_
      exact J_dr (kX11_lock_45 H ) ⟨rfl, ⟨rfl, ⟨rfl, ⟨rfl, trivial⟩⟩⟩⟩
    · replace H := br1 q11 H
      refine J_iconst (-1 : Int32) dX11_lock_31 kc_m1 ?_
      cases H
      exact J_iretI dX11_lock_32 rfl
theorem okX11_lock {d : Nat} {h : Hp} {v0 : Nat} {v1 : Int32} {v2 : Int32} {r : Int32 ⊕ Nat} {h9 : Hp} (H : MX11_lock h v0 v1 v2 = some (r, h9)) : CT (d + 63) YX11_lock [.ref v0, .int v1, .int v2] h (oT r) h9 := CT_of (by decide +kernel) (Nat.le_of_ble_eq_true rfl) (eX11_lock H)
noncomputable def MX11_locked (h : Hp) (v0 : Nat) (v1 : Int32) (v2 : Int32) : Option ((Int32 ⊕ Nat) × Hp) :=
  Option.bind (α := Int32) (β := ((Int32 ⊕ Nat) × Hp)) (MX11_isPage h v1) fun (t2 : Int32) =>
  if t2 = 0 then
    some (.inr 1, bmp h 1 6)
  else
    if v2 = (0 : Int32) then
      gg (β := ((Int32 ⊕ Nat) × Hp)) (kd h v0 = 10) <|
      gg (β := ((Int32 ⊕ Nat) × Hp)) (kd h (gP h v0 6) = 1) <|
      gg (β := ((Int32 ⊕ Nat) × Hp)) (kd h (gP h (gP h v0 6) 5) = 20) <|
      gg (β := ((Int32 ⊕ Nat) × Hp)) (inB v1 (ln h (gP h (gP h v0 6) 5)) = true) <|
      some (.inl (gI h (gP h (gP h v0 6) 5) v1.toNatClampNeg), h)
    else
    if v2 = (1 : Int32) then
      gg (β := ((Int32 ⊕ Nat) × Hp)) (kd h v0 = 10) <|
      gg (β := ((Int32 ⊕ Nat) × Hp)) (kd h (gP h v0 6) = 1) <|
      gg (β := ((Int32 ⊕ Nat) × Hp)) (kd h (gP h (gP h v0 6) 2) = 20) <|
      gg (β := ((Int32 ⊕ Nat) × Hp)) (inB v1 (ln h (gP h (gP h v0 6) 2)) = true) <|
      some (.inl (gI h (gP h (gP h v0 6) 2) v1.toNatClampNeg), h)
    else
    if v2 = (2 : Int32) then
      gg (β := ((Int32 ⊕ Nat) × Hp)) (kd h v0 = 10) <|
      gg (β := ((Int32 ⊕ Nat) × Hp)) (kd h (gP h v0 6) = 1) <|
      gg (β := ((Int32 ⊕ Nat) × Hp)) (kd h (gP h (gP h v0 6) 3) = 20) <|
      gg (β := ((Int32 ⊕ Nat) × Hp)) (inB v1 (ln h (gP h (gP h v0 6) 3)) = true) <|
      some (.inl (gI h (gP h (gP h v0 6) 3) v1.toNatClampNeg), h)
    else
    if v2 = (3 : Int32) then
      gg (β := ((Int32 ⊕ Nat) × Hp)) (kd h v0 = 10) <|
      gg (β := ((Int32 ⊕ Nat) × Hp)) (kd h (gP h v0 6) = 1) <|
      gg (β := ((Int32 ⊕ Nat) × Hp)) (kd h (gP h (gP h v0 6) 0) = 20) <|
      gg (β := ((Int32 ⊕ Nat) × Hp)) (inB v1 (ln h (gP h (gP h v0 6) 0)) = true) <|
      some (.inl (gI h (gP h (gP h v0 6) 0) v1.toNatClampNeg), h)
    else
    if v2 = (4 : Int32) then
      gg (β := ((Int32 ⊕ Nat) × Hp)) (kd h v0 = 10) <|
      gg (β := ((Int32 ⊕ Nat) × Hp)) (kd h (gP h v0 6) = 1) <|
      gg (β := ((Int32 ⊕ Nat) × Hp)) (kd h (gP h (gP h v0 6) 1) = 20) <|
      gg (β := ((Int32 ⊕ Nat) × Hp)) (inB v1 (ln h (gP h (gP h v0 6) 1)) = true) <|
      some (.inl (gI h (gP h (gP h v0 6) 1) v1.toNatClampNeg), h)
    else
      some (.inr 4, bmp h 1 6)
set_option maxRecDepth 100000 in
set_option maxHeartbeats 8000000 in
theorem eX11_locked {d : Nat} {h : Hp} {v0 : Nat} {v1 : Int32} {v2 : Int32} {r : Int32 ⊕ Nat} {h9 : Hp} (H : MX11_locked h v0 v1 v2 = some (r, h9)) : J (d + 1) YX11_locked 0 [.ref v0, .int v1, .int v2] [] h (oT r) h9 := by
  unfold MX11_locked at H
  refine J_iload_n 1 dX11_locked_0 rfl rfl ?_
  obtain ⟨t2, e1, H⟩ := bd H
  refine J_cS (as := [.int v1]) YX11_isPage 1 dX11_locked_1 moX11_isPage msX11_isPage mlX11_382 (okX11_isPage (d := d) e1) rfl rfl [] rfl rfl (st2 := [.int t2]) rfl ?_
  refine J_if_ne 15 dX11_locked_4 rfl (fun q3 => ?_) (fun q3 => ?_)
  · replace H := br0 q3 H
    refine J_iload_n 2 dX11_locked_15 rfl rfl ?_
    by_cases q1000 : v2 = (0 : Int32)
    · replace H := br1 q1000 H
      refine J_tab 52 dX11_locked_16 q1000 (by decide) rfl rfl ?_
      refine J_aload_n 0 dX11_locked_52 rfl rfl ?_
      obtain ⟨g4, H⟩ := gd H
      refine J_gP 10 6 dX11_locked_53 g4 flX11_46 rfl rfl ?_
      obtain ⟨g5, H⟩ := gd H
      refine J_gP 1 5 dX11_locked_56 g5 flX11_431 rfl rfl ?_
      refine J_iload_n 1 dX11_locked_59 rfl rfl ?_
      obtain ⟨g6, H⟩ := gd H
      obtain ⟨g7, H⟩ := gd H
      refine J_iald dX11_locked_60 g6 (inB_ok g7) ?_
      cases H
      exact J_iretI dX11_locked_61 rfl
    replace H := br0 q1000 H
    by_cases q1001 : v2 = (1 : Int32)
    · replace H := br1 q1001 H
      refine J_tab 62 dX11_locked_16 q1001 (by decide) rfl rfl ?_
      refine J_aload_n 0 dX11_locked_62 rfl rfl ?_
      obtain ⟨g8, H⟩ := gd H
      refine J_gP 10 6 dX11_locked_63 g8 flX11_46 rfl rfl ?_
      obtain ⟨g9, H⟩ := gd H
      refine J_gP 1 2 dX11_locked_66 g9 flX11_422 rfl rfl ?_
      refine J_iload_n 1 dX11_locked_69 rfl rfl ?_
      obtain ⟨g10, H⟩ := gd H
      obtain ⟨g11, H⟩ := gd H
      refine J_iald dX11_locked_70 g10 (inB_ok g11) ?_
      cases H
      exact J_iretI dX11_locked_71 rfl
    replace H := br0 q1001 H
    by_cases q1002 : v2 = (2 : Int32)
    · replace H := br1 q1002 H
      refine J_tab 72 dX11_locked_16 q1002 (by decide) rfl rfl ?_
      refine J_aload_n 0 dX11_locked_72 rfl rfl ?_
      obtain ⟨g12, H⟩ := gd H
      refine J_gP 10 6 dX11_locked_73 g12 flX11_46 rfl rfl ?_
      obtain ⟨g13, H⟩ := gd H
      refine J_gP 1 3 dX11_locked_76 g13 flX11_425 rfl rfl ?_
      refine J_iload_n 1 dX11_locked_79 rfl rfl ?_
      obtain ⟨g14, H⟩ := gd H
      obtain ⟨g15, H⟩ := gd H
      refine J_iald dX11_locked_80 g14 (inB_ok g15) ?_
      cases H
      exact J_iretI dX11_locked_81 rfl
    replace H := br0 q1002 H
    by_cases q1003 : v2 = (3 : Int32)
    · replace H := br1 q1003 H
      refine J_tab 82 dX11_locked_16 q1003 (by decide) rfl rfl ?_
      refine J_aload_n 0 dX11_locked_82 rfl rfl ?_
      obtain ⟨g16, H⟩ := gd H
      refine J_gP 10 6 dX11_locked_83 g16 flX11_46 rfl rfl ?_
      obtain ⟨g17, H⟩ := gd H
      refine J_gP 1 0 dX11_locked_86 g17 flX11_385 rfl rfl ?_
      refine J_iload_n 1 dX11_locked_89 rfl rfl ?_
      obtain ⟨g18, H⟩ := gd H
      obtain ⟨g19, H⟩ := gd H
      refine J_iald dX11_locked_90 g18 (inB_ok g19) ?_
      cases H
      exact J_iretI dX11_locked_91 rfl
    replace H := br0 q1003 H
    by_cases q1004 : v2 = (4 : Int32)
    · replace H := br1 q1004 H
      refine J_tab 92 dX11_locked_16 q1004 (by decide) rfl rfl ?_
      refine J_aload_n 0 dX11_locked_92 rfl rfl ?_
      obtain ⟨g20, H⟩ := gd H
      refine J_gP 10 6 dX11_locked_93 g20 flX11_46 rfl rfl ?_
      obtain ⟨g21, H⟩ := gd H
      refine J_gP 1 1 dX11_locked_96 g21 flX11_388 rfl rfl ?_
      refine J_iload_n 1 dX11_locked_99 rfl rfl ?_
      obtain ⟨g22, H⟩ := gd H
      obtain ⟨g23, H⟩ := gd H
      refine J_iald dX11_locked_100 g22 (inB_ok g23) ?_
      cases H
      exact J_iretI dX11_locked_101 rfl
    replace H := br0 q1004 H
    refine J_tab0 5 102 dX11_locked_16 rfl (fun k hk => ?_) rfl rfl ?_
    · match k, hk with
      | 0, _ => exact q1000
      | 1, _ => exact q1001
      | 2, _ => exact q1002
      | 3, _ => exact q1003
      | 4, _ => exact q1004
      | k + 5, hk => exact absurd hk (by omega)
    · cases H
      exact J_throw 4 ["java/lang/RuntimeException", "java/lang/Exception"] dX11_locked_102 dX11_locked_105 dX11_locked_106 dX11_locked_109 th_174 clX11_172 (Nat.le_of_ble_eq_true rfl)
  · replace H := br1 q3 H
    cases H
    exact J_throw 1 ["java/lang/RuntimeException", "java/lang/Exception"] dX11_locked_7 dX11_locked_10 dX11_locked_11 dX11_locked_14 th_86 clX11_84 (Nat.le_of_ble_eq_true rfl)
theorem okX11_locked {d : Nat} {h : Hp} {v0 : Nat} {v1 : Int32} {v2 : Int32} {r : Int32 ⊕ Nat} {h9 : Hp} (H : MX11_locked h v0 v1 v2 = some (r, h9)) : CT (d + 1) YX11_locked [.ref v0, .int v1, .int v2] h (oT r) h9 := CT_of (by decide +kernel) (Nat.le_of_ble_eq_true rfl) (eX11_locked H)
noncomputable def MX4_empty_21 (h : Hp) (v0 : Nat) (v2 : Int32) : Option Hp :=
  gg (β := Hp) (kd h v0 = 3) <|
  lt (α := Hp) (β := Option Hp) (sI h v0 1 v2) fun (h3 : Hp) =>
  lt (α := Hp) (β := Option Hp) (sI h3 v0 2 (0 : Int32)) fun (h8 : Hp) =>
  lt (α := Hp) (β := Option Hp) (sI h8 v0 3 (0 : Int32)) fun (h13 : Hp) =>
  lt (α := Hp) (β := Option Hp) (sI h13 v0 4 (0 : Int32)) fun (h18 : Hp) =>
  lt (α := Hp) (β := Option Hp) (sI h18 v0 5 (0 : Int32)) fun (h23 : Hp) =>
  lt (α := Hp) (β := Option Hp) (sI h23 v0 6 (0 : Int32)) fun (h28 : Hp) =>
  some h28
set_option maxRecDepth 100000 in
set_option maxHeartbeats 8000000 in
theorem kX4_empty_21 {d : Nat} {h : Hp} {v0 : Nat} {v2 : Int32} {h9 : Hp} (H : MX4_empty_21 h v0 v2 = some h9) : J (d) YX4_empty 21 [.ref v0, Value.null, .int v2, Value.null] [] h oV h9 := by
  unfold MX4_empty_21 at H
  refine J_aload_n 0 dX4_empty_21 rfl rfl ?_
  refine J_iload_n 2 dX4_empty_22 rfl rfl ?_
  obtain ⟨g2, H⟩ := gd H
  obtain ⟨h3, e4, H⟩ := lt_el H
  refine J_pI 3 1 dX4_empty_23 g2 flX4_15 rfl rfl e4 ?_
  have c5 := ekI e4
  have c6 := elI e4
  have c7 := epI e4
  refine J_aload_n 0 dX4_empty_26 rfl rfl ?_
  refine J_iconst (0 : Int32) dX4_empty_27 kc_0 ?_
  obtain ⟨h8, e9, H⟩ := lt_el H
  refine J_pZ 3 2 dX4_empty_28 (kq c5 g2) flX4_19 rfl rfl rfl e9 ?_
  have c10 := (ekI e9).trans c5
  have c11 := (elI e9).trans c6
  have c12 := (epI e9).trans c7
  refine J_aload_n 0 dX4_empty_31 rfl rfl ?_
  refine J_iconst (0 : Int32) dX4_empty_32 kc_0 ?_
  obtain ⟨h13, e14, H⟩ := lt_el H
  refine J_pI 3 3 dX4_empty_33 (kq c10 g2) flX4_23 rfl rfl e14 ?_
  have c15 := (ekI e14).trans c10
  have c16 := (elI e14).trans c11
  have c17 := (epI e14).trans c12
  refine J_aload_n 0 dX4_empty_36 rfl rfl ?_
  refine J_iconst (0 : Int32) dX4_empty_37 kc_0 ?_
  obtain ⟨h18, e19, H⟩ := lt_el H
  refine J_pI 3 4 dX4_empty_38 (kq c15 g2) flX4_26 rfl rfl e19 ?_
  have c20 := (ekI e19).trans c15
  have c21 := (elI e19).trans c16
  have c22 := (epI e19).trans c17
  refine J_aload_n 0 dX4_empty_41 rfl rfl ?_
  refine J_iconst (0 : Int32) dX4_empty_42 kc_0 ?_
  obtain ⟨h23, e24, H⟩ := lt_el H
  refine J_pI 3 5 dX4_empty_43 (kq c20 g2) flX4_29 rfl rfl e24 ?_
  have c25 := (ekI e24).trans c20
  have c26 := (elI e24).trans c21
  have c27 := (epI e24).trans c22
  refine J_aload_n 0 dX4_empty_46 rfl rfl ?_
  refine J_iconst (0 : Int32) dX4_empty_47 kc_0 ?_
  obtain ⟨h28, e29, H⟩ := lt_el H
  refine J_pI 3 6 dX4_empty_48 (kq c25 g2) flX4_32 rfl rfl e29 ?_
  have c30 := (ekI e29).trans c25
  have c31 := (elI e29).trans c26
  have c32 := (epI e29).trans c27
  cases H
  exact J_ret dX4_empty_51 rfl
noncomputable def BX4_empty_2 (h : Hp) (v0 : Nat) (v1 : Int32) (v2 : Int32) (v3 : Int32) : Option ((Int32 × Hp) ⊕ Hp) :=
  if (27 : Int32) ≤ v3 then
    up1 (MX4_empty_21 h v0 v2)
  else
    gg (β := ((Int32 × Hp) ⊕ Hp)) (kd h v0 = 3) <|
    gg (β := ((Int32 × Hp) ⊕ Hp)) (kd h (gP h v0 0) = 20) <|
    gg (β := ((Int32 × Hp) ⊕ Hp)) (inB v3 (ln h (gP h v0 0)) = true) <|
    lt (α := Hp) (β := Option ((Int32 × Hp) ⊕ Hp)) (sI h (gP h v0 0) v3.toNatClampNeg v1) fun (h36 : Hp) =>
    some (.inl ((v3 + (1 : Int32)), h36))
set_option maxRecDepth 100000 in
set_option maxHeartbeats 8000000 in
theorem bX4_empty_2 {d : Nat} {h : Hp} {v0 : Nat} {v1 : Int32} {v2 : Int32} {v3 : Int32} {h9 : Hp} {x : ((Int32 × Hp) ⊕ Hp)} (H : BX4_empty_2 h v0 v1 v2 v3 = some x) (hb0 : ∀ s : Int32 × Hp, x = .inl s → J (d) YX4_empty 2 [.ref v0, .int v1, .int v2, .int s.1] [] s.2 oV h9) (hx : ∀ z : Hp, x = .inr (z) → z = h9) : J (d) YX4_empty 2 [.ref v0, .int v1, .int v2, .int v3] [] h oV h9 := by
  unfold BX4_empty_2 at H
  refine J_iload_n 3 dX4_empty_2 rfl rfl ?_
  refine J_bipush (27 : Int32) dX4_empty_3 kb_27 ?_
  refine J_icmp_ge 21 dX4_empty_5 rfl (fun q1 => ?_) (fun q1 => ?_)
  · replace H := br1 q1 H
    obtain ⟨y0, H90, rfl⟩ := up1_el H
    replace H := H90
    obtain rfl := hx _ rfl
    exact J_dr (kX4_empty_21 H ) ⟨rfl, ⟨rfl, trivial⟩⟩
  · replace H := br0 q1 H
    refine J_aload_n 0 dX4_empty_8 rfl rfl ?_
    obtain ⟨g33, H⟩ := gd H
    refine J_gP 3 0 dX4_empty_9 g33 flX4_9 rfl rfl ?_
    refine J_iload_n 3 dX4_empty_12 rfl rfl ?_
    refine J_iload_n 1 dX4_empty_13 rfl rfl ?_
    obtain ⟨g34, H⟩ := gd H
    obtain ⟨g35, H⟩ := gd H
    obtain ⟨h36, e37, H⟩ := lt_el H
    refine J_sI dX4_empty_14 g34 (inB_ok g35) e37 ?_
    have c38 := ekI e37
    have c39 := elI e37
    have c40 := epI e37
    refine J_iinc (v3 + (1 : Int32)) dX4_empty_15 rfl (congrArg (HAdd.hAdd v3) kc_1) (by decide) (ls' := [.ref v0, .int v1, .int v2, .int (v3 + (1 : Int32))]) rfl ?_
    refine J_goto 2 dX4_empty_18 rfl ?_
    cases H
    exact J_dr (hb0 _ rfl) ⟨rfl, ⟨rfl, ⟨rfl, ⟨rfl, trivial⟩⟩⟩⟩
noncomputable def MX4_empty_2 (h : Hp) (v0 : Nat) (v1 : Int32) (v2 : Int32) (v3 : Int32) : Option Hp := it (fun q : Int32 × Hp => BX4_empty_2 q.2 v0 v1 v2 q.1) (v3, h)
set_option maxRecDepth 100000 in
set_option maxHeartbeats 8000000 in
theorem kX4_empty_2 {d : Nat} {h : Hp} {v0 : Nat} {v1 : Int32} {v2 : Int32} {v3 : Int32} {h9 : Hp} (H : MX4_empty_2 h v0 v1 v2 v3 = some h9) : J (d) YX4_empty 2 [.ref v0, .int v1, .int v2, .int v3] [] h oV h9 := by
  unfold MX4_empty_2 at H
  refine it_J (G := (fun q : Int32 × Hp => J (d) YX4_empty 2 [.ref v0, .int v1, .int v2, .int q.1] [] q.2 oV h9)) (Q := (fun y : Hp => y = h9)) (fun q x Hq hm => ?_) H rfl
  exact bX4_empty_2 Hq (fun s hs => by subst hs; exact hm) (fun z hz => by subst hz; exact hm)
noncomputable def MX4_empty (h : Hp) (v0 : Nat) (v1 : Int32) (v2 : Int32) : Option Hp :=
  MX4_empty_2 h v0 v1 v2 (0 : Int32)
set_option maxRecDepth 100000 in
set_option maxHeartbeats 8000000 in
theorem eX4_empty {d : Nat} {h : Hp} {v0 : Nat} {v1 : Int32} {v2 : Int32} {h9 : Hp} (H : MX4_empty h v0 v1 v2 = some h9) : J (d) YX4_empty 0 [.ref v0, .int v1, .int v2, Value.null] [] h oV h9 := by
  unfold MX4_empty at H
  refine J_iconst (0 : Int32) dX4_empty_0 kc_0 ?_
  refine J_istore_n 3 dX4_empty_1 rfl (by decide) (ls' := [.ref v0, .int v1, .int v2, .int (0 : Int32)]) rfl ?_
  exact J_dr (kX4_empty_2 H ) ⟨rfl, ⟨rfl, ⟨rfl, ⟨rfl, trivial⟩⟩⟩⟩
theorem okX4_empty {d : Nat} {h : Hp} {v0 : Nat} {v1 : Int32} {v2 : Int32} {h9 : Hp} (H : MX4_empty h v0 v1 v2 = some h9) : CT (d) YX4_empty [.ref v0, .int v1, .int v2] h oV h9 := CT_of (by decide +kernel) (Nat.le_of_ble_eq_true rfl) (eX4_empty H)
noncomputable def MX7_addMachine (h : Hp) (v0 : Nat) (v1 : Int32) (v2 : Int32) : Option (Int32 × Hp) :=
  gg (β := (Int32 × Hp)) (kd h v0 = 6) <|
  b2 (α := Nat) (β := Hp) (γ := (Int32 × Hp)) (MX7_ownMachine h v0 (gI h v0 9)) fun (t4 : Nat) (h3 : Hp) =>
  gg (β := (Int32 × Hp)) (kd h3 t4 = 3) <|
  Option.bind (α := Hp) (β := (Int32 × Hp)) (MX4_empty h3 t4 v1 v2) fun (h7 : Hp) =>
  gg (β := (Int32 × Hp)) (kd h7 v0 = 6) <|
  lt (α := Hp) (β := Option (Int32 × Hp)) (sI h7 v0 9 ((gI h7 v0 9) + (1 : Int32))) fun (h9 : Hp) =>
  some (((gI h9 v0 9) - (1 : Int32)), h9)
set_option maxRecDepth 100000 in
set_option maxHeartbeats 8000000 in
theorem eX7_addMachine {d : Nat} {h : Hp} {v0 : Nat} {v1 : Int32} {v2 : Int32} {r : Int32} {h9 : Hp} (H : MX7_addMachine h v0 v1 v2 = some (r, h9)) : J (d + 2) YX7_addMachine 0 [.ref v0, .int v1, .int v2] [] h (oI r) h9 := by
  unfold MX7_addMachine at H
  refine J_aload_n 0 dX7_addMachine_0 rfl rfl ?_
  refine J_aload_n 0 dX7_addMachine_1 rfl rfl ?_
  obtain ⟨g1, H⟩ := gd H
  refine J_getI 6 9 dX7_addMachine_2 g1 flX7_51 rfl ?_
  obtain ⟨t4, h3, e2, H⟩ := b2_el H
  refine J_cV (as := [.int (gI h v0 9)]) 6 YX7_ownMachine 1 dX7_addMachine_5 moX7_ownMachine mvX7_ownMachine mlX7_106 g1 rfl rfl (okX7_ownMachine (d := d) e2) rfl rfl [] rfl rfl (st2 := [.ref t4]) rfl ?_
  refine J_iload_n 1 dX7_addMachine_8 rfl rfl ?_
  refine J_iload_n 2 dX7_addMachine_9 rfl rfl ?_
  obtain ⟨g6, H⟩ := gd H
  obtain ⟨h7, e5, H⟩ := bd H
  refine J_cV (as := [.int v1, .int v2]) 3 YX4_empty 2 dX7_addMachine_10 moX4_empty mvX4_empty mlX7_144 g6 rfl rfl (okX4_empty (d := d + 1) e5) rfl rfl [] rfl rfl (st2 := []) rfl ?_
  refine J_aload_n 0 dX7_addMachine_13 rfl rfl ?_
  refine J_dup dX7_addMachine_14 rfl ?_
  obtain ⟨g8, H⟩ := gd H
  refine J_getI 6 9 dX7_addMachine_15 g8 flX7_51 rfl ?_
  refine J_iconst (1 : Int32) dX7_addMachine_18 kc_1 ?_
  refine J_iadd dX7_addMachine_19 ?_
  obtain ⟨h9, e10, H⟩ := lt_el H
  refine J_pI 6 9 dX7_addMachine_20 g8 flX7_51 rfl rfl e10 ?_
  have c11 := ekI e10
  have c12 := elI e10
  have c13 := epI e10
  refine J_aload_n 0 dX7_addMachine_23 rfl rfl ?_
  refine J_getI 6 9 dX7_addMachine_24 (kq c11 g8) flX7_51 rfl ?_
  refine J_iconst (1 : Int32) dX7_addMachine_27 kc_1 ?_
  refine J_isub dX7_addMachine_28 ?_
  cases H
  exact J_iretI dX7_addMachine_29 rfl
theorem okX7_addMachine {d : Nat} {h : Hp} {v0 : Nat} {v1 : Int32} {v2 : Int32} {r : Int32} {h9 : Hp} (H : MX7_addMachine h v0 v1 v2 = some (r, h9)) : CT (d + 2) YX7_addMachine [.ref v0, .int v1, .int v2] h (oI r) h9 := CT_of (by decide +kernel) (Nat.le_of_ble_eq_true rfl) (eX7_addMachine H)
noncomputable def MX11_machine (h : Hp) (v0 : Nat) (v1 : Int32) (v2 : Int32) : Option ((Int32 ⊕ Nat) × Hp) :=
  Option.bind (α := Int32) (β := ((Int32 ⊕ Nat) × Hp)) (MX11_isBrasses h v1) fun (t2 : Int32) =>
  if t2 = 0 then
    some (.inr 2, bmp h 1 6)
  else
    if v2 < 0 then
      some (.inr 2, bmp h 1 6)
    else
      if v2 ≤ (9 : Int32) then
        gg (β := ((Int32 ⊕ Nat) × Hp)) (kd h v0 = 10) <|
        gg (β := ((Int32 ⊕ Nat) × Hp)) (kd h (gP h v0 5) = 6) <|
        if (gI h (gP h v0 5) 9) < (4 : Int32) then
          b2 (α := Int32) (β := Hp) (γ := ((Int32 ⊕ Nat) × Hp)) (MX7_addMachine h (gP h v0 5) v1 v2) fun (t11 : Int32) (h10 : Hp) =>
          some (.inl t11, h10)
        else
          some (.inr 3, bmp h 1 6)
      else
        some (.inr 2, bmp h 1 6)
set_option maxRecDepth 100000 in
set_option maxHeartbeats 8000000 in
theorem eX11_machine {d : Nat} {h : Hp} {v0 : Nat} {v1 : Int32} {v2 : Int32} {r : Int32 ⊕ Nat} {h9 : Hp} (H : MX11_machine h v0 v1 v2 = some (r, h9)) : J (d + 3) YX11_machine 0 [.ref v0, .int v1, .int v2] [] h (oT r) h9 := by
  unfold MX11_machine at H
  refine J_iload_n 1 dX11_machine_0 rfl rfl ?_
  obtain ⟨t2, e1, H⟩ := bd H
  refine J_cS (as := [.int v1]) YX11_isBrasses 1 dX11_machine_1 moX11_isBrasses msX11_isBrasses mlX11_221 (okX11_isBrasses (d := d + 2) e1) rfl rfl [] rfl rfl (st2 := [.int t2]) rfl ?_
  refine J_if_eq 17 dX11_machine_4 rfl (fun q3 => ?_) (fun q3 => ?_)
  · replace H := br1 q3 H
    cases H
    exact J_throw 2 ["java/lang/RuntimeException", "java/lang/Exception"] dX11_machine_17 dX11_machine_20 dX11_machine_21 dX11_machine_24 th_89 clX11_87 (Nat.le_of_ble_eq_true rfl)
  · replace H := br0 q3 H
    refine J_iload_n 2 dX11_machine_7 rfl rfl ?_
    refine J_if_lt 17 dX11_machine_8 rfl (fun q4 => ?_) (fun q4 => ?_)
    · replace H := br1 q4 H
      cases H
      exact J_throw 2 ["java/lang/RuntimeException", "java/lang/Exception"] dX11_machine_17 dX11_machine_20 dX11_machine_21 dX11_machine_24 th_89 clX11_87 (Nat.le_of_ble_eq_true rfl)
    · replace H := br0 q4 H
      refine J_iload_n 2 dX11_machine_11 rfl rfl ?_
      refine J_bipush (9 : Int32) dX11_machine_12 kb_9 ?_
      refine J_icmp_le 25 dX11_machine_14 rfl (fun q5 => ?_) (fun q5 => ?_)
      · replace H := br1 q5 H
        refine J_aload_n 0 dX11_machine_25 rfl rfl ?_
        obtain ⟨g6, H⟩ := gd H
        refine J_gP 10 5 dX11_machine_26 g6 flX11_39 rfl rfl ?_
        obtain ⟨g7, H⟩ := gd H
        refine J_getI 6 9 dX11_machine_29 g7 flX11_224 rfl ?_
        refine J_iconst (4 : Int32) dX11_machine_32 kc_4 ?_
        refine J_icmp_lt 44 dX11_machine_33 rfl (fun q8 => ?_) (fun q8 => ?_)
        · replace H := br1 q8 H
          refine J_aload_n 0 dX11_machine_44 rfl rfl ?_
          refine J_gP 10 5 dX11_machine_45 g6 flX11_39 rfl rfl ?_
          refine J_iload_n 1 dX11_machine_48 rfl rfl ?_
          refine J_iload_n 2 dX11_machine_49 rfl rfl ?_
          obtain ⟨t11, h10, e9, H⟩ := b2_el H
          refine J_cV (as := [.int v1, .int v2]) 6 YX7_addMachine 2 dX11_machine_50 moX7_addMachine mvX7_addMachine mlX11_227 g7 rfl rfl (okX7_addMachine (d := d) e9) rfl rfl [] rfl rfl (st2 := [.int t11]) rfl ?_
          cases H
          exact J_iretI dX11_machine_53 rfl
        · replace H := br0 q8 H
          cases H
          exact J_throw 3 ["java/lang/RuntimeException", "java/lang/Exception"] dX11_machine_36 dX11_machine_39 dX11_machine_40 dX11_machine_43 th_112 clX11_110 (Nat.le_of_ble_eq_true rfl)
      · replace H := br0 q5 H
        cases H
        exact J_throw 2 ["java/lang/RuntimeException", "java/lang/Exception"] dX11_machine_17 dX11_machine_20 dX11_machine_21 dX11_machine_24 th_89 clX11_87 (Nat.le_of_ble_eq_true rfl)
theorem okX11_machine {d : Nat} {h : Hp} {v0 : Nat} {v1 : Int32} {v2 : Int32} {r : Int32 ⊕ Nat} {h9 : Hp} (H : MX11_machine h v0 v1 v2 = some (r, h9)) : CT (d + 3) YX11_machine [.ref v0, .int v1, .int v2] h (oT r) h9 := CT_of (by decide +kernel) (Nat.le_of_ble_eq_true rfl) (eX11_machine H)
noncomputable def MX11_minutes_51 (h : Hp) (v0 : Nat) : Option ((Int32 ⊕ Nat) × Hp) :=
  gg (β := ((Int32 ⊕ Nat) × Hp)) (kd h v0 = 10) <|
  gg (β := ((Int32 ⊕ Nat) × Hp)) (kd h (gP h v0 5) = 6) <|
  some (.inl (gI h (gP h v0 5) 0), h)
set_option maxRecDepth 100000 in
set_option maxHeartbeats 8000000 in
theorem kX11_minutes_51 {d : Nat} {h : Hp} {v0 : Nat} {r : Int32 ⊕ Nat} {h9 : Hp} (H : MX11_minutes_51 h v0 = some (r, h9)) : J (d + 7) YX11_minutes 51 [.ref v0, Value.null, Value.null] [] h (oT r) h9 := by
  unfold MX11_minutes_51 at H
  refine J_aload_n 0 dX11_minutes_51 rfl rfl ?_
  obtain ⟨g4, H⟩ := gd H
  refine J_gP 10 5 dX11_minutes_52 g4 flX11_39 rfl rfl ?_
  obtain ⟨g5, H⟩ := gd H
  refine J_getI 6 0 dX11_minutes_55 g5 flX11_117 rfl ?_
  cases H
  exact J_iretI dX11_minutes_58 rfl
noncomputable def BX11_minutes_20 (h : Hp) (v0 : Nat) (v1 : Int32) (v2 : Int32) : Option ((Int32 × Hp) ⊕ ((Int32 ⊕ Nat) × Hp)) :=
  if v1 ≤ v2 then
    up1 (MX11_minutes_51 h v0)
  else
    gg (β := ((Int32 × Hp) ⊕ ((Int32 ⊕ Nat) × Hp))) (kd h v0 = 10) <|
    gg (β := ((Int32 × Hp) ⊕ ((Int32 ⊕ Nat) × Hp))) (kd h (gP h v0 5) = 6) <|
    if (600 : Int32) ≤ (gI h (gP h v0 5) 0) then
      up1 (MX11_minutes_51 h v0)
    else
      Option.bind (α := Hp) (β := ((Int32 × Hp) ⊕ ((Int32 ⊕ Nat) × Hp))) (MX7_passMinute h (gP h v0 5)) fun (h10 : Hp) =>
      some (.inl ((v2 + (1 : Int32)), h10))
set_option maxRecDepth 100000 in
set_option maxHeartbeats 8000000 in
theorem bX11_minutes_20 {d : Nat} {h : Hp} {v0 : Nat} {v1 : Int32} {v2 : Int32} {r : Int32 ⊕ Nat} {h9 : Hp} {x : ((Int32 × Hp) ⊕ ((Int32 ⊕ Nat) × Hp))} (H : BX11_minutes_20 h v0 v1 v2 = some x) (hb0 : ∀ s : Int32 × Hp, x = .inl s → J (d + 7) YX11_minutes 20 [.ref v0, .int v1, .int s.1] [] s.2 (oT r) h9) (hx : ∀ z : ((Int32 ⊕ Nat) × Hp), x = .inr (z) → z = (r, h9)) : J (d + 7) YX11_minutes 20 [.ref v0, .int v1, .int v2] [] h (oT r) h9 := by
  unfold BX11_minutes_20 at H
  refine J_iload_n 2 dX11_minutes_20 rfl rfl ?_
  refine J_iload_n 1 dX11_minutes_21 rfl rfl ?_
  refine J_icmp_ge 51 dX11_minutes_22 rfl (fun q3 => ?_) (fun q3 => ?_)
  · replace H := br1 q3 H
    obtain ⟨y0, H90, rfl⟩ := up1_el H
    replace H := H90
    obtain rfl := hx _ rfl
    exact J_dr (kX11_minutes_51 H ) ⟨rfl, trivial⟩
  · replace H := br0 q3 H
    refine J_aload_n 0 dX11_minutes_25 rfl rfl ?_
    obtain ⟨g6, H⟩ := gd H
    refine J_gP 10 5 dX11_minutes_26 g6 flX11_39 rfl rfl ?_
    obtain ⟨g7, H⟩ := gd H
    refine J_getI 6 0 dX11_minutes_29 g7 flX11_117 rfl ?_
    refine J_sipush (600 : Int32) dX11_minutes_32 ks_600 ?_
    refine J_icmp_ge 51 dX11_minutes_35 rfl (fun q8 => ?_) (fun q8 => ?_)
    · replace H := br1 q8 H
      obtain ⟨y0, H90, rfl⟩ := up1_el H
      replace H := H90
      obtain rfl := hx _ rfl
      exact J_dr (kX11_minutes_51 H ) ⟨rfl, trivial⟩
    · replace H := br0 q8 H
      refine J_aload_n 0 dX11_minutes_38 rfl rfl ?_
      refine J_gP 10 5 dX11_minutes_39 g6 flX11_39 rfl rfl ?_
      obtain ⟨h10, e9, H⟩ := bd H
      refine J_cV (as := []) 6 YX7_passMinute 0 dX11_minutes_42 moX7_passMinute mvX7_passMinute mlX11_265 g7 rfl rfl (okX7_passMinute (d := d) e9) rfl rfl [] rfl rfl (st2 := []) rfl ?_
      refine J_iinc (v2 + (1 : Int32)) dX11_minutes_45 rfl (congrArg (HAdd.hAdd v2) kc_1) (by decide) (ls' := [.ref v0, .int v1, .int (v2 + (1 : Int32))]) rfl ?_
      refine J_goto 20 dX11_minutes_48 rfl ?_
      cases H
      exact J_dr (hb0 _ rfl) ⟨rfl, ⟨rfl, ⟨rfl, trivial⟩⟩⟩
noncomputable def MX11_minutes_20 (h : Hp) (v0 : Nat) (v1 : Int32) (v2 : Int32) : Option ((Int32 ⊕ Nat) × Hp) := it (fun q : Int32 × Hp => BX11_minutes_20 q.2 v0 v1 q.1) (v2, h)
set_option maxRecDepth 100000 in
set_option maxHeartbeats 8000000 in
theorem kX11_minutes_20 {d : Nat} {h : Hp} {v0 : Nat} {v1 : Int32} {v2 : Int32} {r : Int32 ⊕ Nat} {h9 : Hp} (H : MX11_minutes_20 h v0 v1 v2 = some (r, h9)) : J (d + 7) YX11_minutes 20 [.ref v0, .int v1, .int v2] [] h (oT r) h9 := by
  unfold MX11_minutes_20 at H
  refine it_J (G := (fun q : Int32 × Hp => J (d + 7) YX11_minutes 20 [.ref v0, .int v1, .int q.1] [] q.2 (oT r) h9)) (Q := (fun y : ((Int32 ⊕ Nat) × Hp) => y = (r, h9))) (fun q x Hq hm => ?_) H rfl
  exact bX11_minutes_20 Hq (fun s hs => by subst hs; exact hm) (fun z hz => by subst hz; exact hm)
noncomputable def MX11_minutes (h : Hp) (v0 : Nat) (v1 : Int32) : Option ((Int32 ⊕ Nat) × Hp) :=
  if v1 < 0 then
    some (.inr 2, bmp h 1 6)
  else
    if v1 ≤ (120 : Int32) then
      MX11_minutes_20 h v0 v1 (0 : Int32)
    else
      some (.inr 2, bmp h 1 6)
set_option maxRecDepth 100000 in
set_option maxHeartbeats 8000000 in
theorem eX11_minutes {d : Nat} {h : Hp} {v0 : Nat} {v1 : Int32} {r : Int32 ⊕ Nat} {h9 : Hp} (H : MX11_minutes h v0 v1 = some (r, h9)) : J (d + 7) YX11_minutes 0 [.ref v0, .int v1, Value.null] [] h (oT r) h9 := by
  unfold MX11_minutes at H
  refine J_iload_n 1 dX11_minutes_0 rfl rfl ?_
  refine J_if_lt 10 dX11_minutes_1 rfl (fun q1 => ?_) (fun q1 => ?_)
  · replace H := br1 q1 H
    cases H
    exact J_throw 2 ["java/lang/RuntimeException", "java/lang/Exception"] dX11_minutes_10 dX11_minutes_13 dX11_minutes_14 dX11_minutes_17 th_89 clX11_87 (Nat.le_of_ble_eq_true rfl)
  · replace H := br0 q1 H
    refine J_iload_n 1 dX11_minutes_4 rfl rfl ?_
    refine J_bipush (120 : Int32) dX11_minutes_5 kb_120 ?_
    refine J_icmp_le 18 dX11_minutes_7 rfl (fun q2 => ?_) (fun q2 => ?_)
    · replace H := br1 q2 H
      refine J_iconst (0 : Int32) dX11_minutes_18 kc_0 ?_
      refine J_istore_n 2 dX11_minutes_19 rfl (by decide) (ls' := [.ref v0, .int v1, .int (0 : Int32)]) rfl ?_
      exact J_dr (kX11_minutes_20 H ) ⟨rfl, ⟨rfl, ⟨rfl, trivial⟩⟩⟩
    · replace H := br0 q2 H
      cases H
      exact J_throw 2 ["java/lang/RuntimeException", "java/lang/Exception"] dX11_minutes_10 dX11_minutes_13 dX11_minutes_14 dX11_minutes_17 th_89 clX11_87 (Nat.le_of_ble_eq_true rfl)
theorem okX11_minutes {d : Nat} {h : Hp} {v0 : Nat} {v1 : Int32} {r : Int32 ⊕ Nat} {h9 : Hp} (H : MX11_minutes h v0 v1 = some (r, h9)) : CT (d + 7) YX11_minutes [.ref v0, .int v1] h (oT r) h9 := CT_of (by decide +kernel) (Nat.le_of_ble_eq_true rfl) (eX11_minutes H)
noncomputable def MX11_page (h : Hp) (v0 : Nat) (v1 : Int32) (v2 : Int32) (v3 : Int32) : Option ((Unit ⊕ Nat) × Hp) :=
  Option.bind (α := Int32) (β := ((Unit ⊕ Nat) × Hp)) (MX11_isPage h v1) fun (t2 : Int32) =>
  if t2 = 0 then
    some (.inr 1, bmp h 1 6)
  else
    if v2 < (1 : Int32) then
      some (.inr 2, bmp h 1 6)
    else
      if (3 : Int32) < v2 then
        some (.inr 2, bmp h 1 6)
      else
        if v3 < (1 : Int32) then
          some (.inr 2, bmp h 1 6)
        else
          if v3 ≤ (60 : Int32) then
            gg (β := ((Unit ⊕ Nat) × Hp)) (kd h v0 = 10) <|
            gg (β := ((Unit ⊕ Nat) × Hp)) (kd h (gP h v0 6) = 1) <|
            gg (β := ((Unit ⊕ Nat) × Hp)) (kd h (gP h (gP h v0 6) 0) = 20) <|
            gg (β := ((Unit ⊕ Nat) × Hp)) (inB v1 (ln h (gP h (gP h v0 6) 0)) = true) <|
            lt (α := Hp) (β := Option ((Unit ⊕ Nat) × Hp)) (sI h (gP h (gP h v0 6) 0) v1.toNatClampNeg v2) fun (h12 : Hp) =>
            gg (β := ((Unit ⊕ Nat) × Hp)) (kd h (gP h (gP h v0 6) 1) = 20) <|
            gg (β := ((Unit ⊕ Nat) × Hp)) (inB v1 (ln h (gP h (gP h v0 6) 1)) = true) <|
            lt (α := Hp) (β := Option ((Unit ⊕ Nat) × Hp)) (sI h12 (gP h (gP h v0 6) 1) v1.toNatClampNeg v3) fun (h19 : Hp) =>
            some (.inl (), h19)
          else
            some (.inr 2, bmp h 1 6)
set_option maxRecDepth 100000 in
set_option maxHeartbeats 8000000 in
theorem eX11_page {d : Nat} {h : Hp} {v0 : Nat} {v1 : Int32} {v2 : Int32} {v3 : Int32} {r : Unit ⊕ Nat} {h9 : Hp} (H : MX11_page h v0 v1 v2 v3 = some (r, h9)) : J (d + 1) YX11_page 0 [.ref v0, .int v1, .int v2, .int v3] [] h (oU r) h9 := by
  unfold MX11_page at H
  refine J_iload_n 1 dX11_page_0 rfl rfl ?_
  obtain ⟨t2, e1, H⟩ := bd H
  refine J_cS (as := [.int v1]) YX11_isPage 1 dX11_page_1 moX11_isPage msX11_isPage mlX11_382 (okX11_isPage (d := d) e1) rfl rfl [] rfl rfl (st2 := [.int t2]) rfl ?_
  refine J_if_ne 15 dX11_page_4 rfl (fun q3 => ?_) (fun q3 => ?_)
  · replace H := br0 q3 H
    refine J_iload_n 2 dX11_page_15 rfl rfl ?_
    refine J_iconst (1 : Int32) dX11_page_16 kc_1 ?_
    refine J_icmp_lt 36 dX11_page_17 rfl (fun q4 => ?_) (fun q4 => ?_)
    · replace H := br1 q4 H
      cases H
      exact J_throw 2 ["java/lang/RuntimeException", "java/lang/Exception"] dX11_page_36 dX11_page_39 dX11_page_40 dX11_page_43 th_89 clX11_87 (Nat.le_of_ble_eq_true rfl)
    · replace H := br0 q4 H
      refine J_iload_n 2 dX11_page_20 rfl rfl ?_
      refine J_iconst (3 : Int32) dX11_page_21 kc_3 ?_
      refine J_icmp_gt 36 dX11_page_22 rfl (fun q5 => ?_) (fun q5 => ?_)
      · replace H := br1 q5 H
        cases H
        exact J_throw 2 ["java/lang/RuntimeException", "java/lang/Exception"] dX11_page_36 dX11_page_39 dX11_page_40 dX11_page_43 th_89 clX11_87 (Nat.le_of_ble_eq_true rfl)
      · replace H := br0 q5 H
        refine J_iload_n 3 dX11_page_25 rfl rfl ?_
        refine J_iconst (1 : Int32) dX11_page_26 kc_1 ?_
        refine J_icmp_lt 36 dX11_page_27 rfl (fun q6 => ?_) (fun q6 => ?_)
        · replace H := br1 q6 H
          cases H
          exact J_throw 2 ["java/lang/RuntimeException", "java/lang/Exception"] dX11_page_36 dX11_page_39 dX11_page_40 dX11_page_43 th_89 clX11_87 (Nat.le_of_ble_eq_true rfl)
        · replace H := br0 q6 H
          refine J_iload_n 3 dX11_page_30 rfl rfl ?_
          refine J_bipush (60 : Int32) dX11_page_31 kb_60 ?_
          refine J_icmp_le 44 dX11_page_33 rfl (fun q7 => ?_) (fun q7 => ?_)
          · replace H := br1 q7 H
            refine J_aload_n 0 dX11_page_44 rfl rfl ?_
            obtain ⟨g8, H⟩ := gd H
            refine J_gP 10 6 dX11_page_45 g8 flX11_46 rfl rfl ?_
            obtain ⟨g9, H⟩ := gd H
            refine J_gP 1 0 dX11_page_48 g9 flX11_385 rfl rfl ?_
            refine J_iload_n 1 dX11_page_51 rfl rfl ?_
            refine J_iload_n 2 dX11_page_52 rfl rfl ?_
            obtain ⟨g10, H⟩ := gd H
            obtain ⟨g11, H⟩ := gd H
            obtain ⟨h12, e13, H⟩ := lt_el H
            refine J_sI dX11_page_53 g10 (inB_ok g11) e13 ?_
            have c14 := ekI e13
            have c15 := elI e13
            have c16 := epI e13
            refine J_aload_n 0 dX11_page_54 rfl rfl ?_
            refine J_gP 10 6 dX11_page_55 (kq c14 g8) flX11_46 rfl (congrFun (congrFun c16 v0) 6) ?_
            refine J_gP 1 1 dX11_page_58 (kq c14 g9) flX11_388 rfl (congrFun (congrFun c16 (gP h v0 6)) 1) ?_
            refine J_iload_n 1 dX11_page_61 rfl rfl ?_
            refine J_iload_n 3 dX11_page_62 rfl rfl ?_
            obtain ⟨g17, H⟩ := gd H
            obtain ⟨g18, H⟩ := gd H
            obtain ⟨h19, e20, H⟩ := lt_el H
            refine J_sI dX11_page_63 (kq c14 g17) (lq c15 g18) e20 ?_
            have c21 := (ekI e20).trans c14
            have c22 := (elI e20).trans c15
            have c23 := (epI e20).trans c16
            cases H
            exact J_ret dX11_page_64 rfl
          · replace H := br0 q7 H
            cases H
            exact J_throw 2 ["java/lang/RuntimeException", "java/lang/Exception"] dX11_page_36 dX11_page_39 dX11_page_40 dX11_page_43 th_89 clX11_87 (Nat.le_of_ble_eq_true rfl)
  · replace H := br1 q3 H
    cases H
    exact J_throw 1 ["java/lang/RuntimeException", "java/lang/Exception"] dX11_page_7 dX11_page_10 dX11_page_11 dX11_page_14 th_86 clX11_84 (Nat.le_of_ble_eq_true rfl)
theorem okX11_page {d : Nat} {h : Hp} {v0 : Nat} {v1 : Int32} {v2 : Int32} {v3 : Int32} {r : Unit ⊕ Nat} {h9 : Hp} (H : MX11_page h v0 v1 v2 v3 = some (r, h9)) : CT (d + 1) YX11_page [.ref v0, .int v1, .int v2, .int v3] h (oU r) h9 := CT_of (by decide +kernel) (Nat.le_of_ble_eq_true rfl) (eX11_page H)
noncomputable def MX7_countLost_42 (h : Hp) (v0 : Nat) (v1 : Int32) (v3 : Int32) (s0 : Int32) (s1 : Int32) : Option ((Int32 × Int32 × Hp) ⊕ (Int32 × Hp)) :=
  some (.inl ((s0 + s1), (v3 + (1 : Int32)), h))
set_option maxRecDepth 100000 in
set_option maxHeartbeats 8000000 in
theorem kX7_countLost_42 {d : Nat} {h : Hp} {v0 : Nat} {v1 : Int32} {v3 : Int32} {s0 : Int32} {s1 : Int32} {r : Int32} {h9 : Hp} {x : ((Int32 × Int32 × Hp) ⊕ (Int32 × Hp))} (H : MX7_countLost_42 h v0 v1 v3 s0 s1 = some x) (hb0 : ∀ s : Int32 × Int32 × Hp, x = .inl s → J (d + 2) YX7_countLost 4 [.ref v0, .int v1, .int s.1, .int s.2.1, Value.null] [] s.2.2 (oI r) h9) (hx : ∀ z : (Int32 × Hp), x = .inr (z) → z = (r, h9)) : J (d + 2) YX7_countLost 42 [.ref v0, .int v1, Value.null, .int v3, Value.null] [.int s1, .int s0] h (oI r) h9 := by
  unfold MX7_countLost_42 at H
  refine J_iadd dX7_countLost_42 ?_
  refine J_istore_n 2 dX7_countLost_43 rfl (by decide) (ls' := [.ref v0, .int v1, .int (s0 + s1), .int v3, Value.null]) rfl ?_
  refine J_iinc (v3 + (1 : Int32)) dX7_countLost_44 rfl (congrArg (HAdd.hAdd v3) kc_1) (by decide) (ls' := [.ref v0, .int v1, .int (s0 + s1), .int (v3 + (1 : Int32)), Value.null]) rfl ?_
  refine J_goto 4 dX7_countLost_47 rfl ?_
  cases H
  exact J_dr (hb0 _ rfl) ⟨rfl, ⟨rfl, ⟨rfl, ⟨rfl, trivial⟩⟩⟩⟩
noncomputable def MX7_countLost_41 (h : Hp) (v0 : Nat) (v1 : Int32) (v3 : Int32) (s0 : Int32) : Option ((Int32 × Int32 × Hp) ⊕ (Int32 × Hp)) :=
  MX7_countLost_42 h v0 v1 v3 s0 (0 : Int32)
set_option maxRecDepth 100000 in
set_option maxHeartbeats 8000000 in
theorem kX7_countLost_41 {d : Nat} {h : Hp} {v0 : Nat} {v1 : Int32} {v3 : Int32} {s0 : Int32} {r : Int32} {h9 : Hp} {x : ((Int32 × Int32 × Hp) ⊕ (Int32 × Hp))} (H : MX7_countLost_41 h v0 v1 v3 s0 = some x) (hb0 : ∀ s : Int32 × Int32 × Hp, x = .inl s → J (d + 2) YX7_countLost 4 [.ref v0, .int v1, .int s.1, .int s.2.1, Value.null] [] s.2.2 (oI r) h9) (hx : ∀ z : (Int32 × Hp), x = .inr (z) → z = (r, h9)) : J (d + 2) YX7_countLost 41 [.ref v0, .int v1, Value.null, .int v3, Value.null] [.int s0] h (oI r) h9 := by
  unfold MX7_countLost_41 at H
  refine J_iconst (0 : Int32) dX7_countLost_41 kc_0 ?_
  exact J_dr (kX7_countLost_42 H hb0 hx) ⟨rfl, ⟨rfl, ⟨rfl, trivial⟩⟩⟩
noncomputable def BX7_countLost_4 (h : Hp) (v0 : Nat) (v1 : Int32) (v2 : Int32) (v3 : Int32) : Option ((Int32 × Int32 × Hp) ⊕ (Int32 × Hp)) :=
  gg (β := ((Int32 × Int32 × Hp) ⊕ (Int32 × Hp))) (kd h v0 = 6) <|
  if (gI h v0 11) ≤ v3 then
    some (.inr ((v2, h)))
  else
    b2 (α := Nat) (β := Hp) (γ := ((Int32 × Int32 × Hp) ⊕ (Int32 × Hp))) (MX7_ownSlug h v0 v3) fun (t5 : Nat) (h4 : Hp) =>
    gg (β := ((Int32 × Int32 × Hp) ⊕ (Int32 × Hp))) (kd h4 t5 = 7) <|
    if (gI h4 t5 5) = v1 then
      if (gI h4 t5 10) = 0 then
        MX7_countLost_41 h4 v0 v1 v3 v2
      else
        MX7_countLost_42 h4 v0 v1 v3 v2 (1 : Int32)
    else
      MX7_countLost_41 h4 v0 v1 v3 v2
set_option maxRecDepth 100000 in
set_option maxHeartbeats 8000000 in
theorem bX7_countLost_4 {d : Nat} {h : Hp} {v0 : Nat} {v1 : Int32} {v2 : Int32} {v3 : Int32} {r : Int32} {h9 : Hp} {x : ((Int32 × Int32 × Hp) ⊕ (Int32 × Hp))} (H : BX7_countLost_4 h v0 v1 v2 v3 = some x) (hb0 : ∀ s : Int32 × Int32 × Hp, x = .inl s → J (d + 2) YX7_countLost 4 [.ref v0, .int v1, .int s.1, .int s.2.1, Value.null] [] s.2.2 (oI r) h9) (hx : ∀ z : (Int32 × Hp), x = .inr (z) → z = (r, h9)) : J (d + 2) YX7_countLost 4 [.ref v0, .int v1, .int v2, .int v3, Value.null] [] h (oI r) h9 := by
  unfold BX7_countLost_4 at H
  refine J_iload_n 3 dX7_countLost_4 rfl rfl ?_
  refine J_aload_n 0 dX7_countLost_5 rfl rfl ?_
  obtain ⟨g1, H⟩ := gd H
  refine J_getI 6 11 dX7_countLost_6 g1 flX7_60 rfl ?_
  refine J_icmp_ge 50 dX7_countLost_9 rfl (fun q2 => ?_) (fun q2 => ?_)
  · replace H := br1 q2 H
    refine J_iload_n 2 dX7_countLost_50 rfl rfl ?_
    cases H
    cases hx _ rfl
    exact J_iretI dX7_countLost_51 rfl
  · replace H := br0 q2 H
    refine J_aload_n 0 dX7_countLost_12 rfl rfl ?_
    refine J_iload_n 3 dX7_countLost_13 rfl rfl ?_
    obtain ⟨t5, h4, e3, H⟩ := b2_el H
    refine J_cV (as := [.int v3]) 6 YX7_ownSlug 1 dX7_countLost_14 moX7_ownSlug mvX7_ownSlug mlX7_113 g1 rfl rfl (okX7_ownSlug (d := d) e3) rfl rfl [] rfl rfl (st2 := [.ref t5]) rfl ?_
    refine J_astore dX7_countLost_17 (by decide) (ls' := [.ref v0, .int v1, .int v2, .int v3, .ref t5]) rfl ?_
    refine J_iload_n 2 dX7_countLost_19 rfl rfl ?_
    refine J_aload dX7_countLost_20 rfl ?_
    obtain ⟨g6, H⟩ := gd H
    refine J_getI 7 5 dX7_countLost_22 g6 flX7_292 rfl ?_
    refine J_iload_n 1 dX7_countLost_25 rfl rfl ?_
    refine J_icmp_ne 41 dX7_countLost_26 rfl (fun q7 => ?_) (fun q7 => ?_)
    · replace H := br0 q7 H
      exact J_dr (kX7_countLost_41 H hb0 hx) ⟨rfl, ⟨rfl, ⟨rfl, trivial⟩⟩⟩
    · replace H := br1 q7 H
      refine J_aload dX7_countLost_29 rfl ?_
      refine J_getI 7 10 dX7_countLost_31 g6 flX7_318 rfl ?_
      refine J_if_eq 41 dX7_countLost_34 rfl (fun q8 => ?_) (fun q8 => ?_)
      · replace H := br1 q8 H
        exact J_dr (kX7_countLost_41 H hb0 hx) ⟨rfl, ⟨rfl, ⟨rfl, trivial⟩⟩⟩
      · replace H := br0 q8 H
        refine J_iconst (1 : Int32) dX7_countLost_37 kc_1 ?_
        refine J_goto 42 dX7_countLost_38 rfl ?_
        exact J_dr (kX7_countLost_42 H hb0 hx) ⟨rfl, ⟨rfl, ⟨rfl, trivial⟩⟩⟩
noncomputable def MX7_countLost_4 (h : Hp) (v0 : Nat) (v1 : Int32) (v2 : Int32) (v3 : Int32) : Option (Int32 × Hp) := it (fun q : Int32 × Int32 × Hp => BX7_countLost_4 q.2.2 v0 v1 q.1 q.2.1) (v2, v3, h)
set_option maxRecDepth 100000 in
set_option maxHeartbeats 8000000 in
theorem kX7_countLost_4 {d : Nat} {h : Hp} {v0 : Nat} {v1 : Int32} {v2 : Int32} {v3 : Int32} {r : Int32} {h9 : Hp} (H : MX7_countLost_4 h v0 v1 v2 v3 = some (r, h9)) : J (d + 2) YX7_countLost 4 [.ref v0, .int v1, .int v2, .int v3, Value.null] [] h (oI r) h9 := by
  unfold MX7_countLost_4 at H
  refine it_J (G := (fun q : Int32 × Int32 × Hp => J (d + 2) YX7_countLost 4 [.ref v0, .int v1, .int q.1, .int q.2.1, Value.null] [] q.2.2 (oI r) h9)) (Q := (fun y : (Int32 × Hp) => y = (r, h9))) (fun q x Hq hm => ?_) H rfl
  exact bX7_countLost_4 Hq (fun s hs => by subst hs; exact hm) (fun z hz => by subst hz; exact hm)
noncomputable def MX7_countLost (h : Hp) (v0 : Nat) (v1 : Int32) : Option (Int32 × Hp) :=
  MX7_countLost_4 h v0 v1 (0 : Int32) (0 : Int32)
set_option maxRecDepth 100000 in
set_option maxHeartbeats 8000000 in
theorem eX7_countLost {d : Nat} {h : Hp} {v0 : Nat} {v1 : Int32} {r : Int32} {h9 : Hp} (H : MX7_countLost h v0 v1 = some (r, h9)) : J (d + 2) YX7_countLost 0 [.ref v0, .int v1, Value.null, Value.null, Value.null] [] h (oI r) h9 := by
  unfold MX7_countLost at H
  refine J_iconst (0 : Int32) dX7_countLost_0 kc_0 ?_
  refine J_istore_n 2 dX7_countLost_1 rfl (by decide) (ls' := [.ref v0, .int v1, .int (0 : Int32), Value.null, Value.null]) rfl ?_
  refine J_iconst (0 : Int32) dX7_countLost_2 kc_0 ?_
  refine J_istore_n 3 dX7_countLost_3 rfl (by decide) (ls' := [.ref v0, .int v1, .int (0 : Int32), .int (0 : Int32), Value.null]) rfl ?_
  exact J_dr (kX7_countLost_4 H ) ⟨rfl, ⟨rfl, ⟨rfl, ⟨rfl, trivial⟩⟩⟩⟩
theorem okX7_countLost {d : Nat} {h : Hp} {v0 : Nat} {v1 : Int32} {r : Int32} {h9 : Hp} (H : MX7_countLost h v0 v1 = some (r, h9)) : CT (d + 2) YX7_countLost [.ref v0, .int v1] h (oI r) h9 := CT_of (by decide +kernel) (Nat.le_of_ble_eq_true rfl) (eX7_countLost H)
noncomputable def MX7_countRight_27 (h : Hp) (v0 : Nat) (v1 : Nat) (v3 : Int32) (s0 : Int32) (s1 : Int32) : Option ((Int32 × Int32 × Hp) ⊕ (Int32 × Hp)) :=
  some (.inl ((s0 + s1), (v3 + (1 : Int32)), h))
set_option maxRecDepth 100000 in
set_option maxHeartbeats 8000000 in
theorem kX7_countRight_27 {d : Nat} {h : Hp} {v0 : Nat} {v1 : Nat} {v3 : Int32} {s0 : Int32} {s1 : Int32} {r : Int32} {h9 : Hp} {x : ((Int32 × Int32 × Hp) ⊕ (Int32 × Hp))} (H : MX7_countRight_27 h v0 v1 v3 s0 s1 = some x) (hb0 : ∀ s : Int32 × Int32 × Hp, x = .inl s → J (d + 3) YX7_countRight 4 [.ref v0, .ref v1, .int s.1, .int s.2.1] [] s.2.2 (oI r) h9) (hx : ∀ z : (Int32 × Hp), x = .inr (z) → z = (r, h9)) : J (d + 3) YX7_countRight 27 [.ref v0, .ref v1, Value.null, .int v3] [.int s1, .int s0] h (oI r) h9 := by
  unfold MX7_countRight_27 at H
  refine J_iadd dX7_countRight_27 ?_
  refine J_istore_n 2 dX7_countRight_28 rfl (by decide) (ls' := [.ref v0, .ref v1, .int (s0 + s1), .int v3]) rfl ?_
  refine J_iinc (v3 + (1 : Int32)) dX7_countRight_29 rfl (congrArg (HAdd.hAdd v3) kc_1) (by decide) (ls' := [.ref v0, .ref v1, .int (s0 + s1), .int (v3 + (1 : Int32))]) rfl ?_
  refine J_goto 4 dX7_countRight_32 rfl ?_
  cases H
  exact J_dr (hb0 _ rfl) ⟨rfl, ⟨rfl, ⟨rfl, ⟨rfl, trivial⟩⟩⟩⟩
noncomputable def BX7_countRight_4 (h : Hp) (v0 : Nat) (v1 : Nat) (v2 : Int32) (v3 : Int32) : Option ((Int32 × Int32 × Hp) ⊕ (Int32 × Hp)) :=
  gg (β := ((Int32 × Int32 × Hp) ⊕ (Int32 × Hp))) (kd h v1 = 4) <|
  if (gI h v1 9) ≤ v3 then
    some (.inr ((v2, h)))
  else
    gg (β := ((Int32 × Int32 × Hp) ⊕ (Int32 × Hp))) (kd h v0 = 6) <|
    b2 (α := Int32) (β := Hp) (γ := ((Int32 × Int32 × Hp) ⊕ (Int32 × Hp))) (MX7_isRight h v0 v1 v3) fun (t6 : Int32) (h5 : Hp) =>
    if t6 = 0 then
      MX7_countRight_27 h5 v0 v1 v3 v2 (0 : Int32)
    else
      MX7_countRight_27 h5 v0 v1 v3 v2 (1 : Int32)
set_option maxRecDepth 100000 in
set_option maxHeartbeats 8000000 in
theorem bX7_countRight_4 {d : Nat} {h : Hp} {v0 : Nat} {v1 : Nat} {v2 : Int32} {v3 : Int32} {r : Int32} {h9 : Hp} {x : ((Int32 × Int32 × Hp) ⊕ (Int32 × Hp))} (H : BX7_countRight_4 h v0 v1 v2 v3 = some x) (hb0 : ∀ s : Int32 × Int32 × Hp, x = .inl s → J (d + 3) YX7_countRight 4 [.ref v0, .ref v1, .int s.1, .int s.2.1] [] s.2.2 (oI r) h9) (hx : ∀ z : (Int32 × Hp), x = .inr (z) → z = (r, h9)) : J (d + 3) YX7_countRight 4 [.ref v0, .ref v1, .int v2, .int v3] [] h (oI r) h9 := by
  unfold BX7_countRight_4 at H
  refine J_iload_n 3 dX7_countRight_4 rfl rfl ?_
  refine J_aload_n 1 dX7_countRight_5 rfl rfl ?_
  obtain ⟨g1, H⟩ := gd H
  refine J_getI 4 9 dX7_countRight_6 g1 flX7_225 rfl ?_
  refine J_icmp_ge 35 dX7_countRight_9 rfl (fun q2 => ?_) (fun q2 => ?_)
  · replace H := br1 q2 H
    refine J_iload_n 2 dX7_countRight_35 rfl rfl ?_
    cases H
    cases hx _ rfl
    exact J_iretI dX7_countRight_36 rfl
  · replace H := br0 q2 H
    refine J_iload_n 2 dX7_countRight_12 rfl rfl ?_
    refine J_aload_n 0 dX7_countRight_13 rfl rfl ?_
    refine J_aload_n 1 dX7_countRight_14 rfl rfl ?_
    refine J_iload_n 3 dX7_countRight_15 rfl rfl ?_
    obtain ⟨g4, H⟩ := gd H
    obtain ⟨t6, h5, e3, H⟩ := b2_el H
    refine J_cV (as := [.ref v1, .int v3]) 6 YX7_isRight 2 dX7_countRight_16 moX7_isRight mvX7_isRight mlX7_337 g4 rfl rfl (okX7_isRight (d := d) e3) rfl rfl [.int v2] rfl rfl (st2 := [.int t6, .int v2]) rfl ?_
    refine J_if_eq 26 dX7_countRight_19 rfl (fun q7 => ?_) (fun q7 => ?_)
    · replace H := br1 q7 H
      refine J_iconst (0 : Int32) dX7_countRight_26 kc_0 ?_
      exact J_dr (kX7_countRight_27 H hb0 hx) ⟨rfl, ⟨rfl, ⟨rfl, trivial⟩⟩⟩
    · replace H := br0 q7 H
      refine J_iconst (1 : Int32) dX7_countRight_22 kc_1 ?_
      refine J_goto 27 dX7_countRight_23 rfl ?_
      exact J_dr (kX7_countRight_27 H hb0 hx) ⟨rfl, ⟨rfl, ⟨rfl, trivial⟩⟩⟩
noncomputable def MX7_countRight_4 (h : Hp) (v0 : Nat) (v1 : Nat) (v2 : Int32) (v3 : Int32) : Option (Int32 × Hp) := it (fun q : Int32 × Int32 × Hp => BX7_countRight_4 q.2.2 v0 v1 q.1 q.2.1) (v2, v3, h)
set_option maxRecDepth 100000 in
set_option maxHeartbeats 8000000 in
theorem kX7_countRight_4 {d : Nat} {h : Hp} {v0 : Nat} {v1 : Nat} {v2 : Int32} {v3 : Int32} {r : Int32} {h9 : Hp} (H : MX7_countRight_4 h v0 v1 v2 v3 = some (r, h9)) : J (d + 3) YX7_countRight 4 [.ref v0, .ref v1, .int v2, .int v3] [] h (oI r) h9 := by
  unfold MX7_countRight_4 at H
  refine it_J (G := (fun q : Int32 × Int32 × Hp => J (d + 3) YX7_countRight 4 [.ref v0, .ref v1, .int q.1, .int q.2.1] [] q.2.2 (oI r) h9)) (Q := (fun y : (Int32 × Hp) => y = (r, h9))) (fun q x Hq hm => ?_) H rfl
  exact bX7_countRight_4 Hq (fun s hs => by subst hs; exact hm) (fun z hz => by subst hz; exact hm)
noncomputable def MX7_countRight (h : Hp) (v0 : Nat) (v1 : Nat) : Option (Int32 × Hp) :=
  MX7_countRight_4 h v0 v1 (0 : Int32) (0 : Int32)
set_option maxRecDepth 100000 in
set_option maxHeartbeats 8000000 in
theorem eX7_countRight {d : Nat} {h : Hp} {v0 : Nat} {v1 : Nat} {r : Int32} {h9 : Hp} (H : MX7_countRight h v0 v1 = some (r, h9)) : J (d + 3) YX7_countRight 0 [.ref v0, .ref v1, Value.null, Value.null] [] h (oI r) h9 := by
  unfold MX7_countRight at H
  refine J_iconst (0 : Int32) dX7_countRight_0 kc_0 ?_
  refine J_istore_n 2 dX7_countRight_1 rfl (by decide) (ls' := [.ref v0, .ref v1, .int (0 : Int32), Value.null]) rfl ?_
  refine J_iconst (0 : Int32) dX7_countRight_2 kc_0 ?_
  refine J_istore_n 3 dX7_countRight_3 rfl (by decide) (ls' := [.ref v0, .ref v1, .int (0 : Int32), .int (0 : Int32)]) rfl ?_
  exact J_dr (kX7_countRight_4 H ) ⟨rfl, ⟨rfl, ⟨rfl, ⟨rfl, trivial⟩⟩⟩⟩
theorem okX7_countRight {d : Nat} {h : Hp} {v0 : Nat} {v1 : Nat} {r : Int32} {h9 : Hp} (H : MX7_countRight h v0 v1 = some (r, h9)) : CT (d + 3) YX7_countRight [.ref v0, .ref v1] h (oI r) h9 := CT_of (by decide +kernel) (Nat.le_of_ble_eq_true rfl) (eX7_countRight H)
noncomputable def MX11_part (h : Hp) (v0 : Nat) (v1 : Int32) (v2 : Int32) : Option ((Int32 ⊕ Nat) × Hp) :=
  gg (β := ((Int32 ⊕ Nat) × Hp)) (kd h v0 = 10) <|
  gg (β := ((Int32 ⊕ Nat) × Hp)) (kd h (gP h v0 5) = 6) <|
  Option.bind (α := Nat) (β := ((Int32 ⊕ Nat) × Hp)) (MX7_findPart h (gP h v0 5) v1) fun (t4 : Nat) =>
  if t4 = 0 then
    some (.inr 1, bmp h 1 6)
  else
    if v2 = (0 : Int32) then
      gg (β := ((Int32 ⊕ Nat) × Hp)) (kd h t4 = 4) <|
      some (.inl (gI h t4 6), h)
    else
    if v2 = (1 : Int32) then
      gg (β := ((Int32 ⊕ Nat) × Hp)) (kd h t4 = 4) <|
      some (.inl (gI h t4 5), h)
    else
    if v2 = (2 : Int32) then
      gg (β := ((Int32 ⊕ Nat) × Hp)) (kd h t4 = 4) <|
      some (.inl (gI h t4 7), h)
    else
    if v2 = (3 : Int32) then
      gg (β := ((Int32 ⊕ Nat) × Hp)) (kd h t4 = 4) <|
      some (.inl (gI h t4 8), h)
    else
    if v2 = (4 : Int32) then
      gg (β := ((Int32 ⊕ Nat) × Hp)) (kd h t4 = 4) <|
      if (gI h t4 10) = 0 then
        some (.inl (0 : Int32), h)
      else
        some (.inl (1 : Int32), h)
    else
    if v2 = (5 : Int32) then
      gg (β := ((Int32 ⊕ Nat) × Hp)) (kd h t4 = 4) <|
      if (gI h t4 11) = 0 then
        some (.inl (-1 : Int32), h)
      else
        some (.inl (gI h t4 9), h)
    else
    if v2 = (6 : Int32) then
      b2 (α := Int32) (β := Hp) (γ := ((Int32 ⊕ Nat) × Hp)) (MX7_countRight h (gP h v0 5) t4) fun (t16 : Int32) (h15 : Hp) =>
      some (.inl t16, h15)
    else
    if v2 = (7 : Int32) then
      b2 (α := Int32) (β := Hp) (γ := ((Int32 ⊕ Nat) × Hp)) (MX7_countLost h (gP h v0 5) v1) fun (t19 : Int32) (h18 : Hp) =>
      some (.inl t19, h18)
    else
      some (.inr 4, bmp h 1 6)
set_option maxRecDepth 100000 in
set_option maxHeartbeats 8000000 in
theorem eX11_part {d : Nat} {h : Hp} {v0 : Nat} {v1 : Int32} {v2 : Int32} {r : Int32 ⊕ Nat} {h9 : Hp} (H : MX11_part h v0 v1 v2 = some (r, h9)) : J (d + 4) YX11_part 0 [.ref v0, .int v1, .int v2, Value.null] [] h (oT r) h9 := by
  unfold MX11_part at H
  refine J_aload_n 0 dX11_part_0 rfl rfl ?_
  obtain ⟨g1, H⟩ := gd H
  refine J_gP 10 5 dX11_part_1 g1 flX11_39 rfl rfl ?_
  refine J_iload_n 1 dX11_part_4 rfl rfl ?_
  obtain ⟨g3, H⟩ := gd H
  obtain ⟨t4, e2, H⟩ := bd H
  refine J_cV (as := [.int v1]) 6 YX7_findPart 1 dX11_part_5 moX7_findPart mvX7_findPart mlX11_139 g3 rfl rfl (okX7_findPart (d := d + 3) e2) rfl rfl [] rfl rfl (st2 := [.ref t4]) rfl ?_
  refine J_astore_n 3 dX11_part_8 rfl (by decide) (ls' := [.ref v0, .int v1, .int v2, .ref t4]) rfl ?_
  refine J_aload_n 3 dX11_part_9 rfl rfl ?_
  refine J_ifnonnull 21 dX11_part_10 rfl (fun q5 => ?_) (fun q5 => ?_)
  · replace H := br0 q5 H
    refine J_iload_n 2 dX11_part_21 rfl rfl ?_
    by_cases q1000 : v2 = (0 : Int32)
    · replace H := br1 q1000 H
      refine J_tab 68 dX11_part_22 q1000 (by decide) rfl rfl ?_
      refine J_aload_n 3 dX11_part_68 rfl rfl ?_
      obtain ⟨g6, H⟩ := gd H
      refine J_getI 4 6 dX11_part_69 g6 flX11_143 rfl ?_
      cases H
      exact J_iretI dX11_part_72 rfl
    replace H := br0 q1000 H
    by_cases q1001 : v2 = (1 : Int32)
    · replace H := br1 q1001 H
      refine J_tab 73 dX11_part_22 q1001 (by decide) rfl rfl ?_
      refine J_aload_n 3 dX11_part_73 rfl rfl ?_
      obtain ⟨g7, H⟩ := gd H
      refine J_getI 4 5 dX11_part_74 g7 flX11_146 rfl ?_
      cases H
      exact J_iretI dX11_part_77 rfl
    replace H := br0 q1001 H
    by_cases q1002 : v2 = (2 : Int32)
    · replace H := br1 q1002 H
      refine J_tab 78 dX11_part_22 q1002 (by decide) rfl rfl ?_
      refine J_aload_n 3 dX11_part_78 rfl rfl ?_
      obtain ⟨g8, H⟩ := gd H
      refine J_getI 4 7 dX11_part_79 g8 flX11_149 rfl ?_
      cases H
      exact J_iretI dX11_part_82 rfl
    replace H := br0 q1002 H
    by_cases q1003 : v2 = (3 : Int32)
    · replace H := br1 q1003 H
      refine J_tab 83 dX11_part_22 q1003 (by decide) rfl rfl ?_
      refine J_aload_n 3 dX11_part_83 rfl rfl ?_
      obtain ⟨g9, H⟩ := gd H
      refine J_getI 4 8 dX11_part_84 g9 flX11_152 rfl ?_
      cases H
      exact J_iretI dX11_part_87 rfl
    replace H := br0 q1003 H
    by_cases q1004 : v2 = (4 : Int32)
    · replace H := br1 q1004 H
      refine J_tab 88 dX11_part_22 q1004 (by decide) rfl rfl ?_
      refine J_aload_n 3 dX11_part_88 rfl rfl ?_
      obtain ⟨g10, H⟩ := gd H
      refine J_getI 4 10 dX11_part_89 g10 flX11_155 rfl ?_
      refine J_if_eq 99 dX11_part_92 rfl (fun q11 => ?_) (fun q11 => ?_)
      · replace H := br1 q11 H
        refine J_iconst (0 : Int32) dX11_part_99 kc_0 ?_
        cases H
        exact J_iretI dX11_part_100 rfl
      · replace H := br0 q11 H
        refine J_iconst (1 : Int32) dX11_part_95 kc_1 ?_
        refine J_goto 100 dX11_part_96 rfl ?_
        cases H
        exact J_iretI dX11_part_100 rfl
    replace H := br0 q1004 H
    by_cases q1005 : v2 = (5 : Int32)
    · replace H := br1 q1005 H
      refine J_tab 101 dX11_part_22 q1005 (by decide) rfl rfl ?_
      refine J_aload_n 3 dX11_part_101 rfl rfl ?_
      obtain ⟨g12, H⟩ := gd H
      refine J_getI 4 11 dX11_part_102 g12 flX11_159 rfl ?_
      refine J_if_eq 115 dX11_part_105 rfl (fun q13 => ?_) (fun q13 => ?_)
      · replace H := br1 q13 H
        refine J_iconst (-1 : Int32) dX11_part_115 kc_m1 ?_
        cases H
        exact J_iretI dX11_part_116 rfl
      · replace H := br0 q13 H
        refine J_aload_n 3 dX11_part_108 rfl rfl ?_
        refine J_getI 4 9 dX11_part_109 g12 flX11_162 rfl ?_
        refine J_goto 116 dX11_part_112 rfl ?_
        cases H
        exact J_iretI dX11_part_116 rfl
    replace H := br0 q1005 H
    by_cases q1006 : v2 = (6 : Int32)
    · replace H := br1 q1006 H
      refine J_tab 117 dX11_part_22 q1006 (by decide) rfl rfl ?_
      refine J_aload_n 0 dX11_part_117 rfl rfl ?_
      refine J_gP 10 5 dX11_part_118 g1 flX11_39 rfl rfl ?_
      refine J_aload_n 3 dX11_part_121 rfl rfl ?_
      obtain ⟨t16, h15, e14, H⟩ := b2_el H
      refine J_cV (as := [.ref t4]) 6 YX7_countRight 1 dX11_part_122 moX7_countRight mvX7_countRight mlX11_165 g3 rfl rfl (okX7_countRight (d := d) e14) rfl rfl [] rfl rfl (st2 := [.int t16]) rfl ?_
      cases H
      exact J_iretI dX11_part_125 rfl
    replace H := br0 q1006 H
    by_cases q1007 : v2 = (7 : Int32)
    · replace H := br1 q1007 H
      refine J_tab 126 dX11_part_22 q1007 (by decide) rfl rfl ?_
      refine J_aload_n 0 dX11_part_126 rfl rfl ?_
      refine J_gP 10 5 dX11_part_127 g1 flX11_39 rfl rfl ?_
      refine J_iload_n 1 dX11_part_130 rfl rfl ?_
      obtain ⟨t19, h18, e17, H⟩ := b2_el H
      refine J_cV (as := [.int v1]) 6 YX7_countLost 1 dX11_part_131 moX7_countLost mvX7_countLost mlX11_169 g3 rfl rfl (okX7_countLost (d := d + 1) e17) rfl rfl [] rfl rfl (st2 := [.int t19]) rfl ?_
      cases H
      exact J_iretI dX11_part_134 rfl
    replace H := br0 q1007 H
    refine J_tab0 8 135 dX11_part_22 rfl (fun k hk => ?_) rfl rfl ?_
    · match k, hk with
      | 0, _ => exact q1000
      | 1, _ => exact q1001
      | 2, _ => exact q1002
      | 3, _ => exact q1003
      | 4, _ => exact q1004
      | 5, _ => exact q1005
      | 6, _ => exact q1006
      | 7, _ => exact q1007
      | k + 8, hk => exact absurd hk (by omega)
    · cases H
      exact J_throw 4 ["java/lang/RuntimeException", "java/lang/Exception"] dX11_part_135 dX11_part_138 dX11_part_139 dX11_part_142 th_174 clX11_172 (Nat.le_of_ble_eq_true rfl)
  · replace H := br1 q5 H
    cases H
    exact J_throw 1 ["java/lang/RuntimeException", "java/lang/Exception"] dX11_part_13 dX11_part_16 dX11_part_17 dX11_part_20 th_86 clX11_84 (Nat.le_of_ble_eq_true rfl)
theorem okX11_part {d : Nat} {h : Hp} {v0 : Nat} {v1 : Int32} {v2 : Int32} {r : Int32 ⊕ Nat} {h9 : Hp} (H : MX11_part h v0 v1 v2 = some (r, h9)) : CT (d + 4) YX11_part [.ref v0, .int v1, .int v2] h (oT r) h9 := CT_of (by decide +kernel) (Nat.le_of_ble_eq_true rfl) (eX11_part H)
noncomputable def MX7_factsOfSlug_26 (h : Hp) (v0 : Nat) (v1 : Nat) (s0 : Nat) (s1 : Int32) (s2 : Int32) : Option Hp :=
  gg (β := Hp) (kd h s0 = 20) <|
  gg (β := Hp) (inB s1 (ln h s0) = true) <|
  lt (α := Hp) (β := Option Hp) (sI h s0 s1.toNatClampNeg s2) fun (h10 : Hp) =>
  gg (β := Hp) (kd h v0 = 6) <|
  gg (β := Hp) (kd h v1 = 7) <|
  gg (β := Hp) (kd h (gP h v0 15) = 20) <|
  gg (β := Hp) (inB (7 : Int32) (ln h (gP h v0 15)) = true) <|
  lt (α := Hp) (β := Option Hp) (sI h10 (gP h v0 15) (7 : Int32).toNatClampNeg (gI h10 v1 3)) fun (h19 : Hp) =>
  gg (β := Hp) (inB (8 : Int32) (ln h (gP h v0 15)) = true) <|
  lt (α := Hp) (β := Option Hp) (sI h19 (gP h v0 15) (8 : Int32).toNatClampNeg (gI h19 v1 8)) fun (h25 : Hp) =>
  some h25
set_option maxRecDepth 100000 in
set_option maxHeartbeats 8000000 in
theorem kX7_factsOfSlug_26 {d : Nat} {h : Hp} {v0 : Nat} {v1 : Nat} {s0 : Nat} {s1 : Int32} {s2 : Int32} {h9 : Hp} (H : MX7_factsOfSlug_26 h v0 v1 s0 s1 s2 = some h9) : J (d + 1) YX7_factsOfSlug 26 [.ref v0, .ref v1, Value.null] [.int s2, .int s1, .ref s0] h oV h9 := by
  unfold MX7_factsOfSlug_26 at H
  obtain ⟨g8, H⟩ := gd H
  obtain ⟨g9, H⟩ := gd H
  obtain ⟨h10, e11, H⟩ := lt_el H
  refine J_sI dX7_factsOfSlug_26 g8 (inB_ok g9) e11 ?_
  have c12 := ekI e11
  have c13 := elI e11
  have c14 := epI e11
  refine J_aload_n 0 dX7_factsOfSlug_27 rfl rfl ?_
  obtain ⟨g15, H⟩ := gd H
  refine J_gP 6 15 dX7_factsOfSlug_28 (kq c12 g15) flX7_76 rfl (congrFun (congrFun c14 v0) 15) ?_
  refine J_bipush (7 : Int32) dX7_factsOfSlug_31 kb_7 ?_
  refine J_aload_n 1 dX7_factsOfSlug_33 rfl rfl ?_
  obtain ⟨g16, H⟩ := gd H
  refine J_getI 7 3 dX7_factsOfSlug_34 (kq c12 g16) flX7_172 rfl ?_
  obtain ⟨g17, H⟩ := gd H
  obtain ⟨g18, H⟩ := gd H
  obtain ⟨h19, e20, H⟩ := lt_el H
  refine J_sI dX7_factsOfSlug_37 (kq c12 g17) (lq c13 g18) e20 ?_
  have c21 := (ekI e20).trans c12
  have c22 := (elI e20).trans c13
  have c23 := (epI e20).trans c14
  refine J_aload_n 0 dX7_factsOfSlug_38 rfl rfl ?_
  refine J_gP 6 15 dX7_factsOfSlug_39 (kq c21 g15) flX7_76 rfl (congrFun (congrFun c23 v0) 15) ?_
  refine J_bipush (8 : Int32) dX7_factsOfSlug_42 kb_8 ?_
  refine J_aload_n 1 dX7_factsOfSlug_44 rfl rfl ?_
  refine J_getI 7 8 dX7_factsOfSlug_45 (kq c21 g16) flX7_175 rfl ?_
  obtain ⟨g24, H⟩ := gd H
  obtain ⟨h25, e26, H⟩ := lt_el H
  refine J_sI dX7_factsOfSlug_48 (kq c21 g17) (lq c22 g24) e26 ?_
  have c27 := (ekI e26).trans c21
  have c28 := (elI e26).trans c22
  have c29 := (epI e26).trans c23
  cases H
  exact J_ret dX7_factsOfSlug_49 rfl
noncomputable def MX7_factsOfSlug (h : Hp) (v0 : Nat) (v1 : Nat) (v2 : Nat) : Option Hp :=
  gg (β := Hp) (kd h v1 = 7) <|
  gg (β := Hp) (kd h v0 = 6) <|
  Option.bind (α := Hp) (β := Hp) (MX7_factsOfPart h v0 v2 (gI h v1 9)) fun (h4 : Hp) =>
  gg (β := Hp) (kd h4 v0 = 6) <|
  gg (β := Hp) (kd h4 v1 = 7) <|
  if (gI h4 v1 14) = 0 then
    MX7_factsOfSlug_26 h4 v0 v1 (gP h4 v0 15) (2 : Int32) (0 : Int32)
  else
    MX7_factsOfSlug_26 h4 v0 v1 (gP h4 v0 15) (2 : Int32) (1 : Int32)
set_option maxRecDepth 100000 in
set_option maxHeartbeats 8000000 in
theorem eX7_factsOfSlug {d : Nat} {h : Hp} {v0 : Nat} {v1 : Nat} {v2 : Nat} {h9 : Hp} (H : MX7_factsOfSlug h v0 v1 v2 = some h9) : J (d + 1) YX7_factsOfSlug 0 [.ref v0, .ref v1, .ref v2] [] h oV h9 := by
  unfold MX7_factsOfSlug at H
  refine J_aload_n 0 dX7_factsOfSlug_0 rfl rfl ?_
  refine J_aload_n 2 dX7_factsOfSlug_1 rfl rfl ?_
  refine J_aload_n 1 dX7_factsOfSlug_2 rfl rfl ?_
  obtain ⟨g1, H⟩ := gd H
  refine J_getI 7 9 dX7_factsOfSlug_3 g1 flX7_163 rfl ?_
  obtain ⟨g3, H⟩ := gd H
  obtain ⟨h4, e2, H⟩ := bd H
  refine J_cV (as := [.ref v2, .int (gI h v1 9)]) 6 YX7_factsOfPart 2 dX7_factsOfSlug_6 moX7_factsOfPart mvX7_factsOfPart mlX7_164 g3 rfl rfl (okX7_factsOfPart (d := d) e2) rfl rfl [] rfl rfl (st2 := []) rfl ?_
  refine J_aload_n 0 dX7_factsOfSlug_9 rfl rfl ?_
  obtain ⟨g5, H⟩ := gd H
  refine J_gP 6 15 dX7_factsOfSlug_10 g5 flX7_76 rfl rfl ?_
  refine J_iconst (2 : Int32) dX7_factsOfSlug_13 kc_2 ?_
  refine J_aload_n 1 dX7_factsOfSlug_14 rfl rfl ?_
  obtain ⟨g6, H⟩ := gd H
  refine J_getI 7 14 dX7_factsOfSlug_15 g6 flX7_168 rfl ?_
  refine J_if_eq 25 dX7_factsOfSlug_18 rfl (fun q7 => ?_) (fun q7 => ?_)
  · replace H := br1 q7 H
    refine J_iconst (0 : Int32) dX7_factsOfSlug_25 kc_0 ?_
    exact J_dr (kX7_factsOfSlug_26 H ) ⟨rfl, ⟨rfl, trivial⟩⟩
  · replace H := br0 q7 H
    refine J_iconst (1 : Int32) dX7_factsOfSlug_21 kc_1 ?_
    refine J_goto 26 dX7_factsOfSlug_22 rfl ?_
    exact J_dr (kX7_factsOfSlug_26 H ) ⟨rfl, ⟨rfl, trivial⟩⟩
theorem okX7_factsOfSlug {d : Nat} {h : Hp} {v0 : Nat} {v1 : Nat} {v2 : Nat} {h9 : Hp} (H : MX7_factsOfSlug h v0 v1 v2 = some h9) : CT (d + 1) YX7_factsOfSlug [.ref v0, .ref v1, .ref v2] h oV h9 := CT_of (by decide +kernel) (Nat.le_of_ble_eq_true rfl) (eX7_factsOfSlug H)
noncomputable def MX7_payOfSlug_90 (h : Hp) (v3 : Nat) (v4 : Int32) (s0 : Int32) (s1 : Int32) : Option (Int32 × Hp) :=
  gg (β := (Int32 × Hp)) (kd h v3 = 8) <|
  gg (β := (Int32 × Hp)) (kd h (gP h v3 3) = 20) <|
  gg (β := (Int32 × Hp)) (inB v4 (ln h (gP h v3 3)) = true) <|
  some (((jmax s0 s1) * (gI h (gP h v3 3) v4.toNatClampNeg)), h)
set_option maxRecDepth 100000 in
set_option maxHeartbeats 8000000 in
theorem kX7_payOfSlug_90 {d : Nat} {h : Hp} {v3 : Nat} {v4 : Int32} {s0 : Int32} {s1 : Int32} {r : Int32} {h9 : Hp} (H : MX7_payOfSlug_90 h v3 v4 s0 s1 = some (r, h9)) : J (d + 3) YX7_payOfSlug 90 [Value.null, Value.null, Value.null, .ref v3, .int v4, Value.null] [.int s1, .int s0] h (oI r) h9 := by
  unfold MX7_payOfSlug_90 at H
  refine J_mx dX7_payOfSlug_90 mlX7_193 rfl ?_
  refine J_aload_n 3 dX7_payOfSlug_93 rfl rfl ?_
  obtain ⟨g29, H⟩ := gd H
  refine J_gP 8 3 dX7_payOfSlug_94 g29 flX7_402 rfl rfl ?_
  refine J_iload dX7_payOfSlug_97 rfl ?_
  obtain ⟨g30, H⟩ := gd H
  obtain ⟨g31, H⟩ := gd H
  refine J_iald dX7_payOfSlug_99 g30 (inB_ok g31) ?_
  refine J_imul dX7_payOfSlug_100 ?_
  cases H
  exact J_iretI dX7_payOfSlug_101 rfl
noncomputable def MX7_payOfSlug (h : Hp) (v0 : Nat) (v1 : Nat) : Option (Int32 × Hp) :=
  gg (β := (Int32 × Hp)) (kd h v1 = 7) <|
  gg (β := (Int32 × Hp)) (kd h v0 = 6) <|
  Option.bind (α := Nat) (β := (Int32 × Hp)) (MX7_findPart h v0 (gI h v1 5)) fun (t4 : Nat) =>
  if t4 = 0 then
    some ((0 : Int32), h)
  else
    b2 (α := Nat) (β := Hp) (γ := (Int32 × Hp)) (MX7_styleAt h v0 (gI h v1 9)) fun (t8 : Nat) (h7 : Hp) =>
    gg (β := (Int32 × Hp)) (kd h7 v0 = 6) <|
    Option.bind (α := Hp) (β := (Int32 × Hp)) (MX7_factsOfSlug h7 v0 v1 t4) fun (h11 : Hp) =>
    gg (β := (Int32 × Hp)) (kd h11 v0 = 6) <|
    gg (β := (Int32 × Hp)) (kd h11 t8 = 8) <|
    Option.bind (α := Hp) (β := (Int32 × Hp)) (MX9_weigh h11 t8 (gP h11 v0 15)) fun (h15 : Hp) =>
    gg (β := (Int32 × Hp)) (kd h15 t8 = 8) <|
    Option.bind (α := Int32) (β := (Int32 × Hp)) (MX9_lastThatHolds h15 t8 (4 : Int32)) fun (t18 : Int32) =>
    if t18 = (-1 : Int32) then
      some ((0 : Int32), h15)
    else
      Option.bind (α := Int32) (β := (Int32 × Hp)) (MX9_lastThatHolds h15 t8 (5 : Int32)) fun (t21 : Int32) =>
      if t21 = (-1 : Int32) then
        Option.bind (α := Int32) (β := (Int32 × Hp)) (MX9_lastThatHolds h15 t8 (3 : Int32)) fun (t24 : Int32) =>
        gg (β := (Int32 × Hp)) (kd h15 v1 = 7) <|
        if t24 = (-1 : Int32) then
          MX7_payOfSlug_90 h15 t8 t18 (gI h15 v1 3) (0 : Int32)
        else
          gg (β := (Int32 × Hp)) (kd h15 (gP h15 t8 3) = 20) <|
          gg (β := (Int32 × Hp)) (inB t24 (ln h15 (gP h15 t8 3)) = true) <|
          MX7_payOfSlug_90 h15 t8 t18 (gI h15 v1 3) (gI h15 (gP h15 t8 3) t24.toNatClampNeg)
      else
        some ((0 : Int32), h15)
set_option maxRecDepth 100000 in
set_option maxHeartbeats 8000000 in
theorem eX7_payOfSlug {d : Nat} {h : Hp} {v0 : Nat} {v1 : Nat} {r : Int32} {h9 : Hp} (H : MX7_payOfSlug h v0 v1 = some (r, h9)) : J (d + 3) YX7_payOfSlug 0 [.ref v0, .ref v1, Value.null, Value.null, Value.null, Value.null] [] h (oI r) h9 := by
  unfold MX7_payOfSlug at H
  refine J_aload_n 0 dX7_payOfSlug_0 rfl rfl ?_
  refine J_aload_n 1 dX7_payOfSlug_1 rfl rfl ?_
  obtain ⟨g1, H⟩ := gd H
  refine J_getI 7 5 dX7_payOfSlug_2 g1 flX7_292 rfl ?_
  obtain ⟨g3, H⟩ := gd H
  obtain ⟨t4, e2, H⟩ := bd H
  refine J_cV (as := [.int (gI h v1 5)]) 6 YX7_findPart 1 dX7_payOfSlug_5 moX7_findPart mvX7_findPart mlX7_120 g3 rfl rfl (okX7_findPart (d := d + 2) e2) rfl rfl [] rfl rfl (st2 := [.ref t4]) rfl ?_
  refine J_astore_n 2 dX7_payOfSlug_8 rfl (by decide) (ls' := [.ref v0, .ref v1, .ref t4, Value.null, Value.null, Value.null]) rfl ?_
  refine J_aload_n 2 dX7_payOfSlug_9 rfl rfl ?_
  refine J_ifnonnull 15 dX7_payOfSlug_10 rfl (fun q5 => ?_) (fun q5 => ?_)
  · replace H := br0 q5 H
    refine J_aload_n 0 dX7_payOfSlug_15 rfl rfl ?_
    refine J_aload_n 1 dX7_payOfSlug_16 rfl rfl ?_
    refine J_getI 7 9 dX7_payOfSlug_17 g1 flX7_163 rfl ?_
    obtain ⟨t8, h7, e6, H⟩ := b2_el H
    refine J_cV (as := [.int (gI h v1 9)]) 6 YX7_styleAt 1 dX7_payOfSlug_20 moX7_styleAt mvX7_styleAt mlX7_145 g3 rfl rfl (okX7_styleAt (d := d) e6) rfl rfl [] rfl rfl (st2 := [.ref t8]) rfl ?_
    refine J_astore_n 3 dX7_payOfSlug_23 rfl (by decide) (ls' := [.ref v0, .ref v1, .ref t4, .ref t8, Value.null, Value.null]) rfl ?_
    refine J_aload_n 0 dX7_payOfSlug_24 rfl rfl ?_
    refine J_aload_n 1 dX7_payOfSlug_25 rfl rfl ?_
    refine J_aload_n 2 dX7_payOfSlug_26 rfl rfl ?_
    obtain ⟨g10, H⟩ := gd H
    obtain ⟨h11, e9, H⟩ := bd H
    refine J_cV (as := [.ref v1, .ref t4]) 6 YX7_factsOfSlug 2 dX7_payOfSlug_27 moX7_factsOfSlug mvX7_factsOfSlug mlX7_395 g10 rfl rfl (okX7_factsOfSlug (d := d + 1) e9) rfl rfl [] rfl rfl (st2 := []) rfl ?_
    refine J_aload_n 3 dX7_payOfSlug_30 rfl rfl ?_
    refine J_aload_n 0 dX7_payOfSlug_31 rfl rfl ?_
    obtain ⟨g12, H⟩ := gd H
    refine J_gP 6 15 dX7_payOfSlug_32 g12 flX7_76 rfl rfl ?_
    obtain ⟨g14, H⟩ := gd H
    obtain ⟨h15, e13, H⟩ := bd H
    refine J_cV (as := [.ref (gP h11 v0 15)]) 8 YX9_weigh 1 dX7_payOfSlug_35 moX9_weigh mvX9_weigh mlX7_178 g14 rfl rfl (okX9_weigh (d := d) e13) rfl rfl [] rfl rfl (st2 := []) rfl ?_
    refine J_aload_n 3 dX7_payOfSlug_38 rfl rfl ?_
    refine J_iconst (4 : Int32) dX7_payOfSlug_39 kc_4 ?_
    obtain ⟨g17, H⟩ := gd H
    obtain ⟨t18, e16, H⟩ := bd H
    refine J_cV (as := [.int (4 : Int32)]) 8 YX9_lastThatHolds 1 dX7_payOfSlug_40 moX9_lastThatHolds mvX9_lastThatHolds mlX7_399 g17 rfl rfl (okX9_lastThatHolds (d := d + 2) e16) rfl rfl [] rfl rfl (st2 := [.int t18]) rfl ?_
    refine J_istore dX7_payOfSlug_43 (by decide) (ls' := [.ref v0, .ref v1, .ref t4, .ref t8, .int t18, Value.null]) rfl ?_
    refine J_iload dX7_payOfSlug_45 rfl ?_
    refine J_iconst (-1 : Int32) dX7_payOfSlug_47 kc_m1 ?_
    refine J_icmp_eq 60 dX7_payOfSlug_48 rfl (fun q19 => ?_) (fun q19 => ?_)
    · replace H := br1 q19 H
      refine J_iconst (0 : Int32) dX7_payOfSlug_60 kc_0 ?_
      cases H
      exact J_iretI dX7_payOfSlug_61 rfl
    · replace H := br0 q19 H
      refine J_aload_n 3 dX7_payOfSlug_51 rfl rfl ?_
      refine J_iconst (5 : Int32) dX7_payOfSlug_52 kc_5 ?_
      obtain ⟨t21, e20, H⟩ := bd H
      refine J_cV (as := [.int (5 : Int32)]) 8 YX9_lastThatHolds 1 dX7_payOfSlug_53 moX9_lastThatHolds mvX9_lastThatHolds mlX7_399 g17 rfl rfl (okX9_lastThatHolds (d := d + 2) e20) rfl rfl [] rfl rfl (st2 := [.int t21]) rfl ?_
      refine J_iconst (-1 : Int32) dX7_payOfSlug_56 kc_m1 ?_
      refine J_icmp_eq 62 dX7_payOfSlug_57 rfl (fun q22 => ?_) (fun q22 => ?_)
      · replace H := br1 q22 H
        refine J_aload_n 3 dX7_payOfSlug_62 rfl rfl ?_
        refine J_iconst (3 : Int32) dX7_payOfSlug_63 kc_3 ?_
        obtain ⟨t24, e23, H⟩ := bd H
        refine J_cV (as := [.int (3 : Int32)]) 8 YX9_lastThatHolds 1 dX7_payOfSlug_64 moX9_lastThatHolds mvX9_lastThatHolds mlX7_399 g17 rfl rfl (okX9_lastThatHolds (d := d + 2) e23) rfl rfl [] rfl rfl (st2 := [.int t24]) rfl ?_
        refine J_istore dX7_payOfSlug_67 (by decide) (ls' := [.ref v0, .ref v1, .ref t4, .ref t8, .int t18, .int t24]) rfl ?_
        refine J_aload_n 1 dX7_payOfSlug_69 rfl rfl ?_
        obtain ⟨g25, H⟩ := gd H
        refine J_getI 7 3 dX7_payOfSlug_70 g25 flX7_172 rfl ?_
        refine J_iload dX7_payOfSlug_73 rfl ?_
        refine J_iconst (-1 : Int32) dX7_payOfSlug_75 kc_m1 ?_
        refine J_icmp_ne 83 dX7_payOfSlug_76 rfl (fun q26 => ?_) (fun q26 => ?_)
        · replace H := br0 q26 H
          refine J_aload_n 3 dX7_payOfSlug_83 rfl rfl ?_
          refine J_gP 8 3 dX7_payOfSlug_84 g17 flX7_402 rfl rfl ?_
          refine J_iload dX7_payOfSlug_87 rfl ?_
          obtain ⟨g27, H⟩ := gd H
          obtain ⟨g28, H⟩ := gd H
          refine J_iald dX7_payOfSlug_89 g27 (inB_ok g28) ?_
          exact J_dr (kX7_payOfSlug_90 H ) ⟨rfl, ⟨rfl, trivial⟩⟩
        · replace H := br1 q26 H
          refine J_iconst (0 : Int32) dX7_payOfSlug_79 kc_0 ?_
          refine J_goto 90 dX7_payOfSlug_80 rfl ?_
          exact J_dr (kX7_payOfSlug_90 H ) ⟨rfl, ⟨rfl, trivial⟩⟩
      · replace H := br0 q22 H
        refine J_iconst (0 : Int32) dX7_payOfSlug_60 kc_0 ?_
        cases H
        exact J_iretI dX7_payOfSlug_61 rfl
  · replace H := br1 q5 H
    refine J_iconst (0 : Int32) dX7_payOfSlug_13 kc_0 ?_
    cases H
    exact J_iretI dX7_payOfSlug_14 rfl
theorem okX7_payOfSlug {d : Nat} {h : Hp} {v0 : Nat} {v1 : Nat} {r : Int32} {h9 : Hp} (H : MX7_payOfSlug h v0 v1 = some (r, h9)) : CT (d + 3) YX7_payOfSlug [.ref v0, .ref v1] h (oI r) h9 := CT_of (by decide +kernel) (Nat.le_of_ble_eq_true rfl) (eX7_payOfSlug H)
noncomputable def MX7_payOf_67 (h : Hp) (v4 : Int32) : Option (Int32 × Hp) :=
  some ((v4 / (10 : Int32)), h)
set_option maxRecDepth 100000 in
set_option maxHeartbeats 8000000 in
theorem kX7_payOf_67 {d : Nat} {h : Hp} {v4 : Int32} {r : Int32} {h9 : Hp} (H : MX7_payOf_67 h v4 = some (r, h9)) : J (d + 4) YX7_payOf 67 [Value.null, Value.null, Value.null, Value.null, .int v4, Value.null, Value.null] [] h (oI r) h9 := by
  unfold MX7_payOf_67 at H
  refine J_iload dX7_payOf_67 rfl ?_
  refine J_bipush (10 : Int32) dX7_payOf_69 kb_10 ?_
  refine J_idiv dX7_payOf_71 (by decide) ?_
  cases H
  exact J_iretI dX7_payOf_72 rfl
noncomputable def BX7_payOf_6 (h : Hp) (v0 : Nat) (v1 : Int32) (v2 : Int32) (v3 : Int32) (v4 : Int32) (v5 : Int32) : Option ((Int32 × Int32 × Hp) ⊕ (Int32 × Hp)) :=
  gg (β := ((Int32 × Int32 × Hp) ⊕ (Int32 × Hp))) (kd h v0 = 6) <|
  if (gI h v0 11) ≤ v5 then
    up1 (MX7_payOf_67 h v4)
  else
    b2 (α := Nat) (β := Hp) (γ := ((Int32 × Int32 × Hp) ⊕ (Int32 × Hp))) (MX7_ownSlug h v0 v5) fun (t5 : Nat) (h4 : Hp) =>
    gg (β := ((Int32 × Int32 × Hp) ⊕ (Int32 × Hp))) (kd h4 t5 = 7) <|
    if (gI h4 t5 8) = v1 then
      if (gI h4 t5 9) < v2 then
        some (.inl (v4, (v5 + (1 : Int32)), h4))
      else
        if v3 < (gI h4 t5 9) then
          some (.inl (v4, (v5 + (1 : Int32)), h4))
        else
          gg (β := ((Int32 × Int32 × Hp) ⊕ (Int32 × Hp))) (kd h4 v0 = 6) <|
          b2 (α := Int32) (β := Hp) (γ := ((Int32 × Int32 × Hp) ⊕ (Int32 × Hp))) (MX7_payOfSlug h4 v0 t5) fun (t13 : Int32) (h12 : Hp) =>
          some (.inl ((v4 + t13), (v5 + (1 : Int32)), h12))
    else
      some (.inl (v4, (v5 + (1 : Int32)), h4))
set_option maxRecDepth 100000 in
set_option maxHeartbeats 8000000 in
theorem bX7_payOf_6 {d : Nat} {h : Hp} {v0 : Nat} {v1 : Int32} {v2 : Int32} {v3 : Int32} {v4 : Int32} {v5 : Int32} {r : Int32} {h9 : Hp} {x : ((Int32 × Int32 × Hp) ⊕ (Int32 × Hp))} (H : BX7_payOf_6 h v0 v1 v2 v3 v4 v5 = some x) (hb0 : ∀ s : Int32 × Int32 × Hp, x = .inl s → J (d + 4) YX7_payOf 6 [.ref v0, .int v1, .int v2, .int v3, .int s.1, .int s.2.1, Value.null] [] s.2.2 (oI r) h9) (hx : ∀ z : (Int32 × Hp), x = .inr (z) → z = (r, h9)) : J (d + 4) YX7_payOf 6 [.ref v0, .int v1, .int v2, .int v3, .int v4, .int v5, Value.null] [] h (oI r) h9 := by
  unfold BX7_payOf_6 at H
  refine J_iload dX7_payOf_6 rfl ?_
  refine J_aload_n 0 dX7_payOf_8 rfl rfl ?_
  obtain ⟨g1, H⟩ := gd H
  refine J_getI 6 11 dX7_payOf_9 g1 flX7_60 rfl ?_
  refine J_icmp_ge 67 dX7_payOf_12 rfl (fun q2 => ?_) (fun q2 => ?_)
  · replace H := br1 q2 H
    obtain ⟨y0, H90, rfl⟩ := up1_el H
    replace H := H90
    obtain rfl := hx _ rfl
    exact J_dr (kX7_payOf_67 H ) ⟨rfl, trivial⟩
  · replace H := br0 q2 H
    refine J_aload_n 0 dX7_payOf_15 rfl rfl ?_
    refine J_iload dX7_payOf_16 rfl ?_
    obtain ⟨t5, h4, e3, H⟩ := b2_el H
    refine J_cV (as := [.int v5]) 6 YX7_ownSlug 1 dX7_payOf_18 moX7_ownSlug mvX7_ownSlug mlX7_113 g1 rfl rfl (okX7_ownSlug (d := d + 2) e3) rfl rfl [] rfl rfl (st2 := [.ref t5]) rfl ?_
    refine J_astore dX7_payOf_21 (by decide) (ls' := [.ref v0, .int v1, .int v2, .int v3, .int v4, .int v5, .ref t5]) rfl ?_
    refine J_aload dX7_payOf_23 rfl ?_
    obtain ⟨g6, H⟩ := gd H
    refine J_getI 7 8 dX7_payOf_25 g6 flX7_175 rfl ?_
    refine J_iload_n 1 dX7_payOf_28 rfl rfl ?_
    refine J_icmp_ne 61 dX7_payOf_29 rfl (fun q7 => ?_) (fun q7 => ?_)
    · replace H := br0 q7 H
      refine J_iinc (v5 + (1 : Int32)) dX7_payOf_61 rfl (congrArg (HAdd.hAdd v5) kc_1) (by decide) (ls' := [.ref v0, .int v1, .int v2, .int v3, .int v4, .int (v5 + (1 : Int32)), .ref t5]) rfl ?_
      refine J_goto 6 dX7_payOf_64 rfl ?_
      cases H
      exact J_dr (hb0 _ rfl) ⟨rfl, ⟨rfl, ⟨rfl, ⟨rfl, ⟨rfl, ⟨rfl, trivial⟩⟩⟩⟩⟩⟩
    · replace H := br1 q7 H
      refine J_aload dX7_payOf_32 rfl ?_
      refine J_getI 7 9 dX7_payOf_34 g6 flX7_163 rfl ?_
      refine J_iload_n 2 dX7_payOf_37 rfl rfl ?_
      refine J_icmp_lt 61 dX7_payOf_38 rfl (fun q8 => ?_) (fun q8 => ?_)
      · replace H := br1 q8 H
        refine J_iinc (v5 + (1 : Int32)) dX7_payOf_61 rfl (congrArg (HAdd.hAdd v5) kc_1) (by decide) (ls' := [.ref v0, .int v1, .int v2, .int v3, .int v4, .int (v5 + (1 : Int32)), .ref t5]) rfl ?_
        refine J_goto 6 dX7_payOf_64 rfl ?_
        cases H
        exact J_dr (hb0 _ rfl) ⟨rfl, ⟨rfl, ⟨rfl, ⟨rfl, ⟨rfl, ⟨rfl, trivial⟩⟩⟩⟩⟩⟩
      · replace H := br0 q8 H
        refine J_aload dX7_payOf_41 rfl ?_
        refine J_getI 7 9 dX7_payOf_43 g6 flX7_163 rfl ?_
        refine J_iload_n 3 dX7_payOf_46 rfl rfl ?_
        refine J_icmp_gt 61 dX7_payOf_47 rfl (fun q9 => ?_) (fun q9 => ?_)
        · replace H := br1 q9 H
          refine J_iinc (v5 + (1 : Int32)) dX7_payOf_61 rfl (congrArg (HAdd.hAdd v5) kc_1) (by decide) (ls' := [.ref v0, .int v1, .int v2, .int v3, .int v4, .int (v5 + (1 : Int32)), .ref t5]) rfl ?_
          refine J_goto 6 dX7_payOf_64 rfl ?_
          cases H
          exact J_dr (hb0 _ rfl) ⟨rfl, ⟨rfl, ⟨rfl, ⟨rfl, ⟨rfl, ⟨rfl, trivial⟩⟩⟩⟩⟩⟩
        · replace H := br0 q9 H
          refine J_iload dX7_payOf_50 rfl ?_
          refine J_aload_n 0 dX7_payOf_52 rfl rfl ?_
          refine J_aload dX7_payOf_53 rfl ?_
          obtain ⟨g11, H⟩ := gd H
          obtain ⟨t13, h12, e10, H⟩ := b2_el H
          refine J_cV (as := [.ref t5]) 6 YX7_payOfSlug 1 dX7_payOf_55 moX7_payOfSlug mvX7_payOfSlug mlX7_391 g11 rfl rfl (okX7_payOfSlug (d := d) e10) rfl rfl [.int v4] rfl rfl (st2 := [.int t13, .int v4]) rfl ?_
          refine J_iadd dX7_payOf_58 ?_
          refine J_istore dX7_payOf_59 (by decide) (ls' := [.ref v0, .int v1, .int v2, .int v3, .int (v4 + t13), .int v5, .ref t5]) rfl ?_
          refine J_iinc (v5 + (1 : Int32)) dX7_payOf_61 rfl (congrArg (HAdd.hAdd v5) kc_1) (by decide) (ls' := [.ref v0, .int v1, .int v2, .int v3, .int (v4 + t13), .int (v5 + (1 : Int32)), .ref t5]) rfl ?_
          refine J_goto 6 dX7_payOf_64 rfl ?_
          cases H
          exact J_dr (hb0 _ rfl) ⟨rfl, ⟨rfl, ⟨rfl, ⟨rfl, ⟨rfl, ⟨rfl, trivial⟩⟩⟩⟩⟩⟩
noncomputable def MX7_payOf_6 (h : Hp) (v0 : Nat) (v1 : Int32) (v2 : Int32) (v3 : Int32) (v4 : Int32) (v5 : Int32) : Option (Int32 × Hp) := it (fun q : Int32 × Int32 × Hp => BX7_payOf_6 q.2.2 v0 v1 v2 v3 q.1 q.2.1) (v4, v5, h)
set_option maxRecDepth 100000 in
set_option maxHeartbeats 8000000 in
theorem kX7_payOf_6 {d : Nat} {h : Hp} {v0 : Nat} {v1 : Int32} {v2 : Int32} {v3 : Int32} {v4 : Int32} {v5 : Int32} {r : Int32} {h9 : Hp} (H : MX7_payOf_6 h v0 v1 v2 v3 v4 v5 = some (r, h9)) : J (d + 4) YX7_payOf 6 [.ref v0, .int v1, .int v2, .int v3, .int v4, .int v5, Value.null] [] h (oI r) h9 := by
  unfold MX7_payOf_6 at H
  refine it_J (G := (fun q : Int32 × Int32 × Hp => J (d + 4) YX7_payOf 6 [.ref v0, .int v1, .int v2, .int v3, .int q.1, .int q.2.1, Value.null] [] q.2.2 (oI r) h9)) (Q := (fun y : (Int32 × Hp) => y = (r, h9))) (fun q x Hq hm => ?_) H rfl
  exact bX7_payOf_6 Hq (fun s hs => by subst hs; exact hm) (fun z hz => by subst hz; exact hm)
noncomputable def MX7_payOf (h : Hp) (v0 : Nat) (v1 : Int32) (v2 : Int32) (v3 : Int32) : Option (Int32 × Hp) :=
  MX7_payOf_6 h v0 v1 v2 v3 (0 : Int32) (0 : Int32)
set_option maxRecDepth 100000 in
set_option maxHeartbeats 8000000 in
theorem eX7_payOf {d : Nat} {h : Hp} {v0 : Nat} {v1 : Int32} {v2 : Int32} {v3 : Int32} {r : Int32} {h9 : Hp} (H : MX7_payOf h v0 v1 v2 v3 = some (r, h9)) : J (d + 4) YX7_payOf 0 [.ref v0, .int v1, .int v2, .int v3, Value.null, Value.null, Value.null] [] h (oI r) h9 := by
  unfold MX7_payOf at H
  refine J_iconst (0 : Int32) dX7_payOf_0 kc_0 ?_
  refine J_istore dX7_payOf_1 (by decide) (ls' := [.ref v0, .int v1, .int v2, .int v3, .int (0 : Int32), Value.null, Value.null]) rfl ?_
  refine J_iconst (0 : Int32) dX7_payOf_3 kc_0 ?_
  refine J_istore dX7_payOf_4 (by decide) (ls' := [.ref v0, .int v1, .int v2, .int v3, .int (0 : Int32), .int (0 : Int32), Value.null]) rfl ?_
  exact J_dr (kX7_payOf_6 H ) ⟨rfl, ⟨rfl, ⟨rfl, ⟨rfl, ⟨rfl, ⟨rfl, trivial⟩⟩⟩⟩⟩⟩
theorem okX7_payOf {d : Nat} {h : Hp} {v0 : Nat} {v1 : Int32} {v2 : Int32} {v3 : Int32} {r : Int32} {h9 : Hp} (H : MX7_payOf h v0 v1 v2 v3 = some (r, h9)) : CT (d + 4) YX7_payOf [.ref v0, .int v1, .int v2, .int v3] h (oI r) h9 := CT_of (by decide +kernel) (Nat.le_of_ble_eq_true rfl) (eX7_payOf H)
noncomputable def MX11_pay (h : Hp) (v0 : Nat) (v1 : Int32) (v2 : Int32) (v3 : Int32) : Option ((Int32 ⊕ Nat) × Hp) :=
  gg (β := ((Int32 ⊕ Nat) × Hp)) (kd h v0 = 10) <|
  gg (β := ((Int32 ⊕ Nat) × Hp)) (kd h (gP h v0 5) = 6) <|
  Option.bind (α := Nat) (β := ((Int32 ⊕ Nat) × Hp)) (MX7_findMachine h (gP h v0 5) v1) fun (t4 : Nat) =>
  if t4 = 0 then
    some (.inr 1, bmp h 1 6)
  else
    b2 (α := Int32) (β := Hp) (γ := ((Int32 ⊕ Nat) × Hp)) (MX7_payOf h (gP h v0 5) v1 v2 v3) fun (t8 : Int32) (h7 : Hp) =>
    some (.inl t8, h7)
set_option maxRecDepth 100000 in
set_option maxHeartbeats 8000000 in
theorem eX11_pay {d : Nat} {h : Hp} {v0 : Nat} {v1 : Int32} {v2 : Int32} {v3 : Int32} {r : Int32 ⊕ Nat} {h9 : Hp} (H : MX11_pay h v0 v1 v2 v3 = some (r, h9)) : J (d + 5) YX11_pay 0 [.ref v0, .int v1, .int v2, .int v3] [] h (oT r) h9 := by
  unfold MX11_pay at H
  refine J_aload_n 0 dX11_pay_0 rfl rfl ?_
  obtain ⟨g1, H⟩ := gd H
  refine J_gP 10 5 dX11_pay_1 g1 flX11_39 rfl rfl ?_
  refine J_iload_n 1 dX11_pay_4 rfl rfl ?_
  obtain ⟨g3, H⟩ := gd H
  obtain ⟨t4, e2, H⟩ := bd H
  refine J_cV (as := [.int v1]) 6 YX7_findMachine 1 dX11_pay_5 moX7_findMachine mvX7_findMachine mlX11_231 g3 rfl rfl (okX7_findMachine (d := d + 4) e2) rfl rfl [] rfl rfl (st2 := [.ref t4]) rfl ?_
  refine J_ifnonnull 19 dX11_pay_8 rfl (fun q5 => ?_) (fun q5 => ?_)
  · replace H := br0 q5 H
    refine J_aload_n 0 dX11_pay_19 rfl rfl ?_
    refine J_gP 10 5 dX11_pay_20 g1 flX11_39 rfl rfl ?_
    refine J_iload_n 1 dX11_pay_23 rfl rfl ?_
    refine J_iload_n 2 dX11_pay_24 rfl rfl ?_
    refine J_iload_n 3 dX11_pay_25 rfl rfl ?_
    obtain ⟨t8, h7, e6, H⟩ := b2_el H
    refine J_cV (as := [.int v1, .int v2, .int v3]) 6 YX7_payOf 3 dX11_pay_26 moX7_payOf mvX7_payOf mlX11_480 g3 rfl rfl (okX7_payOf (d := d) e6) rfl rfl [] rfl rfl (st2 := [.int t8]) rfl ?_
    cases H
    exact J_iretI dX11_pay_29 rfl
  · replace H := br1 q5 H
    cases H
    exact J_throw 1 ["java/lang/RuntimeException", "java/lang/Exception"] dX11_pay_11 dX11_pay_14 dX11_pay_15 dX11_pay_18 th_86 clX11_84 (Nat.le_of_ble_eq_true rfl)
theorem okX11_pay {d : Nat} {h : Hp} {v0 : Nat} {v1 : Int32} {v2 : Int32} {v3 : Int32} {r : Int32 ⊕ Nat} {h9 : Hp} (H : MX11_pay h v0 v1 v2 v3 = some (r, h9)) : CT (d + 5) YX11_pay [.ref v0, .int v1, .int v2, .int v3] h (oT r) h9 := CT_of (by decide +kernel) (Nat.le_of_ble_eq_true rfl) (eX11_pay H)
noncomputable def MX11_pie (h : Hp) (v0 : Nat) (v1 : Int32) : Option ((Int32 ⊕ Nat) × Hp) :=
  gg (β := ((Int32 ⊕ Nat) × Hp)) (kd h v0 = 10) <|
  gg (β := ((Int32 ⊕ Nat) × Hp)) (kd h (gP h v0 5) = 6) <|
  Option.bind (α := Nat) (β := ((Int32 ⊕ Nat) × Hp)) (MX7_findSlug h (gP h v0 5) v1) fun (t4 : Nat) =>
  if t4 = 0 then
    some (.inr 1, bmp h 1 6)
  else
    gg (β := ((Int32 ⊕ Nat) × Hp)) (kd h t4 = 7) <|
    if (gI h t4 10) = 0 then
      Option.bind (α := Hp) (β := ((Int32 ⊕ Nat) × Hp)) (MX7_takeAway h (gP h v0 5) t4 (1 : Int32)) fun (h9 : Hp) =>
      some (.inl (1 : Int32), h9)
    else
      some (.inl (0 : Int32), h)
set_option maxRecDepth 100000 in
set_option maxHeartbeats 8000000 in
theorem eX11_pie {d : Nat} {h : Hp} {v0 : Nat} {v1 : Int32} {r : Int32 ⊕ Nat} {h9 : Hp} (H : MX11_pie h v0 v1 = some (r, h9)) : J (d + 2) YX11_pie 0 [.ref v0, .int v1, Value.null] [] h (oT r) h9 := by
  unfold MX11_pie at H
  refine J_aload_n 0 dX11_pie_0 rfl rfl ?_
  obtain ⟨g1, H⟩ := gd H
  refine J_gP 10 5 dX11_pie_1 g1 flX11_39 rfl rfl ?_
  refine J_iload_n 1 dX11_pie_4 rfl rfl ?_
  obtain ⟨g3, H⟩ := gd H
  obtain ⟨t4, e2, H⟩ := bd H
  refine J_cV (as := [.int v1]) 6 YX7_findSlug 1 dX11_pie_5 moX7_findSlug mvX7_findSlug mlX11_280 g3 rfl rfl (okX7_findSlug (d := d + 1) e2) rfl rfl [] rfl rfl (st2 := [.ref t4]) rfl ?_
  refine J_astore_n 2 dX11_pie_8 rfl (by decide) (ls' := [.ref v0, .int v1, .ref t4]) rfl ?_
  refine J_aload_n 2 dX11_pie_9 rfl rfl ?_
  refine J_ifnonnull 21 dX11_pie_10 rfl (fun q5 => ?_) (fun q5 => ?_)
  · replace H := br0 q5 H
    refine J_aload_n 2 dX11_pie_21 rfl rfl ?_
    obtain ⟨g6, H⟩ := gd H
    refine J_getI 7 10 dX11_pie_22 g6 flX11_298 rfl ?_
    refine J_if_eq 30 dX11_pie_25 rfl (fun q7 => ?_) (fun q7 => ?_)
    · replace H := br1 q7 H
      refine J_aload_n 0 dX11_pie_30 rfl rfl ?_
      refine J_gP 10 5 dX11_pie_31 g1 flX11_39 rfl rfl ?_
      refine J_aload_n 2 dX11_pie_34 rfl rfl ?_
      refine J_iconst (1 : Int32) dX11_pie_35 kc_1 ?_
      obtain ⟨h9, e8, H⟩ := bd H
      refine J_cV (as := [.ref t4, .int (1 : Int32)]) 6 YX7_takeAway 2 dX11_pie_36 moX7_takeAway mvX7_takeAway mlX11_330 g3 rfl rfl (okX7_takeAway (d := d) e8) rfl rfl [] rfl rfl (st2 := []) rfl ?_
      refine J_iconst (1 : Int32) dX11_pie_39 kc_1 ?_
      cases H
      exact J_rZ dX11_pie_40 rfl rfl
    · replace H := br0 q7 H
      refine J_iconst (0 : Int32) dX11_pie_28 kc_0 ?_
      cases H
      exact J_rZ dX11_pie_29 rfl rfl
  · replace H := br1 q5 H
    cases H
    exact J_throw 1 ["java/lang/RuntimeException", "java/lang/Exception"] dX11_pie_13 dX11_pie_16 dX11_pie_17 dX11_pie_20 th_86 clX11_84 (Nat.le_of_ble_eq_true rfl)
theorem okX11_pie {d : Nat} {h : Hp} {v0 : Nat} {v1 : Int32} {r : Int32 ⊕ Nat} {h9 : Hp} (H : MX11_pie h v0 v1 = some (r, h9)) : CT (d + 2) YX11_pie [.ref v0, .int v1] h (oT r) h9 := CT_of (by decide +kernel) (Nat.le_of_ble_eq_true rfl) (eX11_pie H)
noncomputable def MX7_countMarked_44 (h : Hp) (v0 : Nat) (v1 : Int32) (v3 : Int32) (s0 : Int32) (s1 : Int32) : Option ((Int32 × Int32 × Hp) ⊕ (Int32 × Hp)) :=
  some (.inl ((s0 + s1), (v3 + (1 : Int32)), h))
set_option maxRecDepth 100000 in
set_option maxHeartbeats 8000000 in
theorem kX7_countMarked_44 {d : Nat} {h : Hp} {v0 : Nat} {v1 : Int32} {v3 : Int32} {s0 : Int32} {s1 : Int32} {r : Int32} {h9 : Hp} {x : ((Int32 × Int32 × Hp) ⊕ (Int32 × Hp))} (H : MX7_countMarked_44 h v0 v1 v3 s0 s1 = some x) (hb0 : ∀ s : Int32 × Int32 × Hp, x = .inl s → J (d + 2) YX7_countMarked 4 [.ref v0, .int v1, .int s.1, .int s.2.1, Value.null] [] s.2.2 (oI r) h9) (hx : ∀ z : (Int32 × Hp), x = .inr (z) → z = (r, h9)) : J (d + 2) YX7_countMarked 44 [.ref v0, .int v1, Value.null, .int v3, Value.null] [.int s1, .int s0] h (oI r) h9 := by
  unfold MX7_countMarked_44 at H
  refine J_iadd dX7_countMarked_44 ?_
  refine J_istore_n 2 dX7_countMarked_45 rfl (by decide) (ls' := [.ref v0, .int v1, .int (s0 + s1), .int v3, Value.null]) rfl ?_
  refine J_iinc (v3 + (1 : Int32)) dX7_countMarked_46 rfl (congrArg (HAdd.hAdd v3) kc_1) (by decide) (ls' := [.ref v0, .int v1, .int (s0 + s1), .int (v3 + (1 : Int32)), Value.null]) rfl ?_
  refine J_goto 4 dX7_countMarked_49 rfl ?_
  cases H
  exact J_dr (hb0 _ rfl) ⟨rfl, ⟨rfl, ⟨rfl, ⟨rfl, trivial⟩⟩⟩⟩
noncomputable def MX7_countMarked_43 (h : Hp) (v0 : Nat) (v1 : Int32) (v3 : Int32) (s0 : Int32) : Option ((Int32 × Int32 × Hp) ⊕ (Int32 × Hp)) :=
  MX7_countMarked_44 h v0 v1 v3 s0 (0 : Int32)
set_option maxRecDepth 100000 in
set_option maxHeartbeats 8000000 in
theorem kX7_countMarked_43 {d : Nat} {h : Hp} {v0 : Nat} {v1 : Int32} {v3 : Int32} {s0 : Int32} {r : Int32} {h9 : Hp} {x : ((Int32 × Int32 × Hp) ⊕ (Int32 × Hp))} (H : MX7_countMarked_43 h v0 v1 v3 s0 = some x) (hb0 : ∀ s : Int32 × Int32 × Hp, x = .inl s → J (d + 2) YX7_countMarked 4 [.ref v0, .int v1, .int s.1, .int s.2.1, Value.null] [] s.2.2 (oI r) h9) (hx : ∀ z : (Int32 × Hp), x = .inr (z) → z = (r, h9)) : J (d + 2) YX7_countMarked 43 [.ref v0, .int v1, Value.null, .int v3, Value.null] [.int s0] h (oI r) h9 := by
  unfold MX7_countMarked_43 at H
  refine J_iconst (0 : Int32) dX7_countMarked_43 kc_0 ?_
  exact J_dr (kX7_countMarked_44 H hb0 hx) ⟨rfl, ⟨rfl, ⟨rfl, trivial⟩⟩⟩
noncomputable def BX7_countMarked_4 (h : Hp) (v0 : Nat) (v1 : Int32) (v2 : Int32) (v3 : Int32) : Option ((Int32 × Int32 × Hp) ⊕ (Int32 × Hp)) :=
  gg (β := ((Int32 × Int32 × Hp) ⊕ (Int32 × Hp))) (kd h v0 = 6) <|
  if (gI h v0 11) ≤ v3 then
    some (.inr ((v2, h)))
  else
    b2 (α := Nat) (β := Hp) (γ := ((Int32 × Int32 × Hp) ⊕ (Int32 × Hp))) (MX7_ownSlug h v0 v3) fun (t5 : Nat) (h4 : Hp) =>
    gg (β := ((Int32 × Int32 × Hp) ⊕ (Int32 × Hp))) (kd h4 t5 = 7) <|
    if (gI h4 t5 10) = 0 then
      if ((gI h4 t5 13) &&& v1) = v1 then
        MX7_countMarked_44 h4 v0 v1 v3 v2 (1 : Int32)
      else
        MX7_countMarked_43 h4 v0 v1 v3 v2
    else
      MX7_countMarked_43 h4 v0 v1 v3 v2
set_option maxRecDepth 100000 in
set_option maxHeartbeats 8000000 in
theorem bX7_countMarked_4 {d : Nat} {h : Hp} {v0 : Nat} {v1 : Int32} {v2 : Int32} {v3 : Int32} {r : Int32} {h9 : Hp} {x : ((Int32 × Int32 × Hp) ⊕ (Int32 × Hp))} (H : BX7_countMarked_4 h v0 v1 v2 v3 = some x) (hb0 : ∀ s : Int32 × Int32 × Hp, x = .inl s → J (d + 2) YX7_countMarked 4 [.ref v0, .int v1, .int s.1, .int s.2.1, Value.null] [] s.2.2 (oI r) h9) (hx : ∀ z : (Int32 × Hp), x = .inr (z) → z = (r, h9)) : J (d + 2) YX7_countMarked 4 [.ref v0, .int v1, .int v2, .int v3, Value.null] [] h (oI r) h9 := by
  unfold BX7_countMarked_4 at H
  refine J_iload_n 3 dX7_countMarked_4 rfl rfl ?_
  refine J_aload_n 0 dX7_countMarked_5 rfl rfl ?_
  obtain ⟨g1, H⟩ := gd H
  refine J_getI 6 11 dX7_countMarked_6 g1 flX7_60 rfl ?_
  refine J_icmp_ge 52 dX7_countMarked_9 rfl (fun q2 => ?_) (fun q2 => ?_)
  · replace H := br1 q2 H
    refine J_iload_n 2 dX7_countMarked_52 rfl rfl ?_
    cases H
    cases hx _ rfl
    exact J_iretI dX7_countMarked_53 rfl
  · replace H := br0 q2 H
    refine J_aload_n 0 dX7_countMarked_12 rfl rfl ?_
    refine J_iload_n 3 dX7_countMarked_13 rfl rfl ?_
    obtain ⟨t5, h4, e3, H⟩ := b2_el H
    refine J_cV (as := [.int v3]) 6 YX7_ownSlug 1 dX7_countMarked_14 moX7_ownSlug mvX7_ownSlug mlX7_113 g1 rfl rfl (okX7_ownSlug (d := d) e3) rfl rfl [] rfl rfl (st2 := [.ref t5]) rfl ?_
    refine J_astore dX7_countMarked_17 (by decide) (ls' := [.ref v0, .int v1, .int v2, .int v3, .ref t5]) rfl ?_
    refine J_iload_n 2 dX7_countMarked_19 rfl rfl ?_
    refine J_aload dX7_countMarked_20 rfl ?_
    obtain ⟨g6, H⟩ := gd H
    refine J_getI 7 10 dX7_countMarked_22 g6 flX7_318 rfl ?_
    refine J_if_ne 43 dX7_countMarked_25 rfl (fun q7 => ?_) (fun q7 => ?_)
    · replace H := br0 q7 H
      exact J_dr (kX7_countMarked_43 H hb0 hx) ⟨rfl, ⟨rfl, ⟨rfl, trivial⟩⟩⟩
    · replace H := br1 q7 H
      refine J_aload dX7_countMarked_28 rfl ?_
      refine J_getI 7 13 dX7_countMarked_30 g6 flX7_378 rfl ?_
      refine J_iload_n 1 dX7_countMarked_33 rfl rfl ?_
      refine J_iand dX7_countMarked_34 ?_
      refine J_iload_n 1 dX7_countMarked_35 rfl rfl ?_
      refine J_icmp_ne 43 dX7_countMarked_36 rfl (fun q8 => ?_) (fun q8 => ?_)
      · replace H := br0 q8 H
        exact J_dr (kX7_countMarked_43 H hb0 hx) ⟨rfl, ⟨rfl, ⟨rfl, trivial⟩⟩⟩
      · replace H := br1 q8 H
        refine J_iconst (1 : Int32) dX7_countMarked_39 kc_1 ?_
        refine J_goto 44 dX7_countMarked_40 rfl ?_
        exact J_dr (kX7_countMarked_44 H hb0 hx) ⟨rfl, ⟨rfl, ⟨rfl, trivial⟩⟩⟩
noncomputable def MX7_countMarked_4 (h : Hp) (v0 : Nat) (v1 : Int32) (v2 : Int32) (v3 : Int32) : Option (Int32 × Hp) := it (fun q : Int32 × Int32 × Hp => BX7_countMarked_4 q.2.2 v0 v1 q.1 q.2.1) (v2, v3, h)
set_option maxRecDepth 100000 in
set_option maxHeartbeats 8000000 in
theorem kX7_countMarked_4 {d : Nat} {h : Hp} {v0 : Nat} {v1 : Int32} {v2 : Int32} {v3 : Int32} {r : Int32} {h9 : Hp} (H : MX7_countMarked_4 h v0 v1 v2 v3 = some (r, h9)) : J (d + 2) YX7_countMarked 4 [.ref v0, .int v1, .int v2, .int v3, Value.null] [] h (oI r) h9 := by
  unfold MX7_countMarked_4 at H
  refine it_J (G := (fun q : Int32 × Int32 × Hp => J (d + 2) YX7_countMarked 4 [.ref v0, .int v1, .int q.1, .int q.2.1, Value.null] [] q.2.2 (oI r) h9)) (Q := (fun y : (Int32 × Hp) => y = (r, h9))) (fun q x Hq hm => ?_) H rfl
  exact bX7_countMarked_4 Hq (fun s hs => by subst hs; exact hm) (fun z hz => by subst hz; exact hm)
noncomputable def MX7_countMarked (h : Hp) (v0 : Nat) (v1 : Int32) : Option (Int32 × Hp) :=
  MX7_countMarked_4 h v0 v1 (0 : Int32) (0 : Int32)
set_option maxRecDepth 100000 in
set_option maxHeartbeats 8000000 in
theorem eX7_countMarked {d : Nat} {h : Hp} {v0 : Nat} {v1 : Int32} {r : Int32} {h9 : Hp} (H : MX7_countMarked h v0 v1 = some (r, h9)) : J (d + 2) YX7_countMarked 0 [.ref v0, .int v1, Value.null, Value.null, Value.null] [] h (oI r) h9 := by
  unfold MX7_countMarked at H
  refine J_iconst (0 : Int32) dX7_countMarked_0 kc_0 ?_
  refine J_istore_n 2 dX7_countMarked_1 rfl (by decide) (ls' := [.ref v0, .int v1, .int (0 : Int32), Value.null, Value.null]) rfl ?_
  refine J_iconst (0 : Int32) dX7_countMarked_2 kc_0 ?_
  refine J_istore_n 3 dX7_countMarked_3 rfl (by decide) (ls' := [.ref v0, .int v1, .int (0 : Int32), .int (0 : Int32), Value.null]) rfl ?_
  exact J_dr (kX7_countMarked_4 H ) ⟨rfl, ⟨rfl, ⟨rfl, ⟨rfl, trivial⟩⟩⟩⟩
theorem okX7_countMarked {d : Nat} {h : Hp} {v0 : Nat} {v1 : Int32} {r : Int32} {h9 : Hp} (H : MX7_countMarked h v0 v1 = some (r, h9)) : CT (d + 2) YX7_countMarked [.ref v0, .int v1] h (oI r) h9 := CT_of (by decide +kernel) (Nat.le_of_ble_eq_true rfl) (eX7_countMarked H)
noncomputable def MX7_missed (h : Hp) (v0 : Nat) : Option (Int32 × Hp) :=
  gg (β := (Int32 × Hp)) (kd h v0 = 6) <|
  b2 (α := Int32) (β := Hp) (γ := (Int32 × Hp)) (MX7_countMarked h v0 (3 : Int32)) fun (t4 : Int32) (h3 : Hp) =>
  if t4 = 0 then
    some ((-1 : Int32), h3)
  else
    gg (β := (Int32 × Hp)) (kd h3 v0 = 6) <|
    b2 (α := Int32) (β := Hp) (γ := (Int32 × Hp)) (MX7_countMarked h3 v0 (1 : Int32)) fun (t9 : Int32) (h8 : Hp) =>
    gg (β := (Int32 × Hp)) (kd h8 v0 = 6) <|
    b2 (α := Int32) (β := Hp) (γ := (Int32 × Hp)) (MX7_countMarked h8 v0 (2 : Int32)) fun (t13 : Int32) (h12 : Hp) =>
    gn (β := (Int32 × Hp)) (t4 = 0) <|
    some ((((t9 - t4) * (t13 - t4)) / t4), h12)
set_option maxRecDepth 100000 in
set_option maxHeartbeats 8000000 in
theorem eX7_missed {d : Nat} {h : Hp} {v0 : Nat} {r : Int32} {h9 : Hp} (H : MX7_missed h v0 = some (r, h9)) : J (d + 3) YX7_missed 0 [.ref v0, Value.null] [] h (oI r) h9 := by
  unfold MX7_missed at H
  refine J_aload_n 0 dX7_missed_0 rfl rfl ?_
  refine J_iconst (3 : Int32) dX7_missed_1 kc_3 ?_
  obtain ⟨g2, H⟩ := gd H
  obtain ⟨t4, h3, e1, H⟩ := b2_el H
  refine J_cV (as := [.int (3 : Int32)]) 6 YX7_countMarked 1 dX7_missed_2 moX7_countMarked mvX7_countMarked mlX7_384 g2 rfl rfl (okX7_countMarked (d := d) e1) rfl rfl [] rfl rfl (st2 := [.int t4]) rfl ?_
  refine J_istore_n 1 dX7_missed_5 rfl (by decide) (ls' := [.ref v0, .int t4]) rfl ?_
  refine J_iload_n 1 dX7_missed_6 rfl rfl ?_
  refine J_if_ne 12 dX7_missed_7 rfl (fun q5 => ?_) (fun q5 => ?_)
  · replace H := br0 q5 H
    refine J_aload_n 0 dX7_missed_12 rfl rfl ?_
    refine J_iconst (1 : Int32) dX7_missed_13 kc_1 ?_
    obtain ⟨g7, H⟩ := gd H
    obtain ⟨t9, h8, e6, H⟩ := b2_el H
    refine J_cV (as := [.int (1 : Int32)]) 6 YX7_countMarked 1 dX7_missed_14 moX7_countMarked mvX7_countMarked mlX7_384 g7 rfl rfl (okX7_countMarked (d := d) e6) rfl rfl [] rfl rfl (st2 := [.int t9]) rfl ?_
    refine J_iload_n 1 dX7_missed_17 rfl rfl ?_
    refine J_isub dX7_missed_18 ?_
    refine J_aload_n 0 dX7_missed_19 rfl rfl ?_
    refine J_iconst (2 : Int32) dX7_missed_20 kc_2 ?_
    obtain ⟨g11, H⟩ := gd H
    obtain ⟨t13, h12, e10, H⟩ := b2_el H
    refine J_cV (as := [.int (2 : Int32)]) 6 YX7_countMarked 1 dX7_missed_21 moX7_countMarked mvX7_countMarked mlX7_384 g11 rfl rfl (okX7_countMarked (d := d) e10) rfl rfl [.int (t9 - t4)] rfl rfl (st2 := [.int t13, .int (t9 - t4)]) rfl ?_
    refine J_iload_n 1 dX7_missed_24 rfl rfl ?_
    refine J_isub dX7_missed_25 ?_
    refine J_imul dX7_missed_26 ?_
    refine J_iload_n 1 dX7_missed_27 rfl rfl ?_
    obtain ⟨g14, H⟩ := gdn H
    refine J_idiv dX7_missed_28 g14 ?_
    cases H
    exact J_iretI dX7_missed_29 rfl
  · replace H := br1 q5 H
    refine J_iconst (-1 : Int32) dX7_missed_10 kc_m1 ?_
    cases H
    exact J_iretI dX7_missed_11 rfl
theorem okX7_missed {d : Nat} {h : Hp} {v0 : Nat} {r : Int32} {h9 : Hp} (H : MX7_missed h v0 = some (r, h9)) : CT (d + 3) YX7_missed [.ref v0] h (oI r) h9 := CT_of (by decide +kernel) (Nat.le_of_ble_eq_true rfl) (eX7_missed H)
noncomputable def MX11_proof (h : Hp) (v0 : Nat) (v1 : Int32) : Option ((Int32 ⊕ Nat) × Hp) :=
  if v1 = (0 : Int32) then
    gg (β := ((Int32 ⊕ Nat) × Hp)) (kd h v0 = 10) <|
    gg (β := ((Int32 ⊕ Nat) × Hp)) (kd h (gP h v0 5) = 6) <|
    b2 (α := Int32) (β := Hp) (γ := ((Int32 ⊕ Nat) × Hp)) (MX7_countMarked h (gP h v0 5) (1 : Int32)) fun (t5 : Int32) (h4 : Hp) =>
    some (.inl t5, h4)
  else
  if v1 = (1 : Int32) then
    gg (β := ((Int32 ⊕ Nat) × Hp)) (kd h v0 = 10) <|
    gg (β := ((Int32 ⊕ Nat) × Hp)) (kd h (gP h v0 5) = 6) <|
    b2 (α := Int32) (β := Hp) (γ := ((Int32 ⊕ Nat) × Hp)) (MX7_countMarked h (gP h v0 5) (2 : Int32)) fun (t10 : Int32) (h9 : Hp) =>
    some (.inl t10, h9)
  else
  if v1 = (2 : Int32) then
    gg (β := ((Int32 ⊕ Nat) × Hp)) (kd h v0 = 10) <|
    gg (β := ((Int32 ⊕ Nat) × Hp)) (kd h (gP h v0 5) = 6) <|
    b2 (α := Int32) (β := Hp) (γ := ((Int32 ⊕ Nat) × Hp)) (MX7_countMarked h (gP h v0 5) (3 : Int32)) fun (t15 : Int32) (h14 : Hp) =>
    some (.inl t15, h14)
  else
  if v1 = (3 : Int32) then
    gg (β := ((Int32 ⊕ Nat) × Hp)) (kd h v0 = 10) <|
    gg (β := ((Int32 ⊕ Nat) × Hp)) (kd h (gP h v0 5) = 6) <|
    b2 (α := Int32) (β := Hp) (γ := ((Int32 ⊕ Nat) × Hp)) (MX7_missed h (gP h v0 5)) fun (t20 : Int32) (h19 : Hp) =>
    some (.inl t20, h19)
  else
  if v1 = (4 : Int32) then
    gg (β := ((Int32 ⊕ Nat) × Hp)) (kd h v0 = 10) <|
    gg (β := ((Int32 ⊕ Nat) × Hp)) (kd h (gP h v0 5) = 6) <|
    b2 (α := Int32) (β := Hp) (γ := ((Int32 ⊕ Nat) × Hp)) (MX7_countRead h (gP h v0 5) (1 : Int32) (0 : Int32)) fun (t25 : Int32) (h24 : Hp) =>
    some (.inl t25, h24)
  else
  if v1 = (5 : Int32) then
    gg (β := ((Int32 ⊕ Nat) × Hp)) (kd h v0 = 10) <|
    gg (β := ((Int32 ⊕ Nat) × Hp)) (kd h (gP h v0 5) = 6) <|
    b2 (α := Int32) (β := Hp) (γ := ((Int32 ⊕ Nat) × Hp)) (MX7_countRead h (gP h v0 5) (0 : Int32) (1 : Int32)) fun (t30 : Int32) (h29 : Hp) =>
    some (.inl t30, h29)
  else
    some (.inr 4, bmp h 1 6)
set_option maxRecDepth 100000 in
set_option maxHeartbeats 8000000 in
theorem eX11_proof {d : Nat} {h : Hp} {v0 : Nat} {v1 : Int32} {r : Int32 ⊕ Nat} {h9 : Hp} (H : MX11_proof h v0 v1 = some (r, h9)) : J (d + 4) YX11_proof 0 [.ref v0, .int v1] [] h (oT r) h9 := by
  unfold MX11_proof at H
  refine J_iload_n 1 dX11_proof_0 rfl rfl ?_
  by_cases q1000 : v1 = (0 : Int32)
  · replace H := br1 q1000 H
    refine J_tab 40 dX11_proof_1 q1000 (by decide) rfl rfl ?_
    refine J_aload_n 0 dX11_proof_40 rfl rfl ?_
    obtain ⟨g1, H⟩ := gd H
    refine J_gP 10 5 dX11_proof_41 g1 flX11_39 rfl rfl ?_
    refine J_iconst (1 : Int32) dX11_proof_44 kc_1 ?_
    obtain ⟨g3, H⟩ := gd H
    obtain ⟨t5, h4, e2, H⟩ := b2_el H
    refine J_cV (as := [.int (1 : Int32)]) 6 YX7_countMarked 1 dX11_proof_45 moX7_countMarked mvX7_countMarked mlX11_361 g3 rfl rfl (okX7_countMarked (d := d + 1) e2) rfl rfl [] rfl rfl (st2 := [.int t5]) rfl ?_
    cases H
    exact J_iretI dX11_proof_48 rfl
  replace H := br0 q1000 H
  by_cases q1001 : v1 = (1 : Int32)
  · replace H := br1 q1001 H
    refine J_tab 49 dX11_proof_1 q1001 (by decide) rfl rfl ?_
    refine J_aload_n 0 dX11_proof_49 rfl rfl ?_
    obtain ⟨g6, H⟩ := gd H
    refine J_gP 10 5 dX11_proof_50 g6 flX11_39 rfl rfl ?_
    refine J_iconst (2 : Int32) dX11_proof_53 kc_2 ?_
    obtain ⟨g8, H⟩ := gd H
    obtain ⟨t10, h9, e7, H⟩ := b2_el H
    refine J_cV (as := [.int (2 : Int32)]) 6 YX7_countMarked 1 dX11_proof_54 moX7_countMarked mvX7_countMarked mlX11_361 g8 rfl rfl (okX7_countMarked (d := d + 1) e7) rfl rfl [] rfl rfl (st2 := [.int t10]) rfl ?_
    cases H
    exact J_iretI dX11_proof_57 rfl
  replace H := br0 q1001 H
  by_cases q1002 : v1 = (2 : Int32)
  · replace H := br1 q1002 H
    refine J_tab 58 dX11_proof_1 q1002 (by decide) rfl rfl ?_
    refine J_aload_n 0 dX11_proof_58 rfl rfl ?_
    obtain ⟨g11, H⟩ := gd H
    refine J_gP 10 5 dX11_proof_59 g11 flX11_39 rfl rfl ?_
    refine J_iconst (3 : Int32) dX11_proof_62 kc_3 ?_
    obtain ⟨g13, H⟩ := gd H
    obtain ⟨t15, h14, e12, H⟩ := b2_el H
    refine J_cV (as := [.int (3 : Int32)]) 6 YX7_countMarked 1 dX11_proof_63 moX7_countMarked mvX7_countMarked mlX11_361 g13 rfl rfl (okX7_countMarked (d := d + 1) e12) rfl rfl [] rfl rfl (st2 := [.int t15]) rfl ?_
    cases H
    exact J_iretI dX11_proof_66 rfl
  replace H := br0 q1002 H
  by_cases q1003 : v1 = (3 : Int32)
  · replace H := br1 q1003 H
    refine J_tab 67 dX11_proof_1 q1003 (by decide) rfl rfl ?_
    refine J_aload_n 0 dX11_proof_67 rfl rfl ?_
    obtain ⟨g16, H⟩ := gd H
    refine J_gP 10 5 dX11_proof_68 g16 flX11_39 rfl rfl ?_
    obtain ⟨g18, H⟩ := gd H
    obtain ⟨t20, h19, e17, H⟩ := b2_el H
    refine J_cV (as := []) 6 YX7_missed 0 dX11_proof_71 moX7_missed mvX7_missed mlX11_364 g18 rfl rfl (okX7_missed (d := d) e17) rfl rfl [] rfl rfl (st2 := [.int t20]) rfl ?_
    cases H
    exact J_iretI dX11_proof_74 rfl
  replace H := br0 q1003 H
  by_cases q1004 : v1 = (4 : Int32)
  · replace H := br1 q1004 H
    refine J_tab 75 dX11_proof_1 q1004 (by decide) rfl rfl ?_
    refine J_aload_n 0 dX11_proof_75 rfl rfl ?_
    obtain ⟨g21, H⟩ := gd H
    refine J_gP 10 5 dX11_proof_76 g21 flX11_39 rfl rfl ?_
    refine J_iconst (1 : Int32) dX11_proof_79 kc_1 ?_
    refine J_iconst (0 : Int32) dX11_proof_80 kc_0 ?_
    obtain ⟨g23, H⟩ := gd H
    obtain ⟨t25, h24, e22, H⟩ := b2_el H
    refine J_cV (as := [.int (1 : Int32), .int (0 : Int32)]) 6 YX7_countRead 2 dX11_proof_81 moX7_countRead mvX7_countRead mlX11_367 g23 rfl rfl (okX7_countRead (d := d + 1) e22) rfl rfl [] rfl rfl (st2 := [.int t25]) rfl ?_
    cases H
    exact J_iretI dX11_proof_84 rfl
  replace H := br0 q1004 H
  by_cases q1005 : v1 = (5 : Int32)
  · replace H := br1 q1005 H
    refine J_tab 85 dX11_proof_1 q1005 (by decide) rfl rfl ?_
    refine J_aload_n 0 dX11_proof_85 rfl rfl ?_
    obtain ⟨g26, H⟩ := gd H
    refine J_gP 10 5 dX11_proof_86 g26 flX11_39 rfl rfl ?_
    refine J_iconst (0 : Int32) dX11_proof_89 kc_0 ?_
    refine J_iconst (1 : Int32) dX11_proof_90 kc_1 ?_
    obtain ⟨g28, H⟩ := gd H
    obtain ⟨t30, h29, e27, H⟩ := b2_el H
    refine J_cV (as := [.int (0 : Int32), .int (1 : Int32)]) 6 YX7_countRead 2 dX11_proof_91 moX7_countRead mvX7_countRead mlX11_367 g28 rfl rfl (okX7_countRead (d := d + 1) e27) rfl rfl [] rfl rfl (st2 := [.int t30]) rfl ?_
    cases H
    exact J_iretI dX11_proof_94 rfl
  replace H := br0 q1005 H
  refine J_tab0 6 95 dX11_proof_1 rfl (fun k hk => ?_) rfl rfl ?_
  · match k, hk with
    | 0, _ => exact q1000
    | 1, _ => exact q1001
    | 2, _ => exact q1002
    | 3, _ => exact q1003
    | 4, _ => exact q1004
    | 5, _ => exact q1005
    | k + 6, hk => exact absurd hk (by omega)
  · cases H
    exact J_throw 4 ["java/lang/RuntimeException", "java/lang/Exception"] dX11_proof_95 dX11_proof_98 dX11_proof_99 dX11_proof_102 th_174 clX11_172 (Nat.le_of_ble_eq_true rfl)
theorem okX11_proof {d : Nat} {h : Hp} {v0 : Nat} {v1 : Int32} {r : Int32 ⊕ Nat} {h9 : Hp} (H : MX11_proof h v0 v1 = some (r, h9)) : CT (d + 4) YX11_proof [.ref v0, .int v1] h (oT r) h9 := CT_of (by decide +kernel) (Nat.le_of_ble_eq_true rfl) (eX11_proof H)
noncomputable def MX11_read (h : Hp) (v0 : Nat) (v1 : Int32) (v2 : Int32) : Option ((Int32 ⊕ Nat) × Hp) :=
  gg (β := ((Int32 ⊕ Nat) × Hp)) (kd h v0 = 10) <|
  gg (β := ((Int32 ⊕ Nat) × Hp)) (kd h (gP h v0 5) = 6) <|
  Option.bind (α := Nat) (β := ((Int32 ⊕ Nat) × Hp)) (MX7_findSlug h (gP h v0 5) v2) fun (t4 : Nat) =>
  if t4 = 0 then
    some (.inr 1, bmp h 1 6)
  else
    if v1 < 0 then
      some (.inr 1, bmp h 1 6)
    else
      if v1 ≤ (1 : Int32) then
        gg (β := ((Int32 ⊕ Nat) × Hp)) (kd h t4 = 7) <|
        if ((gI h t4 13) &&& ((1 : Int32) <<< (v1 &&& 31))) = 0 then
          lt (α := Hp) (β := Option ((Int32 ⊕ Nat) × Hp)) (sI h t4 13 ((gI h t4 13) ||| ((1 : Int32) <<< (v1 &&& 31)))) fun (h10 : Hp) =>
          some (.inl (1 : Int32), h10)
        else
          some (.inl (0 : Int32), h)
      else
        some (.inr 1, bmp h 1 6)
set_option maxRecDepth 100000 in
set_option maxHeartbeats 8000000 in
theorem eX11_read {d : Nat} {h : Hp} {v0 : Nat} {v1 : Int32} {v2 : Int32} {r : Int32 ⊕ Nat} {h9 : Hp} (H : MX11_read h v0 v1 v2 = some (r, h9)) : J (d + 1) YX11_read 0 [.ref v0, .int v1, .int v2, Value.null, Value.null] [] h (oT r) h9 := by
  unfold MX11_read at H
  refine J_aload_n 0 dX11_read_0 rfl rfl ?_
  obtain ⟨g1, H⟩ := gd H
  refine J_gP 10 5 dX11_read_1 g1 flX11_39 rfl rfl ?_
  refine J_iload_n 2 dX11_read_4 rfl rfl ?_
  obtain ⟨g3, H⟩ := gd H
  obtain ⟨t4, e2, H⟩ := bd H
  refine J_cV (as := [.int v2]) 6 YX7_findSlug 1 dX11_read_5 moX7_findSlug mvX7_findSlug mlX11_280 g3 rfl rfl (okX7_findSlug (d := d) e2) rfl rfl [] rfl rfl (st2 := [.ref t4]) rfl ?_
  refine J_astore_n 3 dX11_read_8 rfl (by decide) (ls' := [.ref v0, .int v1, .int v2, .ref t4, Value.null]) rfl ?_
  refine J_aload_n 3 dX11_read_9 rfl rfl ?_
  refine J_ifnull 22 dX11_read_10 rfl (fun q5 => ?_) (fun q5 => ?_)
  · replace H := br1 q5 H
    cases H
    exact J_throw 1 ["java/lang/RuntimeException", "java/lang/Exception"] dX11_read_22 dX11_read_25 dX11_read_26 dX11_read_29 th_86 clX11_84 (Nat.le_of_ble_eq_true rfl)
  · replace H := br0 q5 H
    refine J_iload_n 1 dX11_read_13 rfl rfl ?_
    refine J_if_lt 22 dX11_read_14 rfl (fun q6 => ?_) (fun q6 => ?_)
    · replace H := br1 q6 H
      cases H
      exact J_throw 1 ["java/lang/RuntimeException", "java/lang/Exception"] dX11_read_22 dX11_read_25 dX11_read_26 dX11_read_29 th_86 clX11_84 (Nat.le_of_ble_eq_true rfl)
    · replace H := br0 q6 H
      refine J_iload_n 1 dX11_read_17 rfl rfl ?_
      refine J_iconst (1 : Int32) dX11_read_18 kc_1 ?_
      refine J_icmp_le 30 dX11_read_19 rfl (fun q7 => ?_) (fun q7 => ?_)
      · replace H := br1 q7 H
        refine J_iconst (1 : Int32) dX11_read_30 kc_1 ?_
        refine J_iload_n 1 dX11_read_31 rfl rfl ?_
        refine J_ishl dX11_read_32 ?_
        refine J_istore dX11_read_33 (by decide) (ls' := [.ref v0, .int v1, .int v2, .ref t4, .int ((1 : Int32) <<< (v1 &&& 31))]) rfl ?_
        refine J_aload_n 3 dX11_read_35 rfl rfl ?_
        obtain ⟨g8, H⟩ := gd H
        refine J_getI 7 13 dX11_read_36 g8 flX11_358 rfl ?_
        refine J_iload dX11_read_39 rfl ?_
        refine J_iand dX11_read_41 ?_
        refine J_if_eq 47 dX11_read_42 rfl (fun q9 => ?_) (fun q9 => ?_)
        · replace H := br1 q9 H
          refine J_aload_n 3 dX11_read_47 rfl rfl ?_
          refine J_dup dX11_read_48 rfl ?_
          refine J_getI 7 13 dX11_read_49 g8 flX11_358 rfl ?_
          refine J_iload dX11_read_52 rfl ?_
          refine J_ior dX11_read_54 ?_
          obtain ⟨h10, e11, H⟩ := lt_el H
          refine J_pI 7 13 dX11_read_55 g8 flX11_358 rfl rfl e11 ?_
          have c12 := ekI e11
          have c13 := elI e11
          have c14 := epI e11
          refine J_iconst (1 : Int32) dX11_read_58 kc_1 ?_
          cases H
          exact J_rZ dX11_read_59 rfl rfl
        · replace H := br0 q9 H
          refine J_iconst (0 : Int32) dX11_read_45 kc_0 ?_
          cases H
          exact J_rZ dX11_read_46 rfl rfl
      · replace H := br0 q7 H
        cases H
        exact J_throw 1 ["java/lang/RuntimeException", "java/lang/Exception"] dX11_read_22 dX11_read_25 dX11_read_26 dX11_read_29 th_86 clX11_84 (Nat.le_of_ble_eq_true rfl)
theorem okX11_read {d : Nat} {h : Hp} {v0 : Nat} {v1 : Int32} {v2 : Int32} {r : Int32 ⊕ Nat} {h9 : Hp} (H : MX11_read h v0 v1 v2 = some (r, h9)) : CT (d + 1) YX11_read [.ref v0, .int v1, .int v2] h (oT r) h9 := CT_of (by decide +kernel) (Nat.le_of_ble_eq_true rfl) (eX11_read H)
noncomputable def MX11_row (h : Hp) (v0 : Nat) (v1 : Int32) (v2 : Int32) : Option ((Int32 ⊕ Nat) × Hp) :=
  gg (β := ((Int32 ⊕ Nat) × Hp)) (kd h v0 = 10) <|
  gg (β := ((Int32 ⊕ Nat) × Hp)) (kd h (gP h v0 5) = 6) <|
  Option.bind (α := Int32) (β := ((Int32 ⊕ Nat) × Hp)) (MX7_rowPlace h (gP h v0 5) v1 v2) fun (t4 : Int32) =>
  if t4 = (-1 : Int32) then
    some (.inr 4, bmp h 1 6)
  else
    gg (β := ((Int32 ⊕ Nat) × Hp)) (kd h (gP h (gP h v0 5) 12) = 20) <|
    gg (β := ((Int32 ⊕ Nat) × Hp)) (inB t4 (ln h (gP h (gP h v0 5) 12)) = true) <|
    some (.inl (gI h (gP h (gP h v0 5) 12) t4.toNatClampNeg), h)
set_option maxRecDepth 100000 in
set_option maxHeartbeats 8000000 in
theorem eX11_row {d : Nat} {h : Hp} {v0 : Nat} {v1 : Int32} {v2 : Int32} {r : Int32 ⊕ Nat} {h9 : Hp} (H : MX11_row h v0 v1 v2 = some (r, h9)) : J (d + 2) YX11_row 0 [.ref v0, .int v1, .int v2, Value.null] [] h (oT r) h9 := by
  unfold MX11_row at H
  refine J_aload_n 0 dX11_row_0 rfl rfl ?_
  obtain ⟨g1, H⟩ := gd H
  refine J_gP 10 5 dX11_row_1 g1 flX11_39 rfl rfl ?_
  refine J_iload_n 1 dX11_row_4 rfl rfl ?_
  refine J_iload_n 2 dX11_row_5 rfl rfl ?_
  obtain ⟨g3, H⟩ := gd H
  obtain ⟨t4, e2, H⟩ := bd H
  refine J_cV (as := [.int v1, .int v2]) 6 YX7_rowPlace 2 dX11_row_6 moX7_rowPlace mvX7_rowPlace mlX11_483 g3 rfl rfl (okX7_rowPlace (d := d) e2) rfl rfl [] rfl rfl (st2 := [.int t4]) rfl ?_
  refine J_istore_n 3 dX11_row_9 rfl (by decide) (ls' := [.ref v0, .int v1, .int v2, .int t4]) rfl ?_
  refine J_iload_n 3 dX11_row_10 rfl rfl ?_
  refine J_iconst (-1 : Int32) dX11_row_11 kc_m1 ?_
  refine J_icmp_ne 23 dX11_row_12 rfl (fun q5 => ?_) (fun q5 => ?_)
  · replace H := br0 q5 H
    refine J_aload_n 0 dX11_row_23 rfl rfl ?_
    refine J_gP 10 5 dX11_row_24 g1 flX11_39 rfl rfl ?_
    refine J_gP 6 12 dX11_row_27 g3 flX11_486 rfl rfl ?_
    refine J_iload_n 3 dX11_row_30 rfl rfl ?_
    obtain ⟨g6, H⟩ := gd H
    obtain ⟨g7, H⟩ := gd H
    refine J_iald dX11_row_31 g6 (inB_ok g7) ?_
    cases H
    exact J_iretI dX11_row_32 rfl
  · replace H := br1 q5 H
    cases H
    exact J_throw 4 ["java/lang/RuntimeException", "java/lang/Exception"] dX11_row_15 dX11_row_18 dX11_row_19 dX11_row_22 th_174 clX11_172 (Nat.le_of_ble_eq_true rfl)
theorem okX11_row {d : Nat} {h : Hp} {v0 : Nat} {v1 : Int32} {v2 : Int32} {r : Int32 ⊕ Nat} {h9 : Hp} (H : MX11_row h v0 v1 v2 = some (r, h9)) : CT (d + 2) YX11_row [.ref v0, .int v1, .int v2] h (oT r) h9 := CT_of (by decide +kernel) (Nat.le_of_ble_eq_true rfl) (eX11_row H)
noncomputable def MX11_rule (h : Hp) (v0 : Nat) (v1 : Int32) (v2 : Int32) (v3 : Int32) : Option ((Int32 ⊕ Nat) × Hp) :=
  gg (β := ((Int32 ⊕ Nat) × Hp)) (kd h v0 = 10) <|
  gg (β := ((Int32 ⊕ Nat) × Hp)) (kd h (gP h v0 5) = 6) <|
  Option.bind (α := Nat) (β := ((Int32 ⊕ Nat) × Hp)) (MX7_findPart h (gP h v0 5) v1) fun (t4 : Nat) =>
  if t4 = 0 then
    some (.inr 1, bmp h 1 6)
  else
    Option.bind (α := Int32) (β := ((Int32 ⊕ Nat) × Hp)) (MX11_isMinute h v2) fun (t7 : Int32) =>
    if t7 = 0 then
      some (.inr 2, bmp h 1 6)
    else
      b2 (α := Nat) (β := Hp) (γ := ((Int32 ⊕ Nat) × Hp)) (MX7_breakerFor h (gP h v0 5) t4 v2) fun (t11 : Nat) (h10 : Hp) =>
      if v3 = (0 : Int32) then
        gg (β := ((Int32 ⊕ Nat) × Hp)) (kd h10 t11 = 0) <|
        some (.inl (gI h10 t11 0), h10)
      else
      if v3 = (1 : Int32) then
        gg (β := ((Int32 ⊕ Nat) × Hp)) (kd h10 t11 = 0) <|
        some (.inl (gI h10 t11 2), h10)
      else
      if v3 = (2 : Int32) then
        gg (β := ((Int32 ⊕ Nat) × Hp)) (kd h10 t11 = 0) <|
        some (.inl (gI h10 t11 3), h10)
      else
      if v3 = (3 : Int32) then
        gg (β := ((Int32 ⊕ Nat) × Hp)) (kd h10 t11 = 0) <|
        some (.inl (gI h10 t11 4), h10)
      else
      if v3 = (4 : Int32) then
        gg (β := ((Int32 ⊕ Nat) × Hp)) (kd h10 t11 = 0) <|
        some (.inl (gI h10 t11 5), h10)
      else
      if v3 = (5 : Int32) then
        gg (β := ((Int32 ⊕ Nat) × Hp)) (kd h10 t11 = 0) <|
        some (.inl (gI h10 t11 1), h10)
      else
        some (.inr 4, bmp h10 1 6)
set_option maxRecDepth 100000 in
set_option maxHeartbeats 8000000 in
theorem eX11_rule {d : Nat} {h : Hp} {v0 : Nat} {v1 : Int32} {v2 : Int32} {v3 : Int32} {r : Int32 ⊕ Nat} {h9 : Hp} (H : MX11_rule h v0 v1 v2 v3 = some (r, h9)) : J (d + 4) YX11_rule 0 [.ref v0, .int v1, .int v2, .int v3, Value.null, Value.null] [] h (oT r) h9 := by
  unfold MX11_rule at H
  refine J_aload_n 0 dX11_rule_0 rfl rfl ?_
  obtain ⟨g1, H⟩ := gd H
  refine J_gP 10 5 dX11_rule_1 g1 flX11_39 rfl rfl ?_
  refine J_iload_n 1 dX11_rule_4 rfl rfl ?_
  obtain ⟨g3, H⟩ := gd H
  obtain ⟨t4, e2, H⟩ := bd H
  refine J_cV (as := [.int v1]) 6 YX7_findPart 1 dX11_rule_5 moX7_findPart mvX7_findPart mlX11_139 g3 rfl rfl (okX7_findPart (d := d + 3) e2) rfl rfl [] rfl rfl (st2 := [.ref t4]) rfl ?_
  refine J_astore dX11_rule_8 (by decide) (ls' := [.ref v0, .int v1, .int v2, .int v3, .ref t4, Value.null]) rfl ?_
  refine J_aload dX11_rule_10 rfl ?_
  refine J_ifnonnull 23 dX11_rule_12 rfl (fun q5 => ?_) (fun q5 => ?_)
  · replace H := br0 q5 H
    refine J_iload_n 2 dX11_rule_23 rfl rfl ?_
    obtain ⟨t7, e6, H⟩ := bd H
    refine J_cS (as := [.int v2]) YX11_isMinute 1 dX11_rule_24 moX11_isMinute msX11_isMinute mlX11_98 (okX11_isMinute (d := d + 3) e6) rfl rfl [] rfl rfl (st2 := [.int t7]) rfl ?_
    refine J_if_ne 38 dX11_rule_27 rfl (fun q8 => ?_) (fun q8 => ?_)
    · replace H := br0 q8 H
      refine J_aload_n 0 dX11_rule_38 rfl rfl ?_
      refine J_gP 10 5 dX11_rule_39 g1 flX11_39 rfl rfl ?_
      refine J_aload dX11_rule_42 rfl ?_
      refine J_iload_n 2 dX11_rule_44 rfl rfl ?_
      obtain ⟨t11, h10, e9, H⟩ := b2_el H
      refine J_cV (as := [.ref t4, .int v2]) 6 YX7_breakerFor 2 dX11_rule_45 moX7_breakerFor mvX7_breakerFor mlX11_175 g3 rfl rfl (okX7_breakerFor (d := d) e9) rfl rfl [] rfl rfl (st2 := [.ref t11]) rfl ?_
      refine J_astore dX11_rule_48 (by decide) (ls' := [.ref v0, .int v1, .int v2, .int v3, .ref t4, .ref t11]) rfl ?_
      refine J_iload_n 3 dX11_rule_50 rfl rfl ?_
      by_cases q1000 : v3 = (0 : Int32)
      · replace H := br1 q1000 H
        refine J_tab 88 dX11_rule_51 q1000 (by decide) rfl rfl ?_
        refine J_aload dX11_rule_88 rfl ?_
        obtain ⟨g12, H⟩ := gd H
        refine J_getI 0 0 dX11_rule_90 g12 flX11_179 rfl ?_
        cases H
        exact J_iretI dX11_rule_93 rfl
      replace H := br0 q1000 H
      by_cases q1001 : v3 = (1 : Int32)
      · replace H := br1 q1001 H
        refine J_tab 94 dX11_rule_51 q1001 (by decide) rfl rfl ?_
        refine J_aload dX11_rule_94 rfl ?_
        obtain ⟨g13, H⟩ := gd H
        refine J_getI 0 2 dX11_rule_96 g13 flX11_184 rfl ?_
        cases H
        exact J_iretI dX11_rule_99 rfl
      replace H := br0 q1001 H
      by_cases q1002 : v3 = (2 : Int32)
      · replace H := br1 q1002 H
        refine J_tab 100 dX11_rule_51 q1002 (by decide) rfl rfl ?_
        refine J_aload dX11_rule_100 rfl ?_
        obtain ⟨g14, H⟩ := gd H
        refine J_getI 0 3 dX11_rule_102 g14 flX11_187 rfl ?_
        cases H
        exact J_iretI dX11_rule_105 rfl
      replace H := br0 q1002 H
      by_cases q1003 : v3 = (3 : Int32)
      · replace H := br1 q1003 H
        refine J_tab 106 dX11_rule_51 q1003 (by decide) rfl rfl ?_
        refine J_aload dX11_rule_106 rfl ?_
        obtain ⟨g15, H⟩ := gd H
        refine J_getI 0 4 dX11_rule_108 g15 flX11_190 rfl ?_
        cases H
        exact J_iretI dX11_rule_111 rfl
      replace H := br0 q1003 H
      by_cases q1004 : v3 = (4 : Int32)
      · replace H := br1 q1004 H
        refine J_tab 112 dX11_rule_51 q1004 (by decide) rfl rfl ?_
        refine J_aload dX11_rule_112 rfl ?_
        obtain ⟨g16, H⟩ := gd H
        refine J_getI 0 5 dX11_rule_114 g16 flX11_193 rfl ?_
        cases H
        exact J_iretI dX11_rule_117 rfl
      replace H := br0 q1004 H
      by_cases q1005 : v3 = (5 : Int32)
      · replace H := br1 q1005 H
        refine J_tab 118 dX11_rule_51 q1005 (by decide) rfl rfl ?_
        refine J_aload dX11_rule_118 rfl ?_
        obtain ⟨g17, H⟩ := gd H
        refine J_getI 0 1 dX11_rule_120 g17 flX11_196 rfl ?_
        cases H
        exact J_iretI dX11_rule_123 rfl
      replace H := br0 q1005 H
      refine J_tab0 6 124 dX11_rule_51 rfl (fun k hk => ?_) rfl rfl ?_
      · match k, hk with
        | 0, _ => exact q1000
        | 1, _ => exact q1001
        | 2, _ => exact q1002
        | 3, _ => exact q1003
        | 4, _ => exact q1004
        | 5, _ => exact q1005
        | k + 6, hk => exact absurd hk (by omega)
      · cases H
        exact J_throw 4 ["java/lang/RuntimeException", "java/lang/Exception"] dX11_rule_124 dX11_rule_127 dX11_rule_128 dX11_rule_131 th_174 clX11_172 (Nat.le_of_ble_eq_true rfl)
    · replace H := br1 q8 H
      cases H
      exact J_throw 2 ["java/lang/RuntimeException", "java/lang/Exception"] dX11_rule_30 dX11_rule_33 dX11_rule_34 dX11_rule_37 th_89 clX11_87 (Nat.le_of_ble_eq_true rfl)
  · replace H := br1 q5 H
    cases H
    exact J_throw 1 ["java/lang/RuntimeException", "java/lang/Exception"] dX11_rule_15 dX11_rule_18 dX11_rule_19 dX11_rule_22 th_86 clX11_84 (Nat.le_of_ble_eq_true rfl)
theorem okX11_rule {d : Nat} {h : Hp} {v0 : Nat} {v1 : Int32} {v2 : Int32} {v3 : Int32} {r : Int32 ⊕ Nat} {h9 : Hp} (H : MX11_rule h v0 v1 v2 v3 = some (r, h9)) : CT (d + 4) YX11_rule [.ref v0, .int v1, .int v2, .int v3] h (oT r) h9 := CT_of (by decide +kernel) (Nat.le_of_ble_eq_true rfl) (eX11_rule H)
