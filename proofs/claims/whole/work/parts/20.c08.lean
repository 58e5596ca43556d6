noncomputable def MX11_runs (h : Hp) (v0 : Nat) (v1 : Int32) (v2 : Int32) : Option ((Int32 ⊕ Nat) × Hp) :=
  gg (β := ((Int32 ⊕ Nat) × Hp)) (kd h v0 = 10) <|
  gg (β := ((Int32 ⊕ Nat) × Hp)) (kd h (gP h v0 5) = 6) <|
  Option.bind (α := Nat) (β := ((Int32 ⊕ Nat) × Hp)) (MX7_findMachine h (gP h v0 5) v1) fun (t4 : Nat) =>
  if t4 = 0 then
    some (.inr 1, bmp h 1 6)
  else
    if v2 = (0 : Int32) then
      gg (β := ((Int32 ⊕ Nat) × Hp)) (kd h t4 = 3) <|
      some (.inl (gI h t4 3), h)
    else
    if v2 = (1 : Int32) then
      gg (β := ((Int32 ⊕ Nat) × Hp)) (kd h t4 = 3) <|
      some (.inl (gI h t4 4), h)
    else
    if v2 = (2 : Int32) then
      gg (β := ((Int32 ⊕ Nat) × Hp)) (kd h t4 = 3) <|
      some (.inl (gI h t4 5), h)
    else
    if v2 = (3 : Int32) then
      gg (β := ((Int32 ⊕ Nat) × Hp)) (kd h t4 = 3) <|
      some (.inl (gI h t4 6), h)
    else
    if v2 = (4 : Int32) then
      gg (β := ((Int32 ⊕ Nat) × Hp)) (kd h t4 = 3) <|
      if (gI h t4 2) = 0 then
        some (.inl (0 : Int32), h)
      else
        some (.inl (1 : Int32), h)
    else
    if v2 = (5 : Int32) then
      gg (β := ((Int32 ⊕ Nat) × Hp)) (kd h t4 = 3) <|
      if (gI h t4 3) = 0 then
        some (.inl (-1 : Int32), h)
      else
        gg (β := ((Int32 ⊕ Nat) × Hp)) (kd h (gP h t4 7) = 20) <|
        gg (β := ((Int32 ⊕ Nat) × Hp)) (inB (0 : Int32) (ln h (gP h t4 7)) = true) <|
        some (.inl (gI h (gP h t4 7) (0 : Int32).toNatClampNeg), h)
    else
      some (.inr 4, bmp h 1 6)
set_option maxRecDepth 100000 in
set_option maxHeartbeats 8000000 in
theorem eX11_runs {d : Nat} {h : Hp} {v0 : Nat} {v1 : Int32} {v2 : Int32} {r : Int32 ⊕ Nat} {h9 : Hp} (H : MX11_runs h v0 v1 v2 = some (r, h9)) : J (d + 1) YX11_runs 0 [.ref v0, .int v1, .int v2, Value.null] [] h (oT r) h9 := by
  unfold MX11_runs at H
  refine J_aload_n 0 dX11_runs_0 rfl rfl ?_
  obtain ⟨g1, H⟩ := gd H
  refine J_gP 10 5 dX11_runs_1 g1 flX11_39 rfl rfl ?_
  refine J_iload_n 1 dX11_runs_4 rfl rfl ?_
  obtain ⟨g3, H⟩ := gd H
  obtain ⟨t4, e2, H⟩ := bd H
  refine J_cV (as := [.int v1]) 6 YX7_findMachine 1 dX11_runs_5 moX7_findMachine mvX7_findMachine mlX11_231 g3 rfl rfl (okX7_findMachine (d := d) e2) rfl rfl [] rfl rfl (st2 := [.ref t4]) rfl ?_
  refine J_astore_n 3 dX11_runs_8 rfl (by decide) (ls' := [.ref v0, .int v1, .int v2, .ref t4]) rfl ?_
  refine J_aload_n 3 dX11_runs_9 rfl rfl ?_
  refine J_ifnonnull 21 dX11_runs_10 rfl (fun q5 => ?_) (fun q5 => ?_)
  · replace H := br0 q5 H
    refine J_iload_n 2 dX11_runs_21 rfl rfl ?_
    by_cases q1000 : v2 = (0 : Int32)
    · replace H := br1 q1000 H
      refine J_tab 60 dX11_runs_22 q1000 (by decide) rfl rfl ?_
      refine J_aload_n 3 dX11_runs_60 rfl rfl ?_
      obtain ⟨g6, H⟩ := gd H
      refine J_getI 3 3 dX11_runs_61 g6 flX11_258 rfl ?_
      cases H
      exact J_iretI dX11_runs_64 rfl
    replace H := br0 q1000 H
    by_cases q1001 : v2 = (1 : Int32)
    · replace H := br1 q1001 H
      refine J_tab 65 dX11_runs_22 q1001 (by decide) rfl rfl ?_
      refine J_aload_n 3 dX11_runs_65 rfl rfl ?_
      obtain ⟨g7, H⟩ := gd H
      refine J_getI 3 4 dX11_runs_66 g7 flX11_268 rfl ?_
      cases H
      exact J_iretI dX11_runs_69 rfl
    replace H := br0 q1001 H
    by_cases q1002 : v2 = (2 : Int32)
    · replace H := br1 q1002 H
      refine J_tab 70 dX11_runs_22 q1002 (by decide) rfl rfl ?_
      refine J_aload_n 3 dX11_runs_70 rfl rfl ?_
      obtain ⟨g8, H⟩ := gd H
      refine J_getI 3 5 dX11_runs_71 g8 flX11_271 rfl ?_
      cases H
      exact J_iretI dX11_runs_74 rfl
    replace H := br0 q1002 H
    by_cases q1003 : v2 = (3 : Int32)
    · replace H := br1 q1003 H
      refine J_tab 75 dX11_runs_22 q1003 (by decide) rfl rfl ?_
      refine J_aload_n 3 dX11_runs_75 rfl rfl ?_
      obtain ⟨g9, H⟩ := gd H
      refine J_getI 3 6 dX11_runs_76 g9 flX11_274 rfl ?_
      cases H
      exact J_iretI dX11_runs_79 rfl
    replace H := br0 q1003 H
    by_cases q1004 : v2 = (4 : Int32)
    · replace H := br1 q1004 H
      refine J_tab 80 dX11_runs_22 q1004 (by decide) rfl rfl ?_
      refine J_aload_n 3 dX11_runs_80 rfl rfl ?_
      obtain ⟨g10, H⟩ := gd H
      refine J_getI 3 2 dX11_runs_81 g10 flX11_255 rfl ?_
      refine J_if_eq 91 dX11_runs_84 rfl (fun q11 => ?_) (fun q11 => ?_)
      · replace H := br1 q11 H
        refine J_iconst (0 : Int32) dX11_runs_91 kc_0 ?_
        cases H
        exact J_iretI dX11_runs_92 rfl
      · replace H := br0 q11 H
        refine J_iconst (1 : Int32) dX11_runs_87 kc_1 ?_
        refine J_goto 92 dX11_runs_88 rfl ?_
        cases H
        exact J_iretI dX11_runs_92 rfl
    replace H := br0 q1004 H
    by_cases q1005 : v2 = (5 : Int32)
    · replace H := br1 q1005 H
      refine J_tab 93 dX11_runs_22 q1005 (by decide) rfl rfl ?_
      refine J_aload_n 3 dX11_runs_93 rfl rfl ?_
      obtain ⟨g12, H⟩ := gd H
      refine J_getI 3 3 dX11_runs_94 g12 flX11_258 rfl ?_
      refine J_if_ne 104 dX11_runs_97 rfl (fun q13 => ?_) (fun q13 => ?_)
      · replace H := br0 q13 H
        refine J_aload_n 3 dX11_runs_104 rfl rfl ?_
        refine J_gP 3 7 dX11_runs_105 g12 flX11_277 rfl rfl ?_
        refine J_iconst (0 : Int32) dX11_runs_108 kc_0 ?_
        obtain ⟨g14, H⟩ := gd H
        obtain ⟨g15, H⟩ := gd H
        refine J_iald dX11_runs_109 g14 (inB_ok g15) ?_
        cases H
        exact J_iretI dX11_runs_110 rfl
      · replace H := br1 q13 H
        refine J_iconst (-1 : Int32) dX11_runs_100 kc_m1 ?_
        refine J_goto 110 dX11_runs_101 rfl ?_
        cases H
        exact J_iretI dX11_runs_110 rfl
    replace H := br0 q1005 H
    refine J_tab0 6 111 dX11_runs_22 rfl (fun k hk => ?_) rfl rfl ?_
    · match k, hk with
      | 0, _ => exact q1000
      | 1, _ => exact q1001
      | 2, _ => exact q1002
      | 3, _ => exact q1003
      | 4, _ => exact q1004
      | 5, _ => exact q1005
      | k + 6, hk => exact absurd hk (by omega)
    · cases H
      exact J_throw 4 ["java/lang/RuntimeException", "java/lang/Exception"] dX11_runs_111 dX11_runs_114 dX11_runs_115 dX11_runs_118 th_174 clX11_172 (Nat.le_of_ble_eq_true rfl)
  · replace H := br1 q5 H
    cases H
    exact J_throw 1 ["java/lang/RuntimeException", "java/lang/Exception"] dX11_runs_13 dX11_runs_16 dX11_runs_17 dX11_runs_20 th_86 clX11_84 (Nat.le_of_ble_eq_true rfl)
theorem okX11_runs {d : Nat} {h : Hp} {v0 : Nat} {v1 : Int32} {v2 : Int32} {r : Int32 ⊕ Nat} {h9 : Hp} (H : MX11_runs h v0 v1 v2 = some (r, h9)) : CT (d + 1) YX11_runs [.ref v0, .int v1, .int v2] h (oT r) h9 := CT_of (by decide +kernel) (Nat.le_of_ble_eq_true rfl) (eX11_runs H)
noncomputable def MX11_says (h : Hp) (v0 : Nat) (v1 : Int32) (v2 : Int32) : Option ((Int32 ⊕ Nat) × Hp) :=
  gg (β := ((Int32 ⊕ Nat) × Hp)) (kd h v0 = 10) <|
  gg (β := ((Int32 ⊕ Nat) × Hp)) (kd h (gP h v0 5) = 6) <|
  Option.bind (α := Nat) (β := ((Int32 ⊕ Nat) × Hp)) (MX7_findSlug h (gP h v0 5) v1) fun (t4 : Nat) =>
  if t4 = 0 then
    some (.inr 1, bmp h 1 6)
  else
    if v2 < 0 then
      some (.inl (-1 : Int32), h)
    else
      gg (β := ((Int32 ⊕ Nat) × Hp)) (kd h t4 = 7) <|
      if v2 < (gI h t4 2) then
        gg (β := ((Int32 ⊕ Nat) × Hp)) (kd h (gP h t4 1) = 21) <|
        gg (β := ((Int32 ⊕ Nat) × Hp)) (inB v2 (ln h (gP h t4 1)) = true) <|
        some (.inl (gI h (gP h t4 1) v2.toNatClampNeg), h)
      else
        some (.inl (-1 : Int32), h)
set_option maxRecDepth 100000 in
set_option maxHeartbeats 8000000 in
theorem eX11_says {d : Nat} {h : Hp} {v0 : Nat} {v1 : Int32} {v2 : Int32} {r : Int32 ⊕ Nat} {h9 : Hp} (H : MX11_says h v0 v1 v2 = some (r, h9)) : J (d + 1) YX11_says 0 [.ref v0, .int v1, .int v2, Value.null] [] h (oT r) h9 := by
  unfold MX11_says at H
  refine J_aload_n 0 dX11_says_0 rfl rfl ?_
  obtain ⟨g1, H⟩ := gd H
  refine J_gP 10 5 dX11_says_1 g1 flX11_39 rfl rfl ?_
  refine J_iload_n 1 dX11_says_4 rfl rfl ?_
  obtain ⟨g3, H⟩ := gd H
  obtain ⟨t4, e2, H⟩ := bd H
  refine J_cV (as := [.int v1]) 6 YX7_findSlug 1 dX11_says_5 moX7_findSlug mvX7_findSlug mlX11_280 g3 rfl rfl (okX7_findSlug (d := d) e2) rfl rfl [] rfl rfl (st2 := [.ref t4]) rfl ?_
  refine J_astore_n 3 dX11_says_8 rfl (by decide) (ls' := [.ref v0, .int v1, .int v2, .ref t4]) rfl ?_
  refine J_aload_n 3 dX11_says_9 rfl rfl ?_
  refine J_ifnonnull 21 dX11_says_10 rfl (fun q5 => ?_) (fun q5 => ?_)
  · replace H := br0 q5 H
    refine J_iload_n 2 dX11_says_21 rfl rfl ?_
    refine J_if_lt 33 dX11_says_22 rfl (fun q6 => ?_) (fun q6 => ?_)
    · replace H := br1 q6 H
      refine J_iconst (-1 : Int32) dX11_says_33 kc_m1 ?_
      refine J_goto 43 dX11_says_34 rfl ?_
      cases H
      exact J_iretI dX11_says_43 rfl
    · replace H := br0 q6 H
      refine J_iload_n 2 dX11_says_25 rfl rfl ?_
      refine J_aload_n 3 dX11_says_26 rfl rfl ?_
      obtain ⟨g7, H⟩ := gd H
      refine J_getI 7 2 dX11_says_27 g7 flX11_316 rfl ?_
      refine J_icmp_lt 37 dX11_says_30 rfl (fun q8 => ?_) (fun q8 => ?_)
      · replace H := br1 q8 H
        refine J_aload_n 3 dX11_says_37 rfl rfl ?_
        refine J_gP 7 1 dX11_says_38 g7 flX11_319 rfl rfl ?_
        refine J_iload_n 2 dX11_says_41 rfl rfl ?_
        obtain ⟨g9, H⟩ := gd H
        obtain ⟨g10, H⟩ := gd H
        refine J_bald dX11_says_42 g9 (inB_ok g10) ?_
        cases H
        exact J_iretI dX11_says_43 rfl
      · replace H := br0 q8 H
        refine J_iconst (-1 : Int32) dX11_says_33 kc_m1 ?_
        refine J_goto 43 dX11_says_34 rfl ?_
        cases H
        exact J_iretI dX11_says_43 rfl
  · replace H := br1 q5 H
    cases H
    exact J_throw 1 ["java/lang/RuntimeException", "java/lang/Exception"] dX11_says_13 dX11_says_16 dX11_says_17 dX11_says_20 th_86 clX11_84 (Nat.le_of_ble_eq_true rfl)
theorem okX11_says {d : Nat} {h : Hp} {v0 : Nat} {v1 : Int32} {v2 : Int32} {r : Int32 ⊕ Nat} {h9 : Hp} (H : MX11_says h v0 v1 v2 = some (r, h9)) : CT (d + 1) YX11_says [.ref v0, .int v1, .int v2] h (oT r) h9 := CT_of (by decide +kernel) (Nat.le_of_ble_eq_true rfl) (eX11_says H)
noncomputable def BX8_byteOfLetter_4 (h : Hp) (v0 : Nat) (v1 : Int32) (v2 : Int32) (v3 : Int32) : Option ((Int32 × Int32) ⊕ Int32) :=
  gg (β := ((Int32 × Int32) ⊕ Int32)) (kd h v0 = 7) <|
  if (gI h v0 2) ≤ v3 then
    some (.inr ((-1 : Int32)))
  else
    gg (β := ((Int32 × Int32) ⊕ Int32)) (kd h (gP h v0 1) = 21) <|
    gg (β := ((Int32 × Int32) ⊕ Int32)) (inB v3 (ln h (gP h v0 1)) = true) <|
    Option.bind (α := Int32) (β := ((Int32 × Int32) ⊕ Int32)) (MX1_isLetter h (gI h (gP h v0 1) v3.toNatClampNeg)) fun (t6 : Int32) =>
    if t6 = 0 then
      some (.inl (v2, (v3 + (1 : Int32))))
    else
      if v2 = v1 then
        some (.inr (v3))
      else
        some (.inl ((v2 + (1 : Int32)), (v3 + (1 : Int32))))
set_option maxRecDepth 100000 in
set_option maxHeartbeats 8000000 in
theorem bX8_byteOfLetter_4 {d : Nat} {h : Hp} {v0 : Nat} {v1 : Int32} {v2 : Int32} {v3 : Int32} {r : Int32} {x : ((Int32 × Int32) ⊕ Int32)} (H : BX8_byteOfLetter_4 h v0 v1 v2 v3 = some x) (hb0 : ∀ s : Int32 × Int32, x = .inl s → J (d + 1) YX8_byteOfLetter 4 [.ref v0, .int v1, .int s.1, .int s.2] [] h (oI r) h) (hx : ∀ z : Int32, x = .inr (z) → z = r) : J (d + 1) YX8_byteOfLetter 4 [.ref v0, .int v1, .int v2, .int v3] [] h (oI r) h := by
  unfold BX8_byteOfLetter_4 at H
  refine J_iload_n 3 dX8_byteOfLetter_4 rfl rfl ?_
  refine J_aload_n 0 dX8_byteOfLetter_5 rfl rfl ?_
  obtain ⟨g1, H⟩ := gd H
  refine J_getI 7 2 dX8_byteOfLetter_6 g1 flX8_18 rfl ?_
  refine J_icmp_ge 40 dX8_byteOfLetter_9 rfl (fun q2 => ?_) (fun q2 => ?_)
  · replace H := br1 q2 H
    refine J_iconst (-1 : Int32) dX8_byteOfLetter_40 kc_m1 ?_
    cases H
    cases hx _ rfl
    exact J_iretI dX8_byteOfLetter_41 rfl
  · replace H := br0 q2 H
    refine J_aload_n 0 dX8_byteOfLetter_12 rfl rfl ?_
    refine J_gP 7 1 dX8_byteOfLetter_13 g1 flX8_15 rfl rfl ?_
    refine J_iload_n 3 dX8_byteOfLetter_16 rfl rfl ?_
    obtain ⟨g3, H⟩ := gd H
    obtain ⟨g4, H⟩ := gd H
    refine J_bald dX8_byteOfLetter_17 g3 (inB_ok g4) ?_
    obtain ⟨t6, e5, H⟩ := bd H
    refine J_cS (as := [.int (gI h (gP h v0 1) v3.toNatClampNeg)]) YX1_isLetter 1 dX8_byteOfLetter_18 moX1_isLetter msX1_isLetter mlX8_82 (okX1_isLetter (d := d) e5) rfl rfl [] rfl rfl (st2 := [.int t6]) rfl ?_
    refine J_if_eq 34 dX8_byteOfLetter_21 rfl (fun q7 => ?_) (fun q7 => ?_)
    · replace H := br1 q7 H
      refine J_iinc (v3 + (1 : Int32)) dX8_byteOfLetter_34 rfl (congrArg (HAdd.hAdd v3) kc_1) (by decide) (ls' := [.ref v0, .int v1, .int v2, .int (v3 + (1 : Int32))]) rfl ?_
      refine J_goto 4 dX8_byteOfLetter_37 rfl ?_
      cases H
      exact J_dr (hb0 _ rfl) ⟨rfl, ⟨rfl, ⟨rfl, ⟨rfl, trivial⟩⟩⟩⟩
    · replace H := br0 q7 H
      refine J_iload_n 2 dX8_byteOfLetter_24 rfl rfl ?_
      refine J_iload_n 1 dX8_byteOfLetter_25 rfl rfl ?_
      refine J_icmp_ne 31 dX8_byteOfLetter_26 rfl (fun q8 => ?_) (fun q8 => ?_)
      · replace H := br0 q8 H
        refine J_iinc (v2 + (1 : Int32)) dX8_byteOfLetter_31 rfl (congrArg (HAdd.hAdd v2) kc_1) (by decide) (ls' := [.ref v0, .int v1, .int (v2 + (1 : Int32)), .int v3]) rfl ?_
        refine J_iinc (v3 + (1 : Int32)) dX8_byteOfLetter_34 rfl (congrArg (HAdd.hAdd v3) kc_1) (by decide) (ls' := [.ref v0, .int v1, .int (v2 + (1 : Int32)), .int (v3 + (1 : Int32))]) rfl ?_
        refine J_goto 4 dX8_byteOfLetter_37 rfl ?_
        cases H
        exact J_dr (hb0 _ rfl) ⟨rfl, ⟨rfl, ⟨rfl, ⟨rfl, trivial⟩⟩⟩⟩
      · replace H := br1 q8 H
        refine J_iload_n 3 dX8_byteOfLetter_29 rfl rfl ?_
        cases H
        cases hx _ rfl
        exact J_iretI dX8_byteOfLetter_30 rfl
noncomputable def MX8_byteOfLetter_4 (h : Hp) (v0 : Nat) (v1 : Int32) (v2 : Int32) (v3 : Int32) : Option Int32 := it (fun q : Int32 × Int32 => BX8_byteOfLetter_4 h v0 v1 q.1 q.2) (v2, v3)
set_option maxRecDepth 100000 in
set_option maxHeartbeats 8000000 in
theorem kX8_byteOfLetter_4 {d : Nat} {h : Hp} {v0 : Nat} {v1 : Int32} {v2 : Int32} {v3 : Int32} {r : Int32} (H : MX8_byteOfLetter_4 h v0 v1 v2 v3 = some r) : J (d + 1) YX8_byteOfLetter 4 [.ref v0, .int v1, .int v2, .int v3] [] h (oI r) h := by
  unfold MX8_byteOfLetter_4 at H
  refine it_J (G := (fun q : Int32 × Int32 => J (d + 1) YX8_byteOfLetter 4 [.ref v0, .int v1, .int q.1, .int q.2] [] h (oI r) h)) (Q := (fun y : Int32 => y = r)) (fun q x Hq hm => ?_) H rfl
  exact bX8_byteOfLetter_4 Hq (fun s hs => by subst hs; exact hm) (fun z hz => by subst hz; exact hm)
noncomputable def MX8_byteOfLetter (h : Hp) (v0 : Nat) (v1 : Int32) : Option Int32 :=
  MX8_byteOfLetter_4 h v0 v1 (0 : Int32) (0 : Int32)
set_option maxRecDepth 100000 in
set_option maxHeartbeats 8000000 in
theorem eX8_byteOfLetter {d : Nat} {h : Hp} {v0 : Nat} {v1 : Int32} {r : Int32} (H : MX8_byteOfLetter h v0 v1 = some r) : J (d + 1) YX8_byteOfLetter 0 [.ref v0, .int v1, Value.null, Value.null] [] h (oI r) h := by
  unfold MX8_byteOfLetter at H
  refine J_iconst (0 : Int32) dX8_byteOfLetter_0 kc_0 ?_
  refine J_istore_n 2 dX8_byteOfLetter_1 rfl (by decide) (ls' := [.ref v0, .int v1, .int (0 : Int32), Value.null]) rfl ?_
  refine J_iconst (0 : Int32) dX8_byteOfLetter_2 kc_0 ?_
  refine J_istore_n 3 dX8_byteOfLetter_3 rfl (by decide) (ls' := [.ref v0, .int v1, .int (0 : Int32), .int (0 : Int32)]) rfl ?_
  exact J_dr (kX8_byteOfLetter_4 H ) ⟨rfl, ⟨rfl, ⟨rfl, ⟨rfl, trivial⟩⟩⟩⟩
theorem okX8_byteOfLetter {d : Nat} {h : Hp} {v0 : Nat} {v1 : Int32} {r : Int32} (H : MX8_byteOfLetter h v0 v1 = some r) : CT (d + 1) YX8_byteOfLetter [.ref v0, .int v1] h (oI r) h := CT_of (by decide +kernel) (Nat.le_of_ble_eq_true rfl) (eX8_byteOfLetter H)
noncomputable def MX8_tellLetter_86 (h : Hp) (s0 : Nat) (s1 : Int32) (s2 : Int32) : Option (Int32 × Hp) :=
  gg (β := (Int32 × Hp)) (kd h s0 = 7) <|
  lt (α := Hp) (β := Option (Int32 × Hp)) (sI h s0 4 (s1 + s2)) fun (h28 : Hp) =>
  some ((1 : Int32), h28)
set_option maxRecDepth 100000 in
set_option maxHeartbeats 8000000 in
theorem kX8_tellLetter_86 {d : Nat} {h : Hp} {s0 : Nat} {s1 : Int32} {s2 : Int32} {r : Int32} {h9 : Hp} (H : MX8_tellLetter_86 h s0 s1 s2 = some (r, h9)) : J (d) YX8_tellLetter 86 [Value.null, Value.null, Value.null] [.int s2, .int s1, .ref s0] h (oI r) h9 := by
  unfold MX8_tellLetter_86 at H
  refine J_iadd dX8_tellLetter_86 ?_
  obtain ⟨g27, H⟩ := gd H
  obtain ⟨h28, e29, H⟩ := lt_el H
  refine J_pI 7 4 dX8_tellLetter_87 g27 flX8_25 rfl rfl e29 ?_
  have c30 := ekI e29
  have c31 := elI e29
  have c32 := epI e29
  refine J_iconst (1 : Int32) dX8_tellLetter_90 kc_1 ?_
  cases H
  exact J_rZ dX8_tellLetter_91 rfl rfl
noncomputable def MX8_tellLetter_49 (h : Hp) (v0 : Nat) (v1 : Int32) (v2 : Int32) (s0 : Nat) (s1 : Int32) (s2 : Int32) : Option (Int32 × Hp) :=
  gg (β := (Int32 × Hp)) (kd h s0 = 7) <|
  lt (α := Hp) (β := Option (Int32 × Hp)) (sI h s0 4 (s1 - s2)) fun (h11 : Hp) =>
  gg (β := (Int32 × Hp)) (kd h v0 = 7) <|
  gg (β := (Int32 × Hp)) (kd h (gP h v0 1) = 21) <|
  gg (β := (Int32 × Hp)) (inB v1 (ln h (gP h v0 1)) = true) <|
  lt (α := Hp) (β := Option (Int32 × Hp)) (sI h11 (gP h v0 1) v1.toNatClampNeg (vp_nar .byte v2.toInt8.toInt32)) fun (h19 : Hp) =>
  gg (β := (Int32 × Hp)) (kd h (gP h v0 0) = 21) <|
  gg (β := (Int32 × Hp)) (inB v1 (ln h (gP h v0 0)) = true) <|
  if (gI h19 (gP h v0 1) v1.toNatClampNeg) = (gI h19 (gP h v0 0) v1.toNatClampNeg) then
    MX8_tellLetter_86 h19 v0 (gI h19 v0 4) (0 : Int32)
  else
    MX8_tellLetter_86 h19 v0 (gI h19 v0 4) (1 : Int32)
set_option maxRecDepth 100000 in
set_option maxHeartbeats 8000000 in
theorem kX8_tellLetter_49 {d : Nat} {h : Hp} {v0 : Nat} {v1 : Int32} {v2 : Int32} {s0 : Nat} {s1 : Int32} {s2 : Int32} {r : Int32} {h9 : Hp} (H : MX8_tellLetter_49 h v0 v1 v2 s0 s1 s2 = some (r, h9)) : J (d) YX8_tellLetter 49 [.ref v0, .int v1, .int v2] [.int s2, .int s1, .ref s0] h (oI r) h9 := by
  unfold MX8_tellLetter_49 at H
  refine J_isub dX8_tellLetter_49 ?_
  obtain ⟨g10, H⟩ := gd H
  obtain ⟨h11, e12, H⟩ := lt_el H
  refine J_pI 7 4 dX8_tellLetter_50 g10 flX8_25 rfl rfl e12 ?_
  have c13 := ekI e12
  have c14 := elI e12
  have c15 := epI e12
  refine J_aload_n 0 dX8_tellLetter_53 rfl rfl ?_
  obtain ⟨g16, H⟩ := gd H
  refine J_gP 7 1 dX8_tellLetter_54 (kq c13 g16) flX8_15 rfl (congrFun (congrFun c15 v0) 1) ?_
  refine J_iload_n 1 dX8_tellLetter_57 rfl rfl ?_
  refine J_iload_n 2 dX8_tellLetter_58 rfl rfl ?_
  refine J_i2b dX8_tellLetter_59 ?_
  obtain ⟨g17, H⟩ := gd H
  obtain ⟨g18, H⟩ := gd H
  obtain ⟨h19, e20, H⟩ := lt_el H
  refine J_sB dX8_tellLetter_60 (kq c13 g17) (lq c14 g18) e20 ?_
  have c21 := (ekI e20).trans c13
  have c22 := (elI e20).trans c14
  have c23 := (epI e20).trans c15
  refine J_aload_n 0 dX8_tellLetter_61 rfl rfl ?_
  refine J_dup dX8_tellLetter_62 rfl ?_
  refine J_getI 7 4 dX8_tellLetter_63 (kq c21 g16) flX8_25 rfl ?_
  refine J_aload_n 0 dX8_tellLetter_66 rfl rfl ?_
  refine J_gP 7 1 dX8_tellLetter_67 (kq c21 g16) flX8_15 rfl (congrFun (congrFun c23 v0) 1) ?_
  refine J_iload_n 1 dX8_tellLetter_70 rfl rfl ?_
  refine J_bald dX8_tellLetter_71 (kq c21 g17) (lq c22 g18) ?_
  refine J_aload_n 0 dX8_tellLetter_72 rfl rfl ?_
  refine J_gP 7 0 dX8_tellLetter_73 (kq c21 g16) flX8_9 rfl (congrFun (congrFun c23 v0) 0) ?_
  refine J_iload_n 1 dX8_tellLetter_76 rfl rfl ?_
  obtain ⟨g24, H⟩ := gd H
  obtain ⟨g25, H⟩ := gd H
  refine J_bald dX8_tellLetter_77 (kq c21 g24) (lq c22 g25) ?_
  refine J_icmp_ne 85 dX8_tellLetter_78 rfl (fun q26 => ?_) (fun q26 => ?_)
  · replace H := br0 q26 H
    refine J_iconst (1 : Int32) dX8_tellLetter_85 kc_1 ?_
    exact J_dr (kX8_tellLetter_86 H ) trivial
  · replace H := br1 q26 H
    refine J_iconst (0 : Int32) dX8_tellLetter_81 kc_0 ?_
    refine J_goto 86 dX8_tellLetter_82 rfl ?_
    exact J_dr (kX8_tellLetter_86 H ) trivial
noncomputable def MX8_tellLetter (h : Hp) (v0 : Nat) (v1 : Int32) (v2 : Int32) : Option (Int32 × Hp) :=
  if v1 < 0 then
    some ((0 : Int32), h)
  else
    gg (β := (Int32 × Hp)) (kd h v0 = 7) <|
    if (gI h v0 2) ≤ v1 then
      some ((0 : Int32), h)
    else
      gg (β := (Int32 × Hp)) (kd h (gP h v0 1) = 21) <|
      gg (β := (Int32 × Hp)) (inB v1 (ln h (gP h v0 1)) = true) <|
      if (gI h (gP h v0 1) v1.toNatClampNeg) = v2 then
        some ((0 : Int32), h)
      else
        gg (β := (Int32 × Hp)) (kd h (gP h v0 0) = 21) <|
        gg (β := (Int32 × Hp)) (inB v1 (ln h (gP h v0 0)) = true) <|
        if (gI h (gP h v0 1) v1.toNatClampNeg) = (gI h (gP h v0 0) v1.toNatClampNeg) then
          MX8_tellLetter_49 h v0 v1 v2 v0 (gI h v0 4) (0 : Int32)
        else
          MX8_tellLetter_49 h v0 v1 v2 v0 (gI h v0 4) (1 : Int32)
set_option maxRecDepth 100000 in
set_option maxHeartbeats 8000000 in
theorem eX8_tellLetter {d : Nat} {h : Hp} {v0 : Nat} {v1 : Int32} {v2 : Int32} {r : Int32} {h9 : Hp} (H : MX8_tellLetter h v0 v1 v2 = some (r, h9)) : J (d) YX8_tellLetter 0 [.ref v0, .int v1, .int v2] [] h (oI r) h9 := by
  unfold MX8_tellLetter at H
  refine J_iload_n 1 dX8_tellLetter_0 rfl rfl ?_
  refine J_if_lt 22 dX8_tellLetter_1 rfl (fun q1 => ?_) (fun q1 => ?_)
  · replace H := br1 q1 H
    refine J_iconst (0 : Int32) dX8_tellLetter_22 kc_0 ?_
    cases H
    exact J_rZ dX8_tellLetter_23 rfl rfl
  · replace H := br0 q1 H
    refine J_iload_n 1 dX8_tellLetter_4 rfl rfl ?_
    refine J_aload_n 0 dX8_tellLetter_5 rfl rfl ?_
    obtain ⟨g2, H⟩ := gd H
    refine J_getI 7 2 dX8_tellLetter_6 g2 flX8_18 rfl ?_
    refine J_icmp_ge 22 dX8_tellLetter_9 rfl (fun q3 => ?_) (fun q3 => ?_)
    · replace H := br1 q3 H
      refine J_iconst (0 : Int32) dX8_tellLetter_22 kc_0 ?_
      cases H
      exact J_rZ dX8_tellLetter_23 rfl rfl
    · replace H := br0 q3 H
      refine J_aload_n 0 dX8_tellLetter_12 rfl rfl ?_
      refine J_gP 7 1 dX8_tellLetter_13 g2 flX8_15 rfl rfl ?_
      refine J_iload_n 1 dX8_tellLetter_16 rfl rfl ?_
      obtain ⟨g4, H⟩ := gd H
      obtain ⟨g5, H⟩ := gd H
      refine J_bald dX8_tellLetter_17 g4 (inB_ok g5) ?_
      refine J_iload_n 2 dX8_tellLetter_18 rfl rfl ?_
      refine J_icmp_ne 24 dX8_tellLetter_19 rfl (fun q6 => ?_) (fun q6 => ?_)
      · replace H := br0 q6 H
        refine J_aload_n 0 dX8_tellLetter_24 rfl rfl ?_
        refine J_dup dX8_tellLetter_25 rfl ?_
        refine J_getI 7 4 dX8_tellLetter_26 g2 flX8_25 rfl ?_
        refine J_aload_n 0 dX8_tellLetter_29 rfl rfl ?_
        refine J_gP 7 1 dX8_tellLetter_30 g2 flX8_15 rfl rfl ?_
        refine J_iload_n 1 dX8_tellLetter_33 rfl rfl ?_
        refine J_bald dX8_tellLetter_34 g4 (inB_ok g5) ?_
        refine J_aload_n 0 dX8_tellLetter_35 rfl rfl ?_
        refine J_gP 7 0 dX8_tellLetter_36 g2 flX8_9 rfl rfl ?_
        refine J_iload_n 1 dX8_tellLetter_39 rfl rfl ?_
        obtain ⟨g7, H⟩ := gd H
        obtain ⟨g8, H⟩ := gd H
        refine J_bald dX8_tellLetter_40 g7 (inB_ok g8) ?_
        refine J_icmp_ne 48 dX8_tellLetter_41 rfl (fun q9 => ?_) (fun q9 => ?_)
        · replace H := br0 q9 H
          refine J_iconst (1 : Int32) dX8_tellLetter_48 kc_1 ?_
          exact J_dr (kX8_tellLetter_49 H ) ⟨rfl, ⟨rfl, ⟨rfl, trivial⟩⟩⟩
        · replace H := br1 q9 H
          refine J_iconst (0 : Int32) dX8_tellLetter_44 kc_0 ?_
          refine J_goto 49 dX8_tellLetter_45 rfl ?_
          exact J_dr (kX8_tellLetter_49 H ) ⟨rfl, ⟨rfl, ⟨rfl, trivial⟩⟩⟩
      · replace H := br1 q6 H
        refine J_iconst (0 : Int32) dX8_tellLetter_22 kc_0 ?_
        cases H
        exact J_rZ dX8_tellLetter_23 rfl rfl
theorem okX8_tellLetter {d : Nat} {h : Hp} {v0 : Nat} {v1 : Int32} {v2 : Int32} {r : Int32} {h9 : Hp} (H : MX8_tellLetter h v0 v1 v2 = some (r, h9)) : CT (d) YX8_tellLetter [.ref v0, .int v1, .int v2] h (oI r) h9 := CT_of (by decide +kernel) (Nat.le_of_ble_eq_true rfl) (eX8_tellLetter H)
noncomputable def MX11_slip (h : Hp) (v0 : Nat) (v1 : Int32) (v2 : Int32) (v3 : Int32) : Option ((Int32 ⊕ Nat) × Hp) :=
  gg (β := ((Int32 ⊕ Nat) × Hp)) (kd h v0 = 10) <|
  gg (β := ((Int32 ⊕ Nat) × Hp)) (kd h (gP h v0 5) = 6) <|
  Option.bind (α := Nat) (β := ((Int32 ⊕ Nat) × Hp)) (MX7_findSlug h (gP h v0 5) v1) fun (t4 : Nat) =>
  if t4 = 0 then
    some (.inr 1, bmp h 1 6)
  else
    gg (β := ((Int32 ⊕ Nat) × Hp)) (kd h t4 = 7) <|
    Option.bind (α := Int32) (β := ((Int32 ⊕ Nat) × Hp)) (MX8_byteOfLetter h t4 v2) fun (t8 : Int32) =>
    if t8 = (-1 : Int32) then
      some (.inr 2, bmp h 1 6)
    else
      if v3 < 0 then
        some (.inr 2, bmp h 1 6)
      else
        if v3 < (26 : Int32) then
          b2 (α := Int32) (β := Hp) (γ := ((Int32 ⊕ Nat) × Hp)) (MX8_tellLetter h t4 t8 ((97 : Int32) + v3)) fun (t14 : Int32) (h13 : Hp) =>
          gg (β := ((Int32 ⊕ Nat) × Hp)) (zOk t14 = true) <|
          some (.inl t14, h13)
        else
          some (.inr 2, bmp h 1 6)
set_option maxRecDepth 100000 in
set_option maxHeartbeats 8000000 in
theorem eX11_slip {d : Nat} {h : Hp} {v0 : Nat} {v1 : Int32} {v2 : Int32} {v3 : Int32} {r : Int32 ⊕ Nat} {h9 : Hp} (H : MX11_slip h v0 v1 v2 v3 = some (r, h9)) : J (d + 2) YX11_slip 0 [.ref v0, .int v1, .int v2, .int v3, Value.null, Value.null] [] h (oT r) h9 := by
  unfold MX11_slip at H
  refine J_aload_n 0 dX11_slip_0 rfl rfl ?_
  obtain ⟨g1, H⟩ := gd H
  refine J_gP 10 5 dX11_slip_1 g1 flX11_39 rfl rfl ?_
  refine J_iload_n 1 dX11_slip_4 rfl rfl ?_
  obtain ⟨g3, H⟩ := gd H
  obtain ⟨t4, e2, H⟩ := bd H
  refine J_cV (as := [.int v1]) 6 YX7_findSlug 1 dX11_slip_5 moX7_findSlug mvX7_findSlug mlX11_280 g3 rfl rfl (okX7_findSlug (d := d + 1) e2) rfl rfl [] rfl rfl (st2 := [.ref t4]) rfl ?_
  refine J_astore dX11_slip_8 (by decide) (ls' := [.ref v0, .int v1, .int v2, .int v3, .ref t4, Value.null]) rfl ?_
  refine J_aload dX11_slip_10 rfl ?_
  refine J_ifnonnull 23 dX11_slip_12 rfl (fun q5 => ?_) (fun q5 => ?_)
  · replace H := br0 q5 H
    refine J_aload dX11_slip_23 rfl ?_
    refine J_iload_n 2 dX11_slip_25 rfl rfl ?_
    obtain ⟨g7, H⟩ := gd H
    obtain ⟨t8, e6, H⟩ := bd H
    refine J_cV (as := [.int v2]) 7 YX8_byteOfLetter 1 dX11_slip_26 moX8_byteOfLetter mvX8_byteOfLetter mlX11_351 g7 rfl rfl (okX8_byteOfLetter (d := d) e6) rfl rfl [] rfl rfl (st2 := [.int t8]) rfl ?_
    refine J_istore dX11_slip_29 (by decide) (ls' := [.ref v0, .int v1, .int v2, .int v3, .ref t4, .int t8]) rfl ?_
    refine J_iload dX11_slip_31 rfl ?_
    refine J_iconst (-1 : Int32) dX11_slip_33 kc_m1 ?_
    refine J_icmp_eq 47 dX11_slip_34 rfl (fun q9 => ?_) (fun q9 => ?_)
    · replace H := br1 q9 H
      cases H
      exact J_throw 2 ["java/lang/RuntimeException", "java/lang/Exception"] dX11_slip_47 dX11_slip_50 dX11_slip_51 dX11_slip_54 th_89 clX11_87 (Nat.le_of_ble_eq_true rfl)
    · replace H := br0 q9 H
      refine J_iload_n 3 dX11_slip_37 rfl rfl ?_
      refine J_if_lt 47 dX11_slip_38 rfl (fun q10 => ?_) (fun q10 => ?_)
      · replace H := br1 q10 H
        cases H
        exact J_throw 2 ["java/lang/RuntimeException", "java/lang/Exception"] dX11_slip_47 dX11_slip_50 dX11_slip_51 dX11_slip_54 th_89 clX11_87 (Nat.le_of_ble_eq_true rfl)
      · replace H := br0 q10 H
        refine J_iload_n 3 dX11_slip_41 rfl rfl ?_
        refine J_bipush (26 : Int32) dX11_slip_42 kb_26 ?_
        refine J_icmp_lt 55 dX11_slip_44 rfl (fun q11 => ?_) (fun q11 => ?_)
        · replace H := br1 q11 H
          refine J_aload dX11_slip_55 rfl ?_
          refine J_iload dX11_slip_57 rfl ?_
          refine J_bipush (97 : Int32) dX11_slip_59 kb_97 ?_
          refine J_iload_n 3 dX11_slip_61 rfl rfl ?_
          refine J_iadd dX11_slip_62 ?_
          obtain ⟨t14, h13, e12, H⟩ := b2_el H
          refine J_cV (as := [.int t8, .int ((97 : Int32) + v3)]) 7 YX8_tellLetter 2 dX11_slip_63 moX8_tellLetter mvX8_tellLetter mlX11_354 g7 rfl rfl (okX8_tellLetter (d := d + 1) e12) rfl rfl [] rfl rfl (st2 := [.int t14]) rfl ?_
          obtain ⟨g15, H⟩ := gd H
          cases H
          exact J_rZ dX11_slip_66 rfl g15
        · replace H := br0 q11 H
          cases H
          exact J_throw 2 ["java/lang/RuntimeException", "java/lang/Exception"] dX11_slip_47 dX11_slip_50 dX11_slip_51 dX11_slip_54 th_89 clX11_87 (Nat.le_of_ble_eq_true rfl)
  · replace H := br1 q5 H
    cases H
    exact J_throw 1 ["java/lang/RuntimeException", "java/lang/Exception"] dX11_slip_15 dX11_slip_18 dX11_slip_19 dX11_slip_22 th_86 clX11_84 (Nat.le_of_ble_eq_true rfl)
theorem okX11_slip {d : Nat} {h : Hp} {v0 : Nat} {v1 : Int32} {v2 : Int32} {v3 : Int32} {r : Int32 ⊕ Nat} {h9 : Hp} (H : MX11_slip h v0 v1 v2 v3 = some (r, h9)) : CT (d + 2) YX11_slip [.ref v0, .int v1, .int v2, .int v3] h (oT r) h9 := CT_of (by decide +kernel) (Nat.le_of_ble_eq_true rfl) (eX11_slip H)
noncomputable def MX11_slug (h : Hp) (v0 : Nat) (v1 : Int32) (v2 : Int32) : Option ((Int32 ⊕ Nat) × Hp) :=
  gg (β := ((Int32 ⊕ Nat) × Hp)) (kd h v0 = 10) <|
  gg (β := ((Int32 ⊕ Nat) × Hp)) (kd h (gP h v0 5) = 6) <|
  Option.bind (α := Nat) (β := ((Int32 ⊕ Nat) × Hp)) (MX7_findSlug h (gP h v0 5) v1) fun (t4 : Nat) =>
  if t4 = 0 then
    some (.inr 1, bmp h 1 6)
  else
    if v2 = (0 : Int32) then
      gg (β := ((Int32 ⊕ Nat) × Hp)) (kd h t4 = 7) <|
      some (.inl (gI h t4 5), h)
    else
    if v2 = (1 : Int32) then
      gg (β := ((Int32 ⊕ Nat) × Hp)) (kd h t4 = 7) <|
      some (.inl (gI h t4 8), h)
    else
    if v2 = (2 : Int32) then
      gg (β := ((Int32 ⊕ Nat) × Hp)) (kd h t4 = 7) <|
      some (.inl (gI h t4 9), h)
    else
    if v2 = (3 : Int32) then
      gg (β := ((Int32 ⊕ Nat) × Hp)) (kd h t4 = 7) <|
      some (.inl (gI h t4 3), h)
    else
    if v2 = (4 : Int32) then
      gg (β := ((Int32 ⊕ Nat) × Hp)) (kd h t4 = 7) <|
      some (.inl (gI h t4 10), h)
    else
    if v2 = (5 : Int32) then
      gg (β := ((Int32 ⊕ Nat) × Hp)) (kd h t4 = 7) <|
      some (.inl (gI h t4 11), h)
    else
    if v2 = (6 : Int32) then
      gg (β := ((Int32 ⊕ Nat) × Hp)) (kd h t4 = 7) <|
      some (.inl (gI h t4 12), h)
    else
    if v2 = (7 : Int32) then
      gg (β := ((Int32 ⊕ Nat) × Hp)) (kd h t4 = 7) <|
      if (gI h t4 14) = 0 then
        some (.inl (0 : Int32), h)
      else
        some (.inl (1 : Int32), h)
    else
    if v2 = (8 : Int32) then
      gg (β := ((Int32 ⊕ Nat) × Hp)) (kd h t4 = 7) <|
      if (gI h t4 4) ≤ 0 then
        some (.inl (0 : Int32), h)
      else
        some (.inl (1 : Int32), h)
    else
    if v2 = (9 : Int32) then
      gg (β := ((Int32 ⊕ Nat) × Hp)) (kd h t4 = 7) <|
      some (.inl (gI h t4 7), h)
    else
      some (.inr 4, bmp h 1 6)
set_option maxRecDepth 100000 in
set_option maxHeartbeats 8000000 in
theorem eX11_slug {d : Nat} {h : Hp} {v0 : Nat} {v1 : Int32} {v2 : Int32} {r : Int32 ⊕ Nat} {h9 : Hp} (H : MX11_slug h v0 v1 v2 = some (r, h9)) : J (d + 1) YX11_slug 0 [.ref v0, .int v1, .int v2, Value.null] [] h (oT r) h9 := by
  unfold MX11_slug at H
  refine J_aload_n 0 dX11_slug_0 rfl rfl ?_
  obtain ⟨g1, H⟩ := gd H
  refine J_gP 10 5 dX11_slug_1 g1 flX11_39 rfl rfl ?_
  refine J_iload_n 1 dX11_slug_4 rfl rfl ?_
  obtain ⟨g3, H⟩ := gd H
  obtain ⟨t4, e2, H⟩ := bd H
  refine J_cV (as := [.int v1]) 6 YX7_findSlug 1 dX11_slug_5 moX7_findSlug mvX7_findSlug mlX11_280 g3 rfl rfl (okX7_findSlug (d := d) e2) rfl rfl [] rfl rfl (st2 := [.ref t4]) rfl ?_
  refine J_astore_n 3 dX11_slug_8 rfl (by decide) (ls' := [.ref v0, .int v1, .int v2, .ref t4]) rfl ?_
  refine J_aload_n 3 dX11_slug_9 rfl rfl ?_
  refine J_ifnonnull 21 dX11_slug_10 rfl (fun q5 => ?_) (fun q5 => ?_)
  · replace H := br0 q5 H
    refine J_iload_n 2 dX11_slug_21 rfl rfl ?_
    by_cases q1000 : v2 = (0 : Int32)
    · replace H := br1 q1000 H
      refine J_tab 76 dX11_slug_22 q1000 (by decide) rfl rfl ?_
      refine J_aload_n 3 dX11_slug_76 rfl rfl ?_
      obtain ⟨g6, H⟩ := gd H
      refine J_getI 7 5 dX11_slug_77 g6 flX11_284 rfl ?_
      cases H
      exact J_iretI dX11_slug_80 rfl
    replace H := br0 q1000 H
    by_cases q1001 : v2 = (1 : Int32)
    · replace H := br1 q1001 H
      refine J_tab 81 dX11_slug_22 q1001 (by decide) rfl rfl ?_
      refine J_aload_n 3 dX11_slug_81 rfl rfl ?_
      obtain ⟨g7, H⟩ := gd H
      refine J_getI 7 8 dX11_slug_82 g7 flX11_289 rfl ?_
      cases H
      exact J_iretI dX11_slug_85 rfl
    replace H := br0 q1001 H
    by_cases q1002 : v2 = (2 : Int32)
    · replace H := br1 q1002 H
      refine J_tab 86 dX11_slug_22 q1002 (by decide) rfl rfl ?_
      refine J_aload_n 3 dX11_slug_86 rfl rfl ?_
      obtain ⟨g8, H⟩ := gd H
      refine J_getI 7 9 dX11_slug_87 g8 flX11_292 rfl ?_
      cases H
      exact J_iretI dX11_slug_90 rfl
    replace H := br0 q1002 H
    by_cases q1003 : v2 = (3 : Int32)
    · replace H := br1 q1003 H
      refine J_tab 91 dX11_slug_22 q1003 (by decide) rfl rfl ?_
      refine J_aload_n 3 dX11_slug_91 rfl rfl ?_
      obtain ⟨g9, H⟩ := gd H
      refine J_getI 7 3 dX11_slug_92 g9 flX11_295 rfl ?_
      cases H
      exact J_iretI dX11_slug_95 rfl
    replace H := br0 q1003 H
    by_cases q1004 : v2 = (4 : Int32)
    · replace H := br1 q1004 H
      refine J_tab 96 dX11_slug_22 q1004 (by decide) rfl rfl ?_
      refine J_aload_n 3 dX11_slug_96 rfl rfl ?_
      obtain ⟨g10, H⟩ := gd H
      refine J_getI 7 10 dX11_slug_97 g10 flX11_298 rfl ?_
      cases H
      exact J_iretI dX11_slug_100 rfl
    replace H := br0 q1004 H
    by_cases q1005 : v2 = (5 : Int32)
    · replace H := br1 q1005 H
      refine J_tab 101 dX11_slug_22 q1005 (by decide) rfl rfl ?_
      refine J_aload_n 3 dX11_slug_101 rfl rfl ?_
      obtain ⟨g11, H⟩ := gd H
      refine J_getI 7 11 dX11_slug_102 g11 flX11_301 rfl ?_
      cases H
      exact J_iretI dX11_slug_105 rfl
    replace H := br0 q1005 H
    by_cases q1006 : v2 = (6 : Int32)
    · replace H := br1 q1006 H
      refine J_tab 106 dX11_slug_22 q1006 (by decide) rfl rfl ?_
      refine J_aload_n 3 dX11_slug_106 rfl rfl ?_
      obtain ⟨g12, H⟩ := gd H
      refine J_getI 7 12 dX11_slug_107 g12 flX11_304 rfl ?_
      cases H
      exact J_iretI dX11_slug_110 rfl
    replace H := br0 q1006 H
    by_cases q1007 : v2 = (7 : Int32)
    · replace H := br1 q1007 H
      refine J_tab 111 dX11_slug_22 q1007 (by decide) rfl rfl ?_
      refine J_aload_n 3 dX11_slug_111 rfl rfl ?_
      obtain ⟨g13, H⟩ := gd H
      refine J_getI 7 14 dX11_slug_112 g13 flX11_307 rfl ?_
      refine J_if_eq 122 dX11_slug_115 rfl (fun q14 => ?_) (fun q14 => ?_)
      · replace H := br1 q14 H
        refine J_iconst (0 : Int32) dX11_slug_122 kc_0 ?_
        cases H
        exact J_iretI dX11_slug_123 rfl
      · replace H := br0 q14 H
        refine J_iconst (1 : Int32) dX11_slug_118 kc_1 ?_
        refine J_goto 123 dX11_slug_119 rfl ?_
        cases H
        exact J_iretI dX11_slug_123 rfl
    replace H := br0 q1007 H
    by_cases q1008 : v2 = (8 : Int32)
    · replace H := br1 q1008 H
      refine J_tab 124 dX11_slug_22 q1008 (by decide) rfl rfl ?_
      refine J_aload_n 3 dX11_slug_124 rfl rfl ?_
      obtain ⟨g15, H⟩ := gd H
      refine J_getI 7 4 dX11_slug_125 g15 flX11_310 rfl ?_
      refine J_if_le 135 dX11_slug_128 rfl (fun q16 => ?_) (fun q16 => ?_)
      · replace H := br1 q16 H
        refine J_iconst (0 : Int32) dX11_slug_135 kc_0 ?_
        cases H
        exact J_iretI dX11_slug_136 rfl
      · replace H := br0 q16 H
        refine J_iconst (1 : Int32) dX11_slug_131 kc_1 ?_
        refine J_goto 136 dX11_slug_132 rfl ?_
        cases H
        exact J_iretI dX11_slug_136 rfl
    replace H := br0 q1008 H
    by_cases q1009 : v2 = (9 : Int32)
    · replace H := br1 q1009 H
      refine J_tab 137 dX11_slug_22 q1009 (by decide) rfl rfl ?_
      refine J_aload_n 3 dX11_slug_137 rfl rfl ?_
      obtain ⟨g17, H⟩ := gd H
      refine J_getI 7 7 dX11_slug_138 g17 flX11_313 rfl ?_
      cases H
      exact J_iretI dX11_slug_141 rfl
    replace H := br0 q1009 H
    refine J_tab0 10 142 dX11_slug_22 rfl (fun k hk => ?_) rfl rfl ?_
    · match k, hk with
      | 0, _ => exact q1000
      | 1, _ => exact q1001
      | 2, _ => exact q1002
      | 3, _ => exact q1003
      | 4, _ => exact q1004
      | 5, _ => exact q1005
      | 6, _ => exact q1006
      | 7, _ => exact q1007
      | 8, _ => exact q1008
      | 9, _ => exact q1009
      | k + 10, hk => exact absurd hk (by omega)
    · cases H
      exact J_throw 4 ["java/lang/RuntimeException", "java/lang/Exception"] dX11_slug_142 dX11_slug_145 dX11_slug_146 dX11_slug_149 th_174 clX11_172 (Nat.le_of_ble_eq_true rfl)
  · replace H := br1 q5 H
    cases H
    exact J_throw 1 ["java/lang/RuntimeException", "java/lang/Exception"] dX11_slug_13 dX11_slug_16 dX11_slug_17 dX11_slug_20 th_86 clX11_84 (Nat.le_of_ble_eq_true rfl)
theorem okX11_slug {d : Nat} {h : Hp} {v0 : Nat} {v1 : Int32} {v2 : Int32} {r : Int32 ⊕ Nat} {h9 : Hp} (H : MX11_slug h v0 v1 v2 = some (r, h9)) : CT (d + 1) YX11_slug [.ref v0, .int v1, .int v2] h (oT r) h9 := CT_of (by decide +kernel) (Nat.le_of_ble_eq_true rfl) (eX11_slug H)
noncomputable def MX11_stands (h : Hp) (v0 : Nat) (v1 : Int32) (v2 : Int32) (v3 : Int32) : Option ((Int32 ⊕ Nat) × Hp) :=
  Option.bind (α := Int32) (β := ((Int32 ⊕ Nat) × Hp)) (MX11_isPage h v1) fun (t2 : Int32) =>
  if t2 = 0 then
    some (.inr 1, bmp h 1 6)
  else
    gg (β := ((Int32 ⊕ Nat) × Hp)) (kd h v0 = 10) <|
    Option.bind (α := Int32) (β := ((Int32 ⊕ Nat) × Hp)) (MX11_isEdition h v0 v2) fun (t6 : Int32) =>
    if t6 = 0 then
      some (.inr 1, bmp h 1 6)
    else
      gg (β := ((Int32 ⊕ Nat) × Hp)) (kd h (gP h v0 6) = 1) <|
      Option.bind (α := Int32) (β := ((Int32 ⊕ Nat) × Hp)) (MX2_slugOn h (gP h v0 6) (((6 : Int32) * (v2 + (1 : Int32))) + v1) v3) fun (t10 : Int32) =>
      some (.inl t10, h)
set_option maxRecDepth 100000 in
set_option maxHeartbeats 8000000 in
theorem eX11_stands {d : Nat} {h : Hp} {v0 : Nat} {v1 : Int32} {v2 : Int32} {v3 : Int32} {r : Int32 ⊕ Nat} {h9 : Hp} (H : MX11_stands h v0 v1 v2 v3 = some (r, h9)) : J (d + 1) YX11_stands 0 [.ref v0, .int v1, .int v2, .int v3] [] h (oT r) h9 := by
  unfold MX11_stands at H
  refine J_iload_n 1 dX11_stands_0 rfl rfl ?_
  obtain ⟨t2, e1, H⟩ := bd H
  refine J_cS (as := [.int v1]) YX11_isPage 1 dX11_stands_1 moX11_isPage msX11_isPage mlX11_382 (okX11_isPage (d := d) e1) rfl rfl [] rfl rfl (st2 := [.int t2]) rfl ?_
  refine J_if_eq 15 dX11_stands_4 rfl (fun q3 => ?_) (fun q3 => ?_)
  · replace H := br1 q3 H
    cases H
    exact J_throw 1 ["java/lang/RuntimeException", "java/lang/Exception"] dX11_stands_15 dX11_stands_18 dX11_stands_19 dX11_stands_22 th_86 clX11_84 (Nat.le_of_ble_eq_true rfl)
  · replace H := br0 q3 H
    refine J_aload_n 0 dX11_stands_7 rfl rfl ?_
    refine J_iload_n 2 dX11_stands_8 rfl rfl ?_
    obtain ⟨g5, H⟩ := gd H
    obtain ⟨t6, e4, H⟩ := bd H
    refine J_cV (as := [.int v2]) 10 YX11_isEdition 1 dX11_stands_9 moX11_isEdition mvX11_isEdition mlX11_450 g5 rfl rfl (okX11_isEdition (d := d) e4) rfl rfl [] rfl rfl (st2 := [.int t6]) rfl ?_
    refine J_if_ne 23 dX11_stands_12 rfl (fun q7 => ?_) (fun q7 => ?_)
    · replace H := br0 q7 H
      refine J_aload_n 0 dX11_stands_23 rfl rfl ?_
      refine J_gP 10 6 dX11_stands_24 g5 flX11_46 rfl rfl ?_
      refine J_bipush (6 : Int32) dX11_stands_27 kb_6 ?_
      refine J_iload_n 2 dX11_stands_29 rfl rfl ?_
      refine J_iconst (1 : Int32) dX11_stands_30 kc_1 ?_
      refine J_iadd dX11_stands_31 ?_
      refine J_imul dX11_stands_32 ?_
      refine J_iload_n 1 dX11_stands_33 rfl rfl ?_
      refine J_iadd dX11_stands_34 ?_
      refine J_iload_n 3 dX11_stands_35 rfl rfl ?_
      obtain ⟨g9, H⟩ := gd H
      obtain ⟨t10, e8, H⟩ := bd H
      refine J_cV (as := [.int (((6 : Int32) * (v2 + (1 : Int32))) + v1), .int v3]) 1 YX2_slugOn 2 dX11_stands_36 moX2_slugOn mvX2_slugOn mlX11_453 g9 rfl rfl (okX2_slugOn (d := d) e8) rfl rfl [] rfl rfl (st2 := [.int t10]) rfl ?_
      cases H
      exact J_iretI dX11_stands_39 rfl
    · replace H := br1 q7 H
      cases H
      exact J_throw 1 ["java/lang/RuntimeException", "java/lang/Exception"] dX11_stands_15 dX11_stands_18 dX11_stands_19 dX11_stands_22 th_86 clX11_84 (Nat.le_of_ble_eq_true rfl)
theorem okX11_stands {d : Nat} {h : Hp} {v0 : Nat} {v1 : Int32} {v2 : Int32} {v3 : Int32} {r : Int32 ⊕ Nat} {h9 : Hp} (H : MX11_stands h v0 v1 v2 v3 = some (r, h9)) : CT (d + 1) YX11_stands [.ref v0, .int v1, .int v2, .int v3] h (oT r) h9 := CT_of (by decide +kernel) (Nat.le_of_ble_eq_true rfl) (eX11_stands H)
noncomputable def MX7_addStory_84 (h : Hp) (v0 : Nat) (v5 : Int32) : Option (Int32 × Hp) :=
  gg (β := (Int32 × Hp)) (kd h v0 = 6) <|
  gg (β := (Int32 × Hp)) (kd h (gP h v0 6) = 20) <|
  gg (β := (Int32 × Hp)) (inB (gI h v0 7) (ln h (gP h v0 6)) = true) <|
  lt (α := Hp) (β := Option (Int32 × Hp)) (sI h (gP h v0 6) (gI h v0 7).toNatClampNeg v5) fun (h5 : Hp) =>
  lt (α := Hp) (β := Option (Int32 × Hp)) (sI h5 v0 7 ((gI h5 v0 7) + (1 : Int32))) fun (h10 : Hp) =>
  some (((gI h10 v0 7) - (1 : Int32)), h10)
set_option maxRecDepth 100000 in
set_option maxHeartbeats 8000000 in
theorem kX7_addStory_84 {d : Nat} {h : Hp} {v0 : Nat} {v5 : Int32} {r : Int32} {h9 : Hp} (H : MX7_addStory_84 h v0 v5 = some (r, h9)) : J (d + 2) YX7_addStory 84 [.ref v0, Value.null, Value.null, Value.null, Value.null, .int v5, Value.null, Value.null, Value.null] [] h (oI r) h9 := by
  unfold MX7_addStory_84 at H
  refine J_aload_n 0 dX7_addStory_84 rfl rfl ?_
  obtain ⟨g2, H⟩ := gd H
  refine J_gP 6 6 dX7_addStory_85 g2 flX7_39 rfl rfl ?_
  refine J_aload_n 0 dX7_addStory_88 rfl rfl ?_
  refine J_getI 6 7 dX7_addStory_89 g2 flX7_42 rfl ?_
  refine J_iload dX7_addStory_92 rfl ?_
  obtain ⟨g3, H⟩ := gd H
  obtain ⟨g4, H⟩ := gd H
  obtain ⟨h5, e6, H⟩ := lt_el H
  refine J_sI dX7_addStory_94 g3 (inB_ok g4) e6 ?_
  have c7 := ekI e6
  have c8 := elI e6
  have c9 := epI e6
  refine J_aload_n 0 dX7_addStory_95 rfl rfl ?_
  refine J_dup dX7_addStory_96 rfl ?_
  refine J_getI 6 7 dX7_addStory_97 (kq c7 g2) flX7_42 rfl ?_
  refine J_iconst (1 : Int32) dX7_addStory_100 kc_1 ?_
  refine J_iadd dX7_addStory_101 ?_
  obtain ⟨h10, e11, H⟩ := lt_el H
  refine J_pI 6 7 dX7_addStory_102 (kq c7 g2) flX7_42 rfl rfl e11 ?_
  have c12 := (ekI e11).trans c7
  have c13 := (elI e11).trans c8
  have c14 := (epI e11).trans c9
  refine J_aload_n 0 dX7_addStory_105 rfl rfl ?_
  refine J_getI 6 7 dX7_addStory_106 (kq c12 g2) flX7_42 rfl ?_
  refine J_iconst (1 : Int32) dX7_addStory_109 kc_1 ?_
  refine J_isub dX7_addStory_110 ?_
  cases H
  exact J_iretI dX7_addStory_111 rfl
noncomputable def MX7_addStory_36 (h : Hp) (v0 : Nat) (v1 : Nat) (v2 : Int32) (v3 : Int32) (v4 : Int32) (v5 : Int32) (v6 : Int32) (v7 : Int32) : Option ((Int32 × Int32 × Int32 × Hp) ⊕ (Int32 × Hp)) :=
  gg (β := ((Int32 × Int32 × Int32 × Hp) ⊕ (Int32 × Hp))) (kd h v0 = 6) <|
  b2 (α := Nat) (β := Hp) (γ := ((Int32 × Int32 × Int32 × Hp) ⊕ (Int32 × Hp))) (MX7_ownPart h v0 (((5 : Int32) * (gI h v0 7)) + v5)) fun (t20 : Nat) (h19 : Hp) =>
  gg (β := ((Int32 × Int32 × Int32 × Hp) ⊕ (Int32 × Hp))) (kd h19 t20 = 4) <|
  Option.bind (α := Hp) (β := ((Int32 × Int32 × Int32 × Hp) ⊕ (Int32 × Hp))) (MX5_empty h19 t20 v3 v4) fun (h23 : Hp) =>
  gg (β := ((Int32 × Int32 × Int32 × Hp) ⊕ (Int32 × Hp))) (kd h23 t20 = 4) <|
  Option.bind (α := Hp) (β := ((Int32 × Int32 × Int32 × Hp) ⊕ (Int32 × Hp))) (MX5_addText h23 t20 v1 v6 v7) fun (h26 : Hp) =>
  some (.inl ((v5 + (1 : Int32)), (v7 + (1 : Int32)), (v7 + (1 : Int32)), h26))
set_option maxRecDepth 100000 in
set_option maxHeartbeats 8000000 in
theorem kX7_addStory_36 {d : Nat} {h : Hp} {v0 : Nat} {v1 : Nat} {v2 : Int32} {v3 : Int32} {v4 : Int32} {v5 : Int32} {v6 : Int32} {v7 : Int32} {r : Int32} {h9 : Hp} {x : ((Int32 × Int32 × Int32 × Hp) ⊕ (Int32 × Hp))} (H : MX7_addStory_36 h v0 v1 v2 v3 v4 v5 v6 v7 = some x) (hb0 : ∀ s : Int32 × Int32 × Int32 × Hp, x = .inl s → J (d + 2) YX7_addStory 9 [.ref v0, .ref v1, .int v2, .int v3, .int v4, .int s.1, .int s.2.1, .int s.2.2.1, Value.null] [] s.2.2.2 (oI r) h9) (hx : ∀ z : (Int32 × Hp), x = .inr (z) → z = (r, h9)) : J (d + 2) YX7_addStory 36 [.ref v0, .ref v1, .int v2, .int v3, .int v4, .int v5, .int v6, .int v7, Value.null] [] h (oI r) h9 := by
  unfold MX7_addStory_36 at H
  refine J_aload_n 0 dX7_addStory_36 rfl rfl ?_
  refine J_iconst (5 : Int32) dX7_addStory_37 kc_5 ?_
  refine J_aload_n 0 dX7_addStory_38 rfl rfl ?_
  obtain ⟨g17, H⟩ := gd H
  refine J_getI 6 7 dX7_addStory_39 g17 flX7_42 rfl ?_
  refine J_imul dX7_addStory_42 ?_
  refine J_iload dX7_addStory_43 rfl ?_
  refine J_iadd dX7_addStory_45 ?_
  obtain ⟨t20, h19, e18, H⟩ := b2_el H
  refine J_cV (as := [.int (((5 : Int32) * (gI h v0 7)) + v5)]) 6 YX7_ownPart 1 dX7_addStory_46 moX7_ownPart mvX7_ownPart mlX7_124 g17 rfl rfl (okX7_ownPart (d := d) e18) rfl rfl [] rfl rfl (st2 := [.ref t20]) rfl ?_
  refine J_astore dX7_addStory_49 (by decide) (ls' := [.ref v0, .ref v1, .int v2, .int v3, .int v4, .int v5, .int v6, .int v7, .ref t20]) rfl ?_
  refine J_aload dX7_addStory_51 rfl ?_
  refine J_iload_n 3 dX7_addStory_53 rfl rfl ?_
  refine J_iload dX7_addStory_54 rfl ?_
  obtain ⟨g22, H⟩ := gd H
  obtain ⟨h23, e21, H⟩ := bd H
  refine J_cV (as := [.int v3, .int v4]) 4 YX5_empty 2 dX7_addStory_56 moX5_empty mvX5_empty mlX7_133 g22 rfl rfl (okX5_empty (d := d + 1) e21) rfl rfl [] rfl rfl (st2 := []) rfl ?_
  refine J_aload dX7_addStory_59 rfl ?_
  refine J_aload_n 1 dX7_addStory_61 rfl rfl ?_
  refine J_iload dX7_addStory_62 rfl ?_
  refine J_iload dX7_addStory_64 rfl ?_
  obtain ⟨g25, H⟩ := gd H
  obtain ⟨h26, e24, H⟩ := bd H
  refine J_cV (as := [.ref v1, .int v6, .int v7]) 4 YX5_addText 3 dX7_addStory_66 moX5_addText mvX5_addText mlX7_137 g25 rfl rfl (okX5_addText (d := d) e24) rfl rfl [] rfl rfl (st2 := []) rfl ?_
  refine J_iload dX7_addStory_69 rfl ?_
  refine J_iconst (1 : Int32) dX7_addStory_71 kc_1 ?_
  refine J_iadd dX7_addStory_72 ?_
  refine J_istore dX7_addStory_73 (by decide) (ls' := [.ref v0, .ref v1, .int v2, .int v3, .int v4, .int v5, .int (v7 + (1 : Int32)), .int v7, .ref t20]) rfl ?_
  refine J_iinc (v5 + (1 : Int32)) dX7_addStory_75 rfl (congrArg (HAdd.hAdd v5) kc_1) (by decide) (ls' := [.ref v0, .ref v1, .int v2, .int v3, .int v4, .int (v5 + (1 : Int32)), .int (v7 + (1 : Int32)), .int v7, .ref t20]) rfl ?_
  refine J_iinc (v7 + (1 : Int32)) dX7_addStory_78 rfl (congrArg (HAdd.hAdd v7) kc_1) (by decide) (ls' := [.ref v0, .ref v1, .int v2, .int v3, .int v4, .int (v5 + (1 : Int32)), .int (v7 + (1 : Int32)), .int (v7 + (1 : Int32)), .ref t20]) rfl ?_
  refine J_goto 9 dX7_addStory_81 rfl ?_
  cases H
  exact J_dr (hb0 _ rfl) ⟨rfl, ⟨rfl, ⟨rfl, ⟨rfl, ⟨rfl, ⟨rfl, ⟨rfl, ⟨rfl, trivial⟩⟩⟩⟩⟩⟩⟩⟩
noncomputable def BX7_addStory_9 (h : Hp) (v0 : Nat) (v1 : Nat) (v2 : Int32) (v3 : Int32) (v4 : Int32) (v5 : Int32) (v6 : Int32) (v7 : Int32) : Option ((Int32 × Int32 × Int32 × Hp) ⊕ (Int32 × Hp)) :=
  if v2 < v7 then
    up1 (MX7_addStory_84 h v0 v5)
  else
    if (5 : Int32) ≤ v5 then
      up1 (MX7_addStory_84 h v0 v5)
    else
      if v7 = v2 then
        MX7_addStory_36 h v0 v1 v2 v3 v4 v5 v6 v7
      else
        gg (β := ((Int32 × Int32 × Int32 × Hp) ⊕ (Int32 × Hp))) (kd h v1 = 21) <|
        gg (β := ((Int32 × Int32 × Int32 × Hp) ⊕ (Int32 × Hp))) (inB v7 (ln h v1) = true) <|
        if (gI h v1 v7.toNatClampNeg) = (47 : Int32) then
          MX7_addStory_36 h v0 v1 v2 v3 v4 v5 v6 v7
        else
          some (.inl (v5, v6, (v7 + (1 : Int32)), h))
set_option maxRecDepth 100000 in
set_option maxHeartbeats 8000000 in
theorem bX7_addStory_9 {d : Nat} {h : Hp} {v0 : Nat} {v1 : Nat} {v2 : Int32} {v3 : Int32} {v4 : Int32} {v5 : Int32} {v6 : Int32} {v7 : Int32} {r : Int32} {h9 : Hp} {x : ((Int32 × Int32 × Int32 × Hp) ⊕ (Int32 × Hp))} (H : BX7_addStory_9 h v0 v1 v2 v3 v4 v5 v6 v7 = some x) (hb0 : ∀ s : Int32 × Int32 × Int32 × Hp, x = .inl s → J (d + 2) YX7_addStory 9 [.ref v0, .ref v1, .int v2, .int v3, .int v4, .int s.1, .int s.2.1, .int s.2.2.1, Value.null] [] s.2.2.2 (oI r) h9) (hx : ∀ z : (Int32 × Hp), x = .inr (z) → z = (r, h9)) : J (d + 2) YX7_addStory 9 [.ref v0, .ref v1, .int v2, .int v3, .int v4, .int v5, .int v6, .int v7, Value.null] [] h (oI r) h9 := by
  unfold BX7_addStory_9 at H
  refine J_iload dX7_addStory_9 rfl ?_
  refine J_iload_n 2 dX7_addStory_11 rfl rfl ?_
  refine J_icmp_gt 84 dX7_addStory_12 rfl (fun q1 => ?_) (fun q1 => ?_)
  · replace H := br1 q1 H
    obtain ⟨y0, H90, rfl⟩ := up1_el H
    replace H := H90
    obtain rfl := hx _ rfl
    exact J_dr (kX7_addStory_84 H ) ⟨rfl, ⟨rfl, trivial⟩⟩
  · replace H := br0 q1 H
    refine J_iload dX7_addStory_15 rfl ?_
    refine J_iconst (5 : Int32) dX7_addStory_17 kc_5 ?_
    refine J_icmp_ge 84 dX7_addStory_18 rfl (fun q15 => ?_) (fun q15 => ?_)
    · replace H := br1 q15 H
      obtain ⟨y0, H90, rfl⟩ := up1_el H
      replace H := H90
      obtain rfl := hx _ rfl
      exact J_dr (kX7_addStory_84 H ) ⟨rfl, ⟨rfl, trivial⟩⟩
    · replace H := br0 q15 H
      refine J_iload dX7_addStory_21 rfl ?_
      refine J_iload_n 2 dX7_addStory_23 rfl rfl ?_
      refine J_icmp_eq 36 dX7_addStory_24 rfl (fun q16 => ?_) (fun q16 => ?_)
      · replace H := br1 q16 H
        exact J_dr (kX7_addStory_36 H hb0 hx) ⟨rfl, ⟨rfl, ⟨rfl, ⟨rfl, ⟨rfl, ⟨rfl, ⟨rfl, ⟨rfl, trivial⟩⟩⟩⟩⟩⟩⟩⟩
      · replace H := br0 q16 H
        refine J_aload_n 1 dX7_addStory_27 rfl rfl ?_
        refine J_iload dX7_addStory_28 rfl ?_
        obtain ⟨g27, H⟩ := gd H
        obtain ⟨g28, H⟩ := gd H
        refine J_bald dX7_addStory_30 g27 (inB_ok g28) ?_
        refine J_bipush (47 : Int32) dX7_addStory_31 kb_47 ?_
        refine J_icmp_ne 78 dX7_addStory_33 rfl (fun q29 => ?_) (fun q29 => ?_)
        · replace H := br0 q29 H
          refine J_iinc (v7 + (1 : Int32)) dX7_addStory_78 rfl (congrArg (HAdd.hAdd v7) kc_1) (by decide) (ls' := [.ref v0, .ref v1, .int v2, .int v3, .int v4, .int v5, .int v6, .int (v7 + (1 : Int32)), Value.null]) rfl ?_
          refine J_goto 9 dX7_addStory_81 rfl ?_
          cases H
          exact J_dr (hb0 _ rfl) ⟨rfl, ⟨rfl, ⟨rfl, ⟨rfl, ⟨rfl, ⟨rfl, ⟨rfl, ⟨rfl, trivial⟩⟩⟩⟩⟩⟩⟩⟩
        · replace H := br1 q29 H
          exact J_dr (kX7_addStory_36 H hb0 hx) ⟨rfl, ⟨rfl, ⟨rfl, ⟨rfl, ⟨rfl, ⟨rfl, ⟨rfl, ⟨rfl, trivial⟩⟩⟩⟩⟩⟩⟩⟩
noncomputable def MX7_addStory_9 (h : Hp) (v0 : Nat) (v1 : Nat) (v2 : Int32) (v3 : Int32) (v4 : Int32) (v5 : Int32) (v6 : Int32) (v7 : Int32) : Option (Int32 × Hp) := it (fun q : Int32 × Int32 × Int32 × Hp => BX7_addStory_9 q.2.2.2 v0 v1 v2 v3 v4 q.1 q.2.1 q.2.2.1) (v5, v6, v7, h)
set_option maxRecDepth 100000 in
set_option maxHeartbeats 8000000 in
theorem kX7_addStory_9 {d : Nat} {h : Hp} {v0 : Nat} {v1 : Nat} {v2 : Int32} {v3 : Int32} {v4 : Int32} {v5 : Int32} {v6 : Int32} {v7 : Int32} {r : Int32} {h9 : Hp} (H : MX7_addStory_9 h v0 v1 v2 v3 v4 v5 v6 v7 = some (r, h9)) : J (d + 2) YX7_addStory 9 [.ref v0, .ref v1, .int v2, .int v3, .int v4, .int v5, .int v6, .int v7, Value.null] [] h (oI r) h9 := by
  unfold MX7_addStory_9 at H
  refine it_J (G := (fun q : Int32 × Int32 × Int32 × Hp => J (d + 2) YX7_addStory 9 [.ref v0, .ref v1, .int v2, .int v3, .int v4, .int q.1, .int q.2.1, .int q.2.2.1, Value.null] [] q.2.2.2 (oI r) h9)) (Q := (fun y : (Int32 × Hp) => y = (r, h9))) (fun q x Hq hm => ?_) H rfl
  exact bX7_addStory_9 Hq (fun s hs => by subst hs; exact hm) (fun z hz => by subst hz; exact hm)
noncomputable def MX7_addStory (h : Hp) (v0 : Nat) (v1 : Nat) (v2 : Int32) (v3 : Int32) (v4 : Int32) : Option (Int32 × Hp) :=
  MX7_addStory_9 h v0 v1 v2 v3 v4 (0 : Int32) (0 : Int32) (0 : Int32)
set_option maxRecDepth 100000 in
set_option maxHeartbeats 8000000 in
theorem eX7_addStory {d : Nat} {h : Hp} {v0 : Nat} {v1 : Nat} {v2 : Int32} {v3 : Int32} {v4 : Int32} {r : Int32} {h9 : Hp} (H : MX7_addStory h v0 v1 v2 v3 v4 = some (r, h9)) : J (d + 2) YX7_addStory 0 [.ref v0, .ref v1, .int v2, .int v3, .int v4, Value.null, Value.null, Value.null, Value.null] [] h (oI r) h9 := by
  unfold MX7_addStory at H
  refine J_iconst (0 : Int32) dX7_addStory_0 kc_0 ?_
  refine J_istore dX7_addStory_1 (by decide) (ls' := [.ref v0, .ref v1, .int v2, .int v3, .int v4, .int (0 : Int32), Value.null, Value.null, Value.null]) rfl ?_
  refine J_iconst (0 : Int32) dX7_addStory_3 kc_0 ?_
  refine J_istore dX7_addStory_4 (by decide) (ls' := [.ref v0, .ref v1, .int v2, .int v3, .int v4, .int (0 : Int32), .int (0 : Int32), Value.null, Value.null]) rfl ?_
  refine J_iconst (0 : Int32) dX7_addStory_6 kc_0 ?_
  refine J_istore dX7_addStory_7 (by decide) (ls' := [.ref v0, .ref v1, .int v2, .int v3, .int v4, .int (0 : Int32), .int (0 : Int32), .int (0 : Int32), Value.null]) rfl ?_
  exact J_dr (kX7_addStory_9 H ) ⟨rfl, ⟨rfl, ⟨rfl, ⟨rfl, ⟨rfl, ⟨rfl, ⟨rfl, ⟨rfl, trivial⟩⟩⟩⟩⟩⟩⟩⟩
theorem okX7_addStory {d : Nat} {h : Hp} {v0 : Nat} {v1 : Nat} {v2 : Int32} {v3 : Int32} {v4 : Int32} {r : Int32} {h9 : Hp} (H : MX7_addStory h v0 v1 v2 v3 v4 = some (r, h9)) : CT (d + 2) YX7_addStory [.ref v0, .ref v1, .int v2, .int v3, .int v4] h (oI r) h9 := CT_of (by decide +kernel) (Nat.le_of_ble_eq_true rfl) (eX7_addStory H)
noncomputable def MX11_story (h : Hp) (v0 : Nat) (v1 : Int32) (v2 : Int32) : Option ((Int32 ⊕ Nat) × Hp) :=
  gg (β := ((Int32 ⊕ Nat) × Hp)) (kd h v0 = 10) <|
  b2 (α := Int32) (β := Hp) (γ := ((Int32 ⊕ Nat) × Hp)) (MX11_useTape h v0) fun (t4 : Int32) (h3 : Hp) =>
  Option.bind (α := Int32) (β := ((Int32 ⊕ Nat) × Hp)) (MX11_isFace h3 v1) fun (t6 : Int32) =>
  if t6 = 0 then
    some (.inr 1, bmp h3 1 6)
  else
    Option.bind (α := Int32) (β := ((Int32 ⊕ Nat) × Hp)) (MX11_isMinute h3 v2) fun (t9 : Int32) =>
    if t9 = 0 then
      some (.inr 2, bmp h3 1 6)
    else
      gg (β := ((Int32 ⊕ Nat) × Hp)) (kd h3 v0 = 10) <|
      Option.bind (α := Int32) (β := ((Int32 ⊕ Nat) × Hp)) (MX1_firstWrong h3 (gP h3 v0 0) t4 (5 : Int32) (24 : Int32) (0 : Int32)) fun (t13 : Int32) =>
      lt (α := Hp) (β := Option ((Int32 ⊕ Nat) × Hp)) (sI h3 v0 2 t13) fun (h14 : Hp) =>
      if (gI h14 v0 2) = (-1 : Int32) then
        gg (β := ((Int32 ⊕ Nat) × Hp)) (kd h3 (gP h3 v0 5) = 6) <|
        if (gI h14 (gP h3 v0 5) 7) < (20 : Int32) then
          b2 (α := Int32) (β := Hp) (γ := ((Int32 ⊕ Nat) × Hp)) (MX7_addStory h14 (gP h3 v0 5) (gP h3 v0 0) t4 v1 v2) fun (t24 : Int32) (h23 : Hp) =>
          some (.inl t24, h23)
        else
          some (.inr 3, bmp h14 1 6)
      else
        some (.inr 2, bmp h14 1 6)
set_option maxRecDepth 100000 in
set_option maxHeartbeats 8000000 in
theorem eX11_story {d : Nat} {h : Hp} {v0 : Nat} {v1 : Int32} {v2 : Int32} {r : Int32 ⊕ Nat} {h9 : Hp} (H : MX11_story h v0 v1 v2 = some (r, h9)) : J (d + 3) YX11_story 0 [.ref v0, .int v1, .int v2, Value.null] [] h (oT r) h9 := by
  unfold MX11_story at H
  refine J_aload_n 0 dX11_story_0 rfl rfl ?_
  obtain ⟨g2, H⟩ := gd H
  obtain ⟨t4, h3, e1, H⟩ := b2_el H
  refine J_cV (as := []) 10 YX11_useTape 0 dX11_story_1 moX11_useTape mvX11_useTape mlX11_94 g2 rfl rfl (okX11_useTape (d := d + 2) e1) rfl rfl [] rfl rfl (st2 := [.int t4]) rfl ?_
  refine J_istore_n 3 dX11_story_4 rfl (by decide) (ls' := [.ref v0, .int v1, .int v2, .int t4]) rfl ?_
  refine J_iload_n 1 dX11_story_5 rfl rfl ?_
  obtain ⟨t6, e5, H⟩ := bd H
  refine J_cS (as := [.int v1]) YX11_isFace 1 dX11_story_6 moX11_isFace msX11_isFace mlX11_77 (okX11_isFace (d := d + 2) e5) rfl rfl [] rfl rfl (st2 := [.int t6]) rfl ?_
  refine J_if_ne 20 dX11_story_9 rfl (fun q7 => ?_) (fun q7 => ?_)
  · replace H := br0 q7 H
    refine J_iload_n 2 dX11_story_20 rfl rfl ?_
    obtain ⟨t9, e8, H⟩ := bd H
    refine J_cS (as := [.int v2]) YX11_isMinute 1 dX11_story_21 moX11_isMinute msX11_isMinute mlX11_98 (okX11_isMinute (d := d + 2) e8) rfl rfl [] rfl rfl (st2 := [.int t9]) rfl ?_
    refine J_if_ne 35 dX11_story_24 rfl (fun q10 => ?_) (fun q10 => ?_)
    · replace H := br0 q10 H
      refine J_aload_n 0 dX11_story_35 rfl rfl ?_
      refine J_aload_n 0 dX11_story_36 rfl rfl ?_
      obtain ⟨g11, H⟩ := gd H
      refine J_gP 10 0 dX11_story_37 g11 flX11_9 rfl rfl ?_
      refine J_iload_n 3 dX11_story_40 rfl rfl ?_
      refine J_iconst (5 : Int32) dX11_story_41 kc_5 ?_
      refine J_bipush (24 : Int32) dX11_story_42 kb_24 ?_
      refine J_iconst (0 : Int32) dX11_story_44 kc_0 ?_
      obtain ⟨t13, e12, H⟩ := bd H
      refine J_cS (as := [.ref (gP h3 v0 0), .int t4, .int (5 : Int32), .int (24 : Int32), .int (0 : Int32)]) YX1_firstWrong 5 dX11_story_45 moX1_firstWrong msX1_firstWrong mlX11_101 (okX1_firstWrong (d := d + 1) e12) rfl rfl [.ref v0] rfl rfl (st2 := [.int t13, .ref v0]) rfl ?_
      obtain ⟨h14, e15, H⟩ := lt_el H
      refine J_pI 10 2 dX11_story_48 g11 flX11_17 rfl rfl e15 ?_
      have c16 := ekI e15
      have c17 := elI e15
      have c18 := epI e15
      refine J_aload_n 0 dX11_story_51 rfl rfl ?_
      refine J_getI 10 2 dX11_story_52 (kq c16 g11) flX11_17 rfl ?_
      refine J_iconst (-1 : Int32) dX11_story_55 kc_m1 ?_
      refine J_icmp_eq 67 dX11_story_56 rfl (fun q19 => ?_) (fun q19 => ?_)
      · replace H := br1 q19 H
        refine J_aload_n 0 dX11_story_67 rfl rfl ?_
        refine J_gP 10 5 dX11_story_68 (kq c16 g11) flX11_39 rfl (congrFun (congrFun c18 v0) 5) ?_
        obtain ⟨g20, H⟩ := gd H
        refine J_getI 6 7 dX11_story_71 (kq c16 g20) flX11_107 rfl ?_
        refine J_bipush (20 : Int32) dX11_story_74 kb_20 ?_
        refine J_icmp_lt 87 dX11_story_76 rfl (fun q21 => ?_) (fun q21 => ?_)
        · replace H := br1 q21 H
          refine J_aload_n 0 dX11_story_87 rfl rfl ?_
          refine J_gP 10 5 dX11_story_88 (kq c16 g11) flX11_39 rfl (congrFun (congrFun c18 v0) 5) ?_
          refine J_aload_n 0 dX11_story_91 rfl rfl ?_
          refine J_gP 10 0 dX11_story_92 (kq c16 g11) flX11_9 rfl (congrFun (congrFun c18 v0) 0) ?_
          refine J_iload_n 3 dX11_story_95 rfl rfl ?_
          refine J_iload_n 1 dX11_story_96 rfl rfl ?_
          refine J_iload_n 2 dX11_story_97 rfl rfl ?_
          obtain ⟨t24, h23, e22, H⟩ := b2_el H
          refine J_cV (as := [.ref (gP h3 v0 0), .int t4, .int v1, .int v2]) 6 YX7_addStory 4 dX11_story_98 moX7_addStory mvX7_addStory mlX11_113 (kq c16 g20) rfl rfl (okX7_addStory (d := d) e22) rfl rfl [] rfl rfl (st2 := [.int t24]) rfl ?_
          cases H
          exact J_iretI dX11_story_101 rfl
        · replace H := br0 q21 H
          cases H
          exact J_throw 3 ["java/lang/RuntimeException", "java/lang/Exception"] dX11_story_79 dX11_story_82 dX11_story_83 dX11_story_86 th_112 clX11_110 (Nat.le_of_ble_eq_true rfl)
      · replace H := br0 q19 H
        cases H
        exact J_throw 2 ["java/lang/RuntimeException", "java/lang/Exception"] dX11_story_59 dX11_story_62 dX11_story_63 dX11_story_66 th_89 clX11_87 (Nat.le_of_ble_eq_true rfl)
    · replace H := br1 q10 H
      cases H
      exact J_throw 2 ["java/lang/RuntimeException", "java/lang/Exception"] dX11_story_27 dX11_story_30 dX11_story_31 dX11_story_34 th_89 clX11_87 (Nat.le_of_ble_eq_true rfl)
  · replace H := br1 q7 H
    cases H
    exact J_throw 1 ["java/lang/RuntimeException", "java/lang/Exception"] dX11_story_12 dX11_story_15 dX11_story_16 dX11_story_19 th_86 clX11_84 (Nat.le_of_ble_eq_true rfl)
theorem okX11_story {d : Nat} {h : Hp} {v0 : Nat} {v1 : Int32} {v2 : Int32} {r : Int32 ⊕ Nat} {h9 : Hp} (H : MX11_story h v0 v1 v2 = some (r, h9)) : CT (d + 3) YX11_story [.ref v0, .int v1, .int v2] h (oT r) h9 := CT_of (by decide +kernel) (Nat.le_of_ble_eq_true rfl) (eX11_story H)
noncomputable def MX7_addStyle (h : Hp) (v0 : Nat) (v1 : Nat) (v2 : Int32) : Option Hp :=
  gg (β := Hp) (kd h v0 = 6) <|
  b2 (α := Nat) (β := Hp) (γ := Hp) (MX7_ownStyle h v0 (gI h v0 3)) fun (t4 : Nat) (h3 : Hp) =>
  gg (β := Hp) (kd h3 t4 = 8) <|
  Option.bind (α := Hp) (β := Hp) (MX9_takeAll h3 t4 v1) fun (h7 : Hp) =>
  gg (β := Hp) (kd h7 t4 = 8) <|
  lt (α := Hp) (β := Option Hp) (sI h7 t4 0 v2) fun (h9 : Hp) =>
  gg (β := Hp) (kd h7 v0 = 6) <|
  lt (α := Hp) (β := Option Hp) (sI h9 v0 3 ((gI h9 v0 3) + (1 : Int32))) fun (h15 : Hp) =>
  some h15
set_option maxRecDepth 100000 in
set_option maxHeartbeats 8000000 in
theorem eX7_addStyle {d : Nat} {h : Hp} {v0 : Nat} {v1 : Nat} {v2 : Int32} {h9 : Hp} (H : MX7_addStyle h v0 v1 v2 = some h9) : J (d + 2) YX7_addStyle 0 [.ref v0, .ref v1, .int v2, Value.null] [] h oV h9 := by
  unfold MX7_addStyle at H
  refine J_aload_n 0 dX7_addStyle_0 rfl rfl ?_
  refine J_aload_n 0 dX7_addStyle_1 rfl rfl ?_
  obtain ⟨g1, H⟩ := gd H
  refine J_getI 6 3 dX7_addStyle_2 g1 flX7_25 rfl ?_
  obtain ⟨t4, h3, e2, H⟩ := b2_el H
  refine J_cV (as := [.int (gI h v0 3)]) 6 YX7_ownStyle 1 dX7_addStyle_5 moX7_ownStyle mvX7_ownStyle mlX7_98 g1 rfl rfl (okX7_ownStyle (d := d) e2) rfl rfl [] rfl rfl (st2 := [.ref t4]) rfl ?_
  refine J_astore_n 3 dX7_addStyle_8 rfl (by decide) (ls' := [.ref v0, .ref v1, .int v2, .ref t4]) rfl ?_
  refine J_aload_n 3 dX7_addStyle_9 rfl rfl ?_
  refine J_aload_n 1 dX7_addStyle_10 rfl rfl ?_
  obtain ⟨g6, H⟩ := gd H
  obtain ⟨h7, e5, H⟩ := bd H
  refine J_cV (as := [.ref v1]) 8 YX9_takeAll 1 dX7_addStyle_11 moX9_takeAll mvX9_takeAll mlX7_102 g6 rfl rfl (okX9_takeAll (d := d + 1) e5) rfl rfl [] rfl rfl (st2 := []) rfl ?_
  refine J_aload_n 3 dX7_addStyle_14 rfl rfl ?_
  refine J_iload_n 2 dX7_addStyle_15 rfl rfl ?_
  obtain ⟨g8, H⟩ := gd H
  obtain ⟨h9, e10, H⟩ := lt_el H
  refine J_pI 8 0 dX7_addStyle_16 g8 flX7_141 rfl rfl e10 ?_
  have c11 := ekI e10
  have c12 := elI e10
  have c13 := epI e10
  refine J_aload_n 0 dX7_addStyle_19 rfl rfl ?_
  refine J_dup dX7_addStyle_20 rfl ?_
  obtain ⟨g14, H⟩ := gd H
  refine J_getI 6 3 dX7_addStyle_21 (kq c11 g14) flX7_25 rfl ?_
  refine J_iconst (1 : Int32) dX7_addStyle_24 kc_1 ?_
  refine J_iadd dX7_addStyle_25 ?_
  obtain ⟨h15, e16, H⟩ := lt_el H
  refine J_pI 6 3 dX7_addStyle_26 (kq c11 g14) flX7_25 rfl rfl e16 ?_
  have c17 := (ekI e16).trans c11
  have c18 := (elI e16).trans c12
  have c19 := (epI e16).trans c13
  cases H
  exact J_ret dX7_addStyle_29 rfl
theorem okX7_addStyle {d : Nat} {h : Hp} {v0 : Nat} {v1 : Nat} {v2 : Int32} {h9 : Hp} (H : MX7_addStyle h v0 v1 v2 = some h9) : CT (d + 2) YX7_addStyle [.ref v0, .ref v1, .int v2] h oV h9 := CT_of (by decide +kernel) (Nat.le_of_ble_eq_true rfl) (eX7_addStyle H)
noncomputable def MX10_failHere (h : Hp) (v0 : Nat) : Option (Int32 × Hp) :=
  gg (β := (Int32 × Hp)) (kd h v0 = 9) <|
  if (gI h v0 3) = (-1 : Int32) then
    gg (β := (Int32 × Hp)) (kd h (gP h v0 4) = 20) <|
    gg (β := (Int32 × Hp)) (inB (gI h v0 2) (ln h (gP h v0 4)) = true) <|
    lt (α := Hp) (β := Option (Int32 × Hp)) (sI h v0 3 (gI h (gP h v0 4) (gI h v0 2).toNatClampNeg)) fun (h5 : Hp) =>
    some ((0 : Int32), h5)
  else
    some ((0 : Int32), h)
set_option maxRecDepth 100000 in
set_option maxHeartbeats 8000000 in
theorem eX10_failHere {d : Nat} {h : Hp} {v0 : Nat} {r : Int32} {h9 : Hp} (H : MX10_failHere h v0 = some (r, h9)) : J (d) YX10_failHere 0 [.ref v0] [] h (oI r) h9 := by
  unfold MX10_failHere at H
  refine J_aload_n 0 dX10_failHere_0 rfl rfl ?_
  obtain ⟨g1, H⟩ := gd H
  refine J_getI 9 3 dX10_failHere_1 g1 flX10_18 rfl ?_
  refine J_iconst (-1 : Int32) dX10_failHere_4 kc_m1 ?_
  refine J_icmp_ne 21 dX10_failHere_5 rfl (fun q2 => ?_) (fun q2 => ?_)
  · replace H := br0 q2 H
    refine J_iconst (0 : Int32) dX10_failHere_21 kc_0 ?_
    cases H
    exact J_rZ dX10_failHere_22 rfl rfl
  · replace H := br1 q2 H
    refine J_aload_n 0 dX10_failHere_8 rfl rfl ?_
    refine J_aload_n 0 dX10_failHere_9 rfl rfl ?_
    refine J_gP 9 4 dX10_failHere_10 g1 flX10_21 rfl rfl ?_
    refine J_aload_n 0 dX10_failHere_13 rfl rfl ?_
    refine J_getI 9 2 dX10_failHere_14 g1 flX10_15 rfl ?_
    obtain ⟨g3, H⟩ := gd H
    obtain ⟨g4, H⟩ := gd H
    refine J_iald dX10_failHere_17 g3 (inB_ok g4) ?_
    obtain ⟨h5, e6, H⟩ := lt_el H
    refine J_pI 9 3 dX10_failHere_18 g1 flX10_18 rfl rfl e6 ?_
    have c7 := ekI e6
    have c8 := elI e6
    have c9 := epI e6
    refine J_iconst (0 : Int32) dX10_failHere_21 kc_0 ?_
    cases H
    exact J_rZ dX10_failHere_22 rfl rfl
theorem okX10_failHere {d : Nat} {h : Hp} {v0 : Nat} {r : Int32} {h9 : Hp} (H : MX10_failHere h v0 = some (r, h9)) : CT (d) YX10_failHere [.ref v0] h (oI r) h9 := CT_of (by decide +kernel) (Nat.le_of_ble_eq_true rfl) (eX10_failHere H)
noncomputable def MX10_takeSign (h : Hp) (v0 : Nat) (v1 : Int32) : Option (Int32 × Hp) :=
  gg (β := (Int32 × Hp)) (kd h v0 = 9) <|
  gg (β := (Int32 × Hp)) (kd h (gP h v0 4) = 20) <|
  gg (β := (Int32 × Hp)) (inB (gI h v0 2) (ln h (gP h v0 4)) = true) <|
  lt (α := Hp) (β := Option (Int32 × Hp)) (sI h v0 2 (gI h (gP h v0 4) (gI h v0 2).toNatClampNeg)) fun (h4 : Hp) =>
  if (gI h4 v0 1) ≤ (gI h4 v0 2) then
    some ((0 : Int32), h4)
  else
    gg (β := (Int32 × Hp)) (kd h (gP h v0 0) = 21) <|
    gg (β := (Int32 × Hp)) (inB (gI h4 v0 2) (ln h (gP h v0 0)) = true) <|
    if (gI h4 (gP h v0 0) (gI h4 v0 2).toNatClampNeg) = v1 then
      lt (α := Hp) (β := Option (Int32 × Hp)) (sI h4 v0 2 ((gI h4 v0 2) + (1 : Int32))) fun (h13 : Hp) =>
      some ((1 : Int32), h13)
    else
      some ((0 : Int32), h4)
set_option maxRecDepth 100000 in
set_option maxHeartbeats 8000000 in
theorem eX10_takeSign {d : Nat} {h : Hp} {v0 : Nat} {v1 : Int32} {r : Int32} {h9 : Hp} (H : MX10_takeSign h v0 v1 = some (r, h9)) : J (d) YX10_takeSign 0 [.ref v0, .int v1] [] h (oI r) h9 := by
  unfold MX10_takeSign at H
  refine J_aload_n 0 dX10_takeSign_0 rfl rfl ?_
  refine J_aload_n 0 dX10_takeSign_1 rfl rfl ?_
  obtain ⟨g1, H⟩ := gd H
  refine J_gP 9 4 dX10_takeSign_2 g1 flX10_21 rfl rfl ?_
  refine J_aload_n 0 dX10_takeSign_5 rfl rfl ?_
  refine J_getI 9 2 dX10_takeSign_6 g1 flX10_15 rfl ?_
  obtain ⟨g2, H⟩ := gd H
  obtain ⟨g3, H⟩ := gd H
  refine J_iald dX10_takeSign_9 g2 (inB_ok g3) ?_
  obtain ⟨h4, e5, H⟩ := lt_el H
  refine J_pI 9 2 dX10_takeSign_10 g1 flX10_15 rfl rfl e5 ?_
  have c6 := ekI e5
  have c7 := elI e5
  have c8 := epI e5
  refine J_aload_n 0 dX10_takeSign_13 rfl rfl ?_
  refine J_getI 9 2 dX10_takeSign_14 (kq c6 g1) flX10_15 rfl ?_
  refine J_aload_n 0 dX10_takeSign_17 rfl rfl ?_
  refine J_getI 9 1 dX10_takeSign_18 (kq c6 g1) flX10_9 rfl ?_
  refine J_icmp_ge 37 dX10_takeSign_21 rfl (fun q9 => ?_) (fun q9 => ?_)
  · replace H := br1 q9 H
    refine J_iconst (0 : Int32) dX10_takeSign_37 kc_0 ?_
    cases H
    exact J_rZ dX10_takeSign_38 rfl rfl
  · replace H := br0 q9 H
    refine J_aload_n 0 dX10_takeSign_24 rfl rfl ?_
    refine J_gP 9 0 dX10_takeSign_25 (kq c6 g1) flX10_32 rfl (congrFun (congrFun c8 v0) 0) ?_
    refine J_aload_n 0 dX10_takeSign_28 rfl rfl ?_
    refine J_getI 9 2 dX10_takeSign_29 (kq c6 g1) flX10_15 rfl ?_
    obtain ⟨g10, H⟩ := gd H
    obtain ⟨g11, H⟩ := gd H
    refine J_bald dX10_takeSign_32 (kq c6 g10) (lq c7 g11) ?_
    refine J_iload_n 1 dX10_takeSign_33 rfl rfl ?_
    refine J_icmp_eq 39 dX10_takeSign_34 rfl (fun q12 => ?_) (fun q12 => ?_)
    · replace H := br1 q12 H
      refine J_aload_n 0 dX10_takeSign_39 rfl rfl ?_
      refine J_dup dX10_takeSign_40 rfl ?_
      refine J_getI 9 2 dX10_takeSign_41 (kq c6 g1) flX10_15 rfl ?_
      refine J_iconst (1 : Int32) dX10_takeSign_44 kc_1 ?_
      refine J_iadd dX10_takeSign_45 ?_
      obtain ⟨h13, e14, H⟩ := lt_el H
      refine J_pI 9 2 dX10_takeSign_46 (kq c6 g1) flX10_15 rfl rfl e14 ?_
      have c15 := (ekI e14).trans c6
      have c16 := (elI e14).trans c7
      have c17 := (epI e14).trans c8
      refine J_iconst (1 : Int32) dX10_takeSign_49 kc_1 ?_
      cases H
      exact J_rZ dX10_takeSign_50 rfl rfl
    · replace H := br0 q12 H
      refine J_iconst (0 : Int32) dX10_takeSign_37 kc_0 ?_
      cases H
      exact J_rZ dX10_takeSign_38 rfl rfl
theorem okX10_takeSign {d : Nat} {h : Hp} {v0 : Nat} {v1 : Int32} {r : Int32} {h9 : Hp} (H : MX10_takeSign h v0 v1 = some (r, h9)) : CT (d) YX10_takeSign [.ref v0, .int v1] h (oI r) h9 := CT_of (by decide +kernel) (Nat.le_of_ble_eq_true rfl) (eX10_takeSign H)
noncomputable def MX10_anotherFollows (h : Hp) (v0 : Nat) : Option (Int32 × Hp) :=
  gg (β := (Int32 × Hp)) (kd h v0 = 9) <|
  gg (β := (Int32 × Hp)) (kd h (gP h v0 4) = 20) <|
  gg (β := (Int32 × Hp)) (inB (gI h v0 2) (ln h (gP h v0 4)) = true) <|
  if (gI h (gP h v0 4) (gI h v0 2).toNatClampNeg) < (gI h v0 1) then
    b2 (α := Int32) (β := Hp) (γ := (Int32 × Hp)) (MX10_takeSign h v0 (59 : Int32)) fun (t7 : Int32) (h6 : Hp) =>
    if t7 = 0 then
      gg (β := (Int32 × Hp)) (kd h6 v0 = 9) <|
      b2 (α := Int32) (β := Hp) (γ := (Int32 × Hp)) (MX10_failHere h6 v0) fun (t19 : Int32) (h18 : Hp) =>
      gg (β := (Int32 × Hp)) (zOk t19 = true) <|
      some (t19, h18)
    else
      gg (β := (Int32 × Hp)) (kd h6 v0 = 9) <|
      gg (β := (Int32 × Hp)) (kd h6 (gP h6 v0 5) = 8) <|
      if (gI h6 (gP h6 v0 5) 1) < (12 : Int32) then
        some ((1 : Int32), h6)
      else
        b2 (α := Int32) (β := Hp) (γ := (Int32 × Hp)) (MX10_failHere h6 v0) fun (t14 : Int32) (h13 : Hp) =>
        if t14 = 0 then
          some ((0 : Int32), h13)
        else
          some ((1 : Int32), h13)
  else
    some ((0 : Int32), h)
set_option maxRecDepth 100000 in
set_option maxHeartbeats 8000000 in
theorem eX10_anotherFollows {d : Nat} {h : Hp} {v0 : Nat} {r : Int32} {h9 : Hp} (H : MX10_anotherFollows h v0 = some (r, h9)) : J (d + 1) YX10_anotherFollows 0 [.ref v0] [] h (oI r) h9 := by
  unfold MX10_anotherFollows at H
  refine J_aload_n 0 dX10_anotherFollows_0 rfl rfl ?_
  obtain ⟨g1, H⟩ := gd H
  refine J_gP 9 4 dX10_anotherFollows_1 g1 flX10_21 rfl rfl ?_
  refine J_aload_n 0 dX10_anotherFollows_4 rfl rfl ?_
  refine J_getI 9 2 dX10_anotherFollows_5 g1 flX10_15 rfl ?_
  obtain ⟨g2, H⟩ := gd H
  obtain ⟨g3, H⟩ := gd H
  refine J_iald dX10_anotherFollows_8 g2 (inB_ok g3) ?_
  refine J_aload_n 0 dX10_anotherFollows_9 rfl rfl ?_
  refine J_getI 9 1 dX10_anotherFollows_10 g1 flX10_9 rfl ?_
  refine J_icmp_lt 18 dX10_anotherFollows_13 rfl (fun q4 => ?_) (fun q4 => ?_)
  · replace H := br1 q4 H
    refine J_aload_n 0 dX10_anotherFollows_18 rfl rfl ?_
    refine J_bipush (59 : Int32) dX10_anotherFollows_19 kb_59 ?_
    obtain ⟨t7, h6, e5, H⟩ := b2_el H
    refine J_cV (as := [.int (59 : Int32)]) 9 YX10_takeSign 1 dX10_anotherFollows_21 moX10_takeSign mvX10_takeSign mlX10_55 g1 rfl rfl (okX10_takeSign (d := d) e5) rfl rfl [] rfl rfl (st2 := [.int t7]) rfl ?_
    refine J_if_ne 32 dX10_anotherFollows_24 rfl (fun q8 => ?_) (fun q8 => ?_)
    · replace H := br0 q8 H
      refine J_aload_n 0 dX10_anotherFollows_32 rfl rfl ?_
      obtain ⟨g9, H⟩ := gd H
      refine J_gP 9 5 dX10_anotherFollows_33 g9 flX10_28 rfl rfl ?_
      obtain ⟨g10, H⟩ := gd H
      refine J_getI 8 1 dX10_anotherFollows_36 g10 flX10_36 rfl ?_
      refine J_bipush (12 : Int32) dX10_anotherFollows_39 kb_12 ?_
      refine J_icmp_lt 51 dX10_anotherFollows_41 rfl (fun q11 => ?_) (fun q11 => ?_)
      · replace H := br1 q11 H
        refine J_iconst (1 : Int32) dX10_anotherFollows_51 kc_1 ?_
        refine J_goto 56 dX10_anotherFollows_52 rfl ?_
        cases H
        exact J_rZ dX10_anotherFollows_56 rfl rfl
      · replace H := br0 q11 H
        refine J_aload_n 0 dX10_anotherFollows_44 rfl rfl ?_
        obtain ⟨t14, h13, e12, H⟩ := b2_el H
        refine J_cV (as := []) 9 YX10_failHere 0 dX10_anotherFollows_45 moX10_failHere mvX10_failHere mlX10_59 g9 rfl rfl (okX10_failHere (d := d) e12) rfl rfl [] rfl rfl (st2 := [.int t14]) rfl ?_
        refine J_if_eq 55 dX10_anotherFollows_48 rfl (fun q15 => ?_) (fun q15 => ?_)
        · replace H := br1 q15 H
          refine J_iconst (0 : Int32) dX10_anotherFollows_55 kc_0 ?_
          cases H
          exact J_rZ dX10_anotherFollows_56 rfl rfl
        · replace H := br0 q15 H
          refine J_iconst (1 : Int32) dX10_anotherFollows_51 kc_1 ?_
          refine J_goto 56 dX10_anotherFollows_52 rfl ?_
          cases H
          exact J_rZ dX10_anotherFollows_56 rfl rfl
    · replace H := br1 q8 H
      refine J_aload_n 0 dX10_anotherFollows_27 rfl rfl ?_
      obtain ⟨g17, H⟩ := gd H
      obtain ⟨t19, h18, e16, H⟩ := b2_el H
      refine J_cV (as := []) 9 YX10_failHere 0 dX10_anotherFollows_28 moX10_failHere mvX10_failHere mlX10_59 g17 rfl rfl (okX10_failHere (d := d) e16) rfl rfl [] rfl rfl (st2 := [.int t19]) rfl ?_
      obtain ⟨g20, H⟩ := gd H
      cases H
      exact J_rZ dX10_anotherFollows_31 rfl g20
  · replace H := br0 q4 H
    refine J_iconst (0 : Int32) dX10_anotherFollows_16 kc_0 ?_
    cases H
    exact J_rZ dX10_anotherFollows_17 rfl rfl
theorem okX10_anotherFollows {d : Nat} {h : Hp} {v0 : Nat} {r : Int32} {h9 : Hp} (H : MX10_anotherFollows h v0 = some (r, h9)) : CT (d + 1) YX10_anotherFollows [.ref v0] h (oI r) h9 := CT_of (by decide +kernel) (Nat.le_of_ble_eq_true rfl) (eX10_anotherFollows H)
noncomputable def MX10_findInk_52 (h : Hp) (v0 : Nat) (v1 : Int32) (s0 : Nat) (s1 : Int32) (s2 : Int32) : Option ((Int32 × Hp) ⊕ Hp) :=
  gg (β := ((Int32 × Hp) ⊕ Hp)) (kd h s0 = 20) <|
  gg (β := ((Int32 × Hp) ⊕ Hp)) (inB s1 (ln h s0) = true) <|
  lt (α := Hp) (β := Option ((Int32 × Hp) ⊕ Hp)) (sI h s0 s1.toNatClampNeg s2) fun (h16 : Hp) =>
  some (.inl ((v1 + (-1 : Int32)), h16))
set_option maxRecDepth 100000 in
set_option maxHeartbeats 8000000 in
theorem kX10_findInk_52 {d : Nat} {h : Hp} {v0 : Nat} {v1 : Int32} {s0 : Nat} {s1 : Int32} {s2 : Int32} {h9 : Hp} {x : ((Int32 × Hp) ⊕ Hp)} (H : MX10_findInk_52 h v0 v1 s0 s1 s2 = some x) (hb0 : ∀ s : Int32 × Hp, x = .inl s → J (d) YX10_findInk 20 [.ref v0, .int s.1] [] s.2 oV h9) (hx : ∀ z : Hp, x = .inr (z) → z = h9) : J (d) YX10_findInk 52 [.ref v0, .int v1] [.int s2, .int s1, .ref s0] h oV h9 := by
  unfold MX10_findInk_52 at H
  obtain ⟨g14, H⟩ := gd H
  obtain ⟨g15, H⟩ := gd H
  obtain ⟨h16, e17, H⟩ := lt_el H
  refine J_sI dX10_findInk_52 g14 (inB_ok g15) e17 ?_
  have c18 := ekI e17
  have c19 := elI e17
  have c20 := epI e17
  refine J_iinc (v1 + (-1 : Int32)) dX10_findInk_53 rfl (congrArg (HAdd.hAdd v1) kc_m1) (by decide) (ls' := [.ref v0, .int (v1 + (-1 : Int32))]) rfl ?_
  refine J_goto 20 dX10_findInk_56 rfl ?_
  cases H
  exact J_dr (hb0 _ rfl) ⟨rfl, ⟨rfl, trivial⟩⟩
noncomputable def BX10_findInk_20 (h : Hp) (v0 : Nat) (v1 : Int32) : Option ((Int32 × Hp) ⊕ Hp) :=
  if v1 < 0 then
    some (.inr (h))
  else
    gg (β := ((Int32 × Hp) ⊕ Hp)) (kd h v0 = 9) <|
    gg (β := ((Int32 × Hp) ⊕ Hp)) (kd h (gP h v0 0) = 21) <|
    gg (β := ((Int32 × Hp) ⊕ Hp)) (inB v1 (ln h (gP h v0 0)) = true) <|
    if (gI h (gP h v0 0) v1.toNatClampNeg) = (32 : Int32) then
      gg (β := ((Int32 × Hp) ⊕ Hp)) (kd h (gP h v0 4) = 20) <|
      gg (β := ((Int32 × Hp) ⊕ Hp)) (inB (v1 + (1 : Int32)) (ln h (gP h v0 4)) = true) <|
      MX10_findInk_52 h v0 v1 (gP h v0 4) v1 (gI h (gP h v0 4) (v1 + (1 : Int32)).toNatClampNeg)
    else
      MX10_findInk_52 h v0 v1 (gP h v0 4) v1 v1
set_option maxRecDepth 100000 in
set_option maxHeartbeats 8000000 in
theorem bX10_findInk_20 {d : Nat} {h : Hp} {v0 : Nat} {v1 : Int32} {h9 : Hp} {x : ((Int32 × Hp) ⊕ Hp)} (H : BX10_findInk_20 h v0 v1 = some x) (hb0 : ∀ s : Int32 × Hp, x = .inl s → J (d) YX10_findInk 20 [.ref v0, .int s.1] [] s.2 oV h9) (hx : ∀ z : Hp, x = .inr (z) → z = h9) : J (d) YX10_findInk 20 [.ref v0, .int v1] [] h oV h9 := by
  unfold BX10_findInk_20 at H
  refine J_iload_n 1 dX10_findInk_20 rfl rfl ?_
  refine J_if_lt 59 dX10_findInk_21 rfl (fun q9 => ?_) (fun q9 => ?_)
  · replace H := br1 q9 H
    cases H
    cases hx _ rfl
    exact J_ret dX10_findInk_59 rfl
  · replace H := br0 q9 H
    refine J_aload_n 0 dX10_findInk_24 rfl rfl ?_
    obtain ⟨g10, H⟩ := gd H
    refine J_gP 9 4 dX10_findInk_25 g10 flX10_21 rfl rfl ?_
    refine J_iload_n 1 dX10_findInk_28 rfl rfl ?_
    refine J_aload_n 0 dX10_findInk_29 rfl rfl ?_
    refine J_gP 9 0 dX10_findInk_30 g10 flX10_32 rfl rfl ?_
    refine J_iload_n 1 dX10_findInk_33 rfl rfl ?_
    obtain ⟨g11, H⟩ := gd H
    obtain ⟨g12, H⟩ := gd H
    refine J_bald dX10_findInk_34 g11 (inB_ok g12) ?_
    refine J_bipush (32 : Int32) dX10_findInk_35 kb_32 ?_
    refine J_icmp_ne 51 dX10_findInk_37 rfl (fun q13 => ?_) (fun q13 => ?_)
    · replace H := br0 q13 H
      refine J_iload_n 1 dX10_findInk_51 rfl rfl ?_
      exact J_dr (kX10_findInk_52 H hb0 hx) ⟨rfl, ⟨rfl, trivial⟩⟩
    · replace H := br1 q13 H
      refine J_aload_n 0 dX10_findInk_40 rfl rfl ?_
      refine J_gP 9 4 dX10_findInk_41 g10 flX10_21 rfl rfl ?_
      refine J_iload_n 1 dX10_findInk_44 rfl rfl ?_
      refine J_iconst (1 : Int32) dX10_findInk_45 kc_1 ?_
      refine J_iadd dX10_findInk_46 ?_
      obtain ⟨g21, H⟩ := gd H
      obtain ⟨g22, H⟩ := gd H
      refine J_iald dX10_findInk_47 g21 (inB_ok g22) ?_
      refine J_goto 52 dX10_findInk_48 rfl ?_
      exact J_dr (kX10_findInk_52 H hb0 hx) ⟨rfl, ⟨rfl, trivial⟩⟩
noncomputable def MX10_findInk_20 (h : Hp) (v0 : Nat) (v1 : Int32) : Option Hp := it (fun q : Int32 × Hp => BX10_findInk_20 q.2 v0 q.1) (v1, h)
set_option maxRecDepth 100000 in
set_option maxHeartbeats 8000000 in
theorem kX10_findInk_20 {d : Nat} {h : Hp} {v0 : Nat} {v1 : Int32} {h9 : Hp} (H : MX10_findInk_20 h v0 v1 = some h9) : J (d) YX10_findInk 20 [.ref v0, .int v1] [] h oV h9 := by
  unfold MX10_findInk_20 at H
  refine it_J (G := (fun q : Int32 × Hp => J (d) YX10_findInk 20 [.ref v0, .int q.1] [] q.2 oV h9)) (Q := (fun y : Hp => y = h9)) (fun q x Hq hm => ?_) H rfl
  exact bX10_findInk_20 Hq (fun s hs => by subst hs; exact hm) (fun z hz => by subst hz; exact hm)
noncomputable def MX10_findInk (h : Hp) (v0 : Nat) : Option Hp :=
  gg (β := Hp) (kd h v0 = 9) <|
  gg (β := Hp) (kd h (gP h v0 4) = 20) <|
  gg (β := Hp) (inB (gI h v0 1) (ln h (gP h v0 4)) = true) <|
  lt (α := Hp) (β := Option Hp) (sI h (gP h v0 4) (gI h v0 1).toNatClampNeg (gI h v0 1)) fun (h4 : Hp) =>
  MX10_findInk_20 h4 v0 ((gI h4 v0 1) - (1 : Int32))
set_option maxRecDepth 100000 in
set_option maxHeartbeats 8000000 in
theorem eX10_findInk {d : Nat} {h : Hp} {v0 : Nat} {h9 : Hp} (H : MX10_findInk h v0 = some h9) : J (d) YX10_findInk 0 [.ref v0, Value.null] [] h oV h9 := by
  unfold MX10_findInk at H
  refine J_aload_n 0 dX10_findInk_0 rfl rfl ?_
  obtain ⟨g1, H⟩ := gd H
  refine J_gP 9 4 dX10_findInk_1 g1 flX10_21 rfl rfl ?_
  refine J_aload_n 0 dX10_findInk_4 rfl rfl ?_
  refine J_getI 9 1 dX10_findInk_5 g1 flX10_9 rfl ?_
  refine J_aload_n 0 dX10_findInk_8 rfl rfl ?_
  refine J_getI 9 1 dX10_findInk_9 g1 flX10_9 rfl ?_
  obtain ⟨g2, H⟩ := gd H
  obtain ⟨g3, H⟩ := gd H
  obtain ⟨h4, e5, H⟩ := lt_el H
  refine J_sI dX10_findInk_12 g2 (inB_ok g3) e5 ?_
  have c6 := ekI e5
  have c7 := elI e5
  have c8 := epI e5
  refine J_aload_n 0 dX10_findInk_13 rfl rfl ?_
  refine J_getI 9 1 dX10_findInk_14 (kq c6 g1) flX10_9 rfl ?_
  refine J_iconst (1 : Int32) dX10_findInk_17 kc_1 ?_
  refine J_isub dX10_findInk_18 ?_
  refine J_istore_n 1 dX10_findInk_19 rfl (by decide) (ls' := [.ref v0, .int ((gI h4 v0 1) - (1 : Int32))]) rfl ?_
  exact J_dr (kX10_findInk_20 H ) ⟨rfl, ⟨rfl, trivial⟩⟩
theorem okX10_findInk {d : Nat} {h : Hp} {v0 : Nat} {h9 : Hp} (H : MX10_findInk h v0 = some h9) : CT (d) YX10_findInk [.ref v0] h oV h9 := CT_of (by decide +kernel) (Nat.le_of_ble_eq_true rfl) (eX10_findInk H)
noncomputable def MX9_addRule_70 (h : Hp) (v0 : Nat) (s0 : Nat) (s1 : Int32) (s2 : Int32) : Option Hp :=
  gg (β := Hp) (kd h s0 = 20) <|
  gg (β := Hp) (inB s1 (ln h s0) = true) <|
  lt (α := Hp) (β := Option Hp) (sI h s0 s1.toNatClampNeg s2) fun (h29 : Hp) =>
  gg (β := Hp) (kd h v0 = 8) <|
  lt (α := Hp) (β := Option Hp) (sI h29 v0 1 ((gI h29 v0 1) + (1 : Int32))) fun (h35 : Hp) =>
  some h35
set_option maxRecDepth 100000 in
set_option maxHeartbeats 8000000 in
theorem kX9_addRule_70 {d : Nat} {h : Hp} {v0 : Nat} {s0 : Nat} {s1 : Int32} {s2 : Int32} {h9 : Hp} (H : MX9_addRule_70 h v0 s0 s1 s2 = some h9) : J (d) YX9_addRule 70 [.ref v0, Value.null, Value.null, Value.null] [.int s2, .int s1, .ref s0] h oV h9 := by
  unfold MX9_addRule_70 at H
  obtain ⟨g27, H⟩ := gd H
  obtain ⟨g28, H⟩ := gd H
  obtain ⟨h29, e30, H⟩ := lt_el H
  refine J_sI dX9_addRule_70 g27 (inB_ok g28) e30 ?_
  have c31 := ekI e30
  have c32 := elI e30
  have c33 := epI e30
  refine J_aload_n 0 dX9_addRule_71 rfl rfl ?_
  refine J_dup dX9_addRule_72 rfl ?_
  obtain ⟨g34, H⟩ := gd H
  refine J_getI 8 1 dX9_addRule_73 (kq c31 g34) flX9_15 rfl ?_
  refine J_iconst (1 : Int32) dX9_addRule_76 kc_1 ?_
  refine J_iadd dX9_addRule_77 ?_
  obtain ⟨h35, e36, H⟩ := lt_el H
  refine J_pI 8 1 dX9_addRule_78 (kq c31 g34) flX9_15 rfl rfl e36 ?_
  have c37 := (ekI e36).trans c31
  have c38 := (elI e36).trans c32
  have c39 := (epI e36).trans c33
  cases H
  exact J_ret dX9_addRule_81 rfl
noncomputable def MX9_addRule (h : Hp) (v0 : Nat) (v1 : Int32) (v2 : Int32) (v3 : Int32) : Option Hp :=
  gg (β := Hp) (kd h v0 = 8) <|
  if (gI h v0 1) < (12 : Int32) then
    gg (β := Hp) (kd h (gP h v0 2) = 20) <|
    gg (β := Hp) (inB (gI h v0 1) (ln h (gP h v0 2)) = true) <|
    lt (α := Hp) (β := Option Hp) (sI h (gP h v0 2) (gI h v0 1).toNatClampNeg v1) fun (h5 : Hp) =>
    gg (β := Hp) (kd h (gP h v0 3) = 20) <|
    gg (β := Hp) (inB (gI h5 v0 1) (ln h (gP h v0 3)) = true) <|
    lt (α := Hp) (β := Option Hp) (sI h5 (gP h v0 3) (gI h5 v0 1).toNatClampNeg v2) fun (h12 : Hp) =>
    gg (β := Hp) (kd h (gP h v0 4) = 20) <|
    gg (β := Hp) (inB (gI h12 v0 1) (ln h (gP h v0 4)) = true) <|
    lt (α := Hp) (β := Option Hp) (sI h12 (gP h v0 4) (gI h12 v0 1).toNatClampNeg v3) fun (h19 : Hp) =>
    if (gI h19 v0 1) = 0 then
      MX9_addRule_70 h19 v0 (gP h v0 5) (gI h19 v0 1) (0 : Int32)
    else
      gg (β := Hp) (kd h (gP h v0 5) = 20) <|
      gg (β := Hp) (inB ((gI h19 v0 1) - (1 : Int32)) (ln h (gP h v0 5)) = true) <|
      MX9_addRule_70 h19 v0 (gP h v0 5) (gI h19 v0 1) (gI h19 (gP h v0 5) ((gI h19 v0 1) - (1 : Int32)).toNatClampNeg)
  else
    some h
set_option maxRecDepth 100000 in
set_option maxHeartbeats 8000000 in
theorem eX9_addRule {d : Nat} {h : Hp} {v0 : Nat} {v1 : Int32} {v2 : Int32} {v3 : Int32} {h9 : Hp} (H : MX9_addRule h v0 v1 v2 v3 = some h9) : J (d) YX9_addRule 0 [.ref v0, .int v1, .int v2, .int v3] [] h oV h9 := by
  unfold MX9_addRule at H
  refine J_aload_n 0 dX9_addRule_0 rfl rfl ?_
  obtain ⟨g1, H⟩ := gd H
  refine J_getI 8 1 dX9_addRule_1 g1 flX9_15 rfl ?_
  refine J_bipush (12 : Int32) dX9_addRule_4 kb_12 ?_
  refine J_icmp_lt 10 dX9_addRule_6 rfl (fun q2 => ?_) (fun q2 => ?_)
  · replace H := br1 q2 H
    refine J_aload_n 0 dX9_addRule_10 rfl rfl ?_
    refine J_gP 8 2 dX9_addRule_11 g1 flX9_18 rfl rfl ?_
    refine J_aload_n 0 dX9_addRule_14 rfl rfl ?_
    refine J_getI 8 1 dX9_addRule_15 g1 flX9_15 rfl ?_
    refine J_iload_n 1 dX9_addRule_18 rfl rfl ?_
    obtain ⟨g3, H⟩ := gd H
    obtain ⟨g4, H⟩ := gd H
    obtain ⟨h5, e6, H⟩ := lt_el H
    refine J_sI dX9_addRule_19 g3 (inB_ok g4) e6 ?_
    have c7 := ekI e6
    have c8 := elI e6
    have c9 := epI e6
    refine J_aload_n 0 dX9_addRule_20 rfl rfl ?_
    refine J_gP 8 3 dX9_addRule_21 (kq c7 g1) flX9_22 rfl (congrFun (congrFun c9 v0) 3) ?_
    refine J_aload_n 0 dX9_addRule_24 rfl rfl ?_
    refine J_getI 8 1 dX9_addRule_25 (kq c7 g1) flX9_15 rfl ?_
    refine J_iload_n 2 dX9_addRule_28 rfl rfl ?_
    obtain ⟨g10, H⟩ := gd H
    obtain ⟨g11, H⟩ := gd H
    obtain ⟨h12, e13, H⟩ := lt_el H
    refine J_sI dX9_addRule_29 (kq c7 g10) (lq c8 g11) e13 ?_
    have c14 := (ekI e13).trans c7
    have c15 := (elI e13).trans c8
    have c16 := (epI e13).trans c9
    refine J_aload_n 0 dX9_addRule_30 rfl rfl ?_
    refine J_gP 8 4 dX9_addRule_31 (kq c14 g1) flX9_25 rfl (congrFun (congrFun c16 v0) 4) ?_
    refine J_aload_n 0 dX9_addRule_34 rfl rfl ?_
    refine J_getI 8 1 dX9_addRule_35 (kq c14 g1) flX9_15 rfl ?_
    refine J_iload_n 3 dX9_addRule_38 rfl rfl ?_
    obtain ⟨g17, H⟩ := gd H
    obtain ⟨g18, H⟩ := gd H
    obtain ⟨h19, e20, H⟩ := lt_el H
    refine J_sI dX9_addRule_39 (kq c14 g17) (lq c15 g18) e20 ?_
    have c21 := (ekI e20).trans c14
    have c22 := (elI e20).trans c15
    have c23 := (epI e20).trans c16
    refine J_aload_n 0 dX9_addRule_40 rfl rfl ?_
    refine J_gP 8 5 dX9_addRule_41 (kq c21 g1) flX9_28 rfl (congrFun (congrFun c23 v0) 5) ?_
    refine J_aload_n 0 dX9_addRule_44 rfl rfl ?_
    refine J_getI 8 1 dX9_addRule_45 (kq c21 g1) flX9_15 rfl ?_
    refine J_aload_n 0 dX9_addRule_48 rfl rfl ?_
    refine J_getI 8 1 dX9_addRule_49 (kq c21 g1) flX9_15 rfl ?_
    refine J_if_ne 59 dX9_addRule_52 rfl (fun q24 => ?_) (fun q24 => ?_)
    · replace H := br0 q24 H
      refine J_aload_n 0 dX9_addRule_59 rfl rfl ?_
      refine J_gP 8 5 dX9_addRule_60 (kq c21 g1) flX9_28 rfl (congrFun (congrFun c23 v0) 5) ?_
      refine J_aload_n 0 dX9_addRule_63 rfl rfl ?_
      refine J_getI 8 1 dX9_addRule_64 (kq c21 g1) flX9_15 rfl ?_
      refine J_iconst (1 : Int32) dX9_addRule_67 kc_1 ?_
      refine J_isub dX9_addRule_68 ?_
      obtain ⟨g25, H⟩ := gd H
      obtain ⟨g26, H⟩ := gd H
      refine J_iald dX9_addRule_69 (kq c21 g25) (lq c22 g26) ?_
      exact J_dr (kX9_addRule_70 H ) ⟨rfl, trivial⟩
    · replace H := br1 q24 H
      refine J_iconst (0 : Int32) dX9_addRule_55 kc_0 ?_
      refine J_goto 70 dX9_addRule_56 rfl ?_
      exact J_dr (kX9_addRule_70 H ) ⟨rfl, trivial⟩
  · replace H := br0 q2 H
    cases H
    exact J_ret dX9_addRule_9 rfl
theorem okX9_addRule {d : Nat} {h : Hp} {v0 : Nat} {v1 : Int32} {v2 : Int32} {v3 : Int32} {h9 : Hp} (H : MX9_addRule h v0 v1 v2 v3 = some h9) : CT (d) YX9_addRule [.ref v0, .int v1, .int v2, .int v3] h oV h9 := CT_of (by decide +kernel) (Nat.le_of_ble_eq_true rfl) (eX9_addRule H)
noncomputable def MX9_addCode (h : Hp) (v0 : Nat) (v1 : Int32) (v2 : Int32) : Option Hp :=
  gg (β := Hp) (kd h v0 = 8) <|
  if (gI h v0 1) = 0 then
    some h
  else
    gg (β := Hp) (kd h (gP h v0 5) = 20) <|
    gg (β := Hp) (inB ((gI h v0 1) - (1 : Int32)) (ln h (gP h v0 5)) = true) <|
    gg (β := Hp) (kd h (gP h v0 6) = 20) <|
    if (gI h (gP h v0 5) ((gI h v0 1) - (1 : Int32)).toNatClampNeg) < (nI (ln h (gP h v0 6))) then
      gg (β := Hp) (inB (gI h (gP h v0 5) ((gI h v0 1) - (1 : Int32)).toNatClampNeg) (ln h (gP h v0 6)) = true) <|
      lt (α := Hp) (β := Option Hp) (sI h (gP h v0 6) (gI h (gP h v0 5) ((gI h v0 1) - (1 : Int32)).toNatClampNeg).toNatClampNeg (((32 : Int32) * v2) + v1)) fun (h8 : Hp) =>
      gg (β := Hp) (inB ((gI h8 v0 1) - (1 : Int32)) (ln h (gP h v0 5)) = true) <|
      lt (α := Hp) (β := Option Hp) (sI h8 (gP h v0 5) ((gI h8 v0 1) - (1 : Int32)).toNatClampNeg ((gI h8 (gP h v0 5) ((gI h8 v0 1) - (1 : Int32)).toNatClampNeg) + (1 : Int32))) fun (h14 : Hp) =>
      some h14
    else
      some h
set_option maxRecDepth 100000 in
set_option maxHeartbeats 8000000 in
theorem eX9_addCode {d : Nat} {h : Hp} {v0 : Nat} {v1 : Int32} {v2 : Int32} {h9 : Hp} (H : MX9_addCode h v0 v1 v2 = some h9) : J (d) YX9_addCode 0 [.ref v0, .int v1, .int v2] [] h oV h9 := by
  unfold MX9_addCode at H
  refine J_aload_n 0 dX9_addCode_0 rfl rfl ?_
  obtain ⟨g1, H⟩ := gd H
  refine J_getI 8 1 dX9_addCode_1 g1 flX9_15 rfl ?_
  refine J_if_eq 26 dX9_addCode_4 rfl (fun q2 => ?_) (fun q2 => ?_)
  · replace H := br1 q2 H
    cases H
    exact J_ret dX9_addCode_26 rfl
  · replace H := br0 q2 H
    refine J_aload_n 0 dX9_addCode_7 rfl rfl ?_
    refine J_gP 8 5 dX9_addCode_8 g1 flX9_28 rfl rfl ?_
    refine J_aload_n 0 dX9_addCode_11 rfl rfl ?_
    refine J_getI 8 1 dX9_addCode_12 g1 flX9_15 rfl ?_
    refine J_iconst (1 : Int32) dX9_addCode_15 kc_1 ?_
    refine J_isub dX9_addCode_16 ?_
    obtain ⟨g3, H⟩ := gd H
    obtain ⟨g4, H⟩ := gd H
    refine J_iald dX9_addCode_17 g3 (inB_ok g4) ?_
    refine J_aload_n 0 dX9_addCode_18 rfl rfl ?_
    refine J_gP 8 6 dX9_addCode_19 g1 flX9_31 rfl rfl ?_
    obtain ⟨g5, H⟩ := gd H
    refine J_len 20 dX9_addCode_22 g5 rfl ?_
    refine J_icmp_lt 27 dX9_addCode_23 rfl (fun q6 => ?_) (fun q6 => ?_)
    · replace H := br1 q6 H
      refine J_aload_n 0 dX9_addCode_27 rfl rfl ?_
      refine J_gP 8 6 dX9_addCode_28 g1 flX9_31 rfl rfl ?_
      refine J_aload_n 0 dX9_addCode_31 rfl rfl ?_
      refine J_gP 8 5 dX9_addCode_32 g1 flX9_28 rfl rfl ?_
      refine J_aload_n 0 dX9_addCode_35 rfl rfl ?_
      refine J_getI 8 1 dX9_addCode_36 g1 flX9_15 rfl ?_
      refine J_iconst (1 : Int32) dX9_addCode_39 kc_1 ?_
      refine J_isub dX9_addCode_40 ?_
      refine J_iald dX9_addCode_41 g3 (inB_ok g4) ?_
      refine J_bipush (32 : Int32) dX9_addCode_42 kb_32 ?_
      refine J_iload_n 2 dX9_addCode_44 rfl rfl ?_
      refine J_imul dX9_addCode_45 ?_
      refine J_iload_n 1 dX9_addCode_46 rfl rfl ?_
      refine J_iadd dX9_addCode_47 ?_
      obtain ⟨g7, H⟩ := gd H
      obtain ⟨h8, e9, H⟩ := lt_el H
      refine J_sI dX9_addCode_48 g5 (inB_ok g7) e9 ?_
      have c10 := ekI e9
      have c11 := elI e9
      have c12 := epI e9
      refine J_aload_n 0 dX9_addCode_49 rfl rfl ?_
      refine J_gP 8 5 dX9_addCode_50 (kq c10 g1) flX9_28 rfl (congrFun (congrFun c12 v0) 5) ?_
      refine J_aload_n 0 dX9_addCode_53 rfl rfl ?_
      refine J_getI 8 1 dX9_addCode_54 (kq c10 g1) flX9_15 rfl ?_
      refine J_iconst (1 : Int32) dX9_addCode_57 kc_1 ?_
      refine J_isub dX9_addCode_58 ?_
      refine J_dup2 dX9_addCode_59 rfl rfl ?_
      obtain ⟨g13, H⟩ := gd H
      refine J_iald dX9_addCode_60 (kq c10 g3) (lq c11 g13) ?_
      refine J_iconst (1 : Int32) dX9_addCode_61 kc_1 ?_
      refine J_iadd dX9_addCode_62 ?_
      obtain ⟨h14, e15, H⟩ := lt_el H
      refine J_sI dX9_addCode_63 (kq c10 g3) (lq c11 g13) e15 ?_
      have c16 := (ekI e15).trans c10
      have c17 := (elI e15).trans c11
      have c18 := (epI e15).trans c12
      cases H
      exact J_ret dX9_addCode_64 rfl
    · replace H := br0 q6 H
      cases H
      exact J_ret dX9_addCode_26 rfl
theorem okX9_addCode {d : Nat} {h : Hp} {v0 : Nat} {v1 : Int32} {v2 : Int32} {h9 : Hp} (H : MX9_addCode h v0 v1 v2 = some h9) : CT (d) YX9_addCode [.ref v0, .int v1, .int v2] h oV h9 := CT_of (by decide +kernel) (Nat.le_of_ble_eq_true rfl) (eX9_addCode H)
noncomputable def MX10_takeNumber_121 (h : Hp) (v0 : Nat) : Option (Int32 × Hp) :=
  gg (β := (Int32 × Hp)) (kd h v0 = 9) <|
  lt (α := Hp) (β := Option (Int32 × Hp)) (sI h v0 3 (gI h v0 2)) fun (h14 : Hp) =>
  some ((-1 : Int32), h14)
set_option maxRecDepth 100000 in
set_option maxHeartbeats 8000000 in
theorem kX10_takeNumber_121 {d : Nat} {h : Hp} {v0 : Nat} {r : Int32} {h9 : Hp} (H : MX10_takeNumber_121 h v0 = some (r, h9)) : J (d) YX10_takeNumber 121 [.ref v0, Value.null, Value.null, Value.null, Value.null] [] h (oI r) h9 := by
  unfold MX10_takeNumber_121 at H
  refine J_aload_n 0 dX10_takeNumber_121 rfl rfl ?_
  refine J_aload_n 0 dX10_takeNumber_122 rfl rfl ?_
  obtain ⟨g13, H⟩ := gd H
  refine J_getI 9 2 dX10_takeNumber_123 g13 flX10_15 rfl ?_
  obtain ⟨h14, e15, H⟩ := lt_el H
  refine J_pI 9 3 dX10_takeNumber_126 g13 flX10_18 rfl rfl e15 ?_
  have c16 := ekI e15
  have c17 := elI e15
  have c18 := epI e15
  refine J_iconst (-1 : Int32) dX10_takeNumber_129 kc_m1 ?_
  cases H
  exact J_iretI dX10_takeNumber_130 rfl
noncomputable def MX10_takeNumber_91 (h : Hp) (v0 : Nat) (v1 : Int32) (v2 : Int32) (v3 : Int32) (v4 : Int32) : Option (Int32 × Hp) :=
  gg (β := (Int32 × Hp)) (kd h v0 = 9) <|
  if v4 = (gI h v0 2) then
    MX10_takeNumber_121 h v0
  else
    if (4 : Int32) < (v4 - (gI h v0 2)) then
      MX10_takeNumber_121 h v0
    else
      if v3 < v1 then
        MX10_takeNumber_121 h v0
      else
        if v3 ≤ v2 then
          lt (α := Hp) (β := Option (Int32 × Hp)) (sI h v0 2 v4) fun (h22 : Hp) =>
          some (v3, h22)
        else
          MX10_takeNumber_121 h v0
set_option maxRecDepth 100000 in
set_option maxHeartbeats 8000000 in
theorem kX10_takeNumber_91 {d : Nat} {h : Hp} {v0 : Nat} {v1 : Int32} {v2 : Int32} {v3 : Int32} {v4 : Int32} {r : Int32} {h9 : Hp} (H : MX10_takeNumber_91 h v0 v1 v2 v3 v4 = some (r, h9)) : J (d) YX10_takeNumber 91 [.ref v0, .int v1, .int v2, .int v3, .int v4] [] h (oI r) h9 := by
  unfold MX10_takeNumber_91 at H
  refine J_iload dX10_takeNumber_91 rfl ?_
  refine J_aload_n 0 dX10_takeNumber_93 rfl rfl ?_
  obtain ⟨g11, H⟩ := gd H
  refine J_getI 9 2 dX10_takeNumber_94 g11 flX10_15 rfl ?_
  refine J_icmp_eq 121 dX10_takeNumber_97 rfl (fun q12 => ?_) (fun q12 => ?_)
  · replace H := br1 q12 H
    exact J_dr (kX10_takeNumber_121 H ) ⟨rfl, trivial⟩
  · replace H := br0 q12 H
    refine J_iload dX10_takeNumber_100 rfl ?_
    refine J_aload_n 0 dX10_takeNumber_102 rfl rfl ?_
    refine J_getI 9 2 dX10_takeNumber_103 g11 flX10_15 rfl ?_
    refine J_isub dX10_takeNumber_106 ?_
    refine J_iconst (4 : Int32) dX10_takeNumber_107 kc_4 ?_
    refine J_icmp_gt 121 dX10_takeNumber_108 rfl (fun q19 => ?_) (fun q19 => ?_)
    · replace H := br1 q19 H
      exact J_dr (kX10_takeNumber_121 H ) ⟨rfl, trivial⟩
    · replace H := br0 q19 H
      refine J_iload_n 3 dX10_takeNumber_111 rfl rfl ?_
      refine J_iload_n 1 dX10_takeNumber_112 rfl rfl ?_
      refine J_icmp_lt 121 dX10_takeNumber_113 rfl (fun q20 => ?_) (fun q20 => ?_)
      · replace H := br1 q20 H
        exact J_dr (kX10_takeNumber_121 H ) ⟨rfl, trivial⟩
      · replace H := br0 q20 H
        refine J_iload_n 3 dX10_takeNumber_116 rfl rfl ?_
        refine J_iload_n 2 dX10_takeNumber_117 rfl rfl ?_
        refine J_icmp_le 131 dX10_takeNumber_118 rfl (fun q21 => ?_) (fun q21 => ?_)
        · replace H := br1 q21 H
          refine J_aload_n 0 dX10_takeNumber_131 rfl rfl ?_
          refine J_iload dX10_takeNumber_132 rfl ?_
          obtain ⟨h22, e23, H⟩ := lt_el H
          refine J_pI 9 2 dX10_takeNumber_134 g11 flX10_15 rfl rfl e23 ?_
          have c24 := ekI e23
          have c25 := elI e23
          have c26 := epI e23
          refine J_iload_n 3 dX10_takeNumber_137 rfl rfl ?_
          cases H
          exact J_iretI dX10_takeNumber_138 rfl
        · replace H := br0 q21 H
          exact J_dr (kX10_takeNumber_121 H ) ⟨rfl, trivial⟩
noncomputable def MX10_takeNumber_84 (h : Hp) (v0 : Nat) (v1 : Int32) (v2 : Int32) (v4 : Int32) (s0 : Int32) : Option ((Int32 × Int32) ⊕ (Int32 × Hp)) :=
  some (.inl (s0, (v4 + (1 : Int32))))
set_option maxRecDepth 100000 in
set_option maxHeartbeats 8000000 in
theorem kX10_takeNumber_84 {d : Nat} {h : Hp} {v0 : Nat} {v1 : Int32} {v2 : Int32} {v4 : Int32} {s0 : Int32} {r : Int32} {h9 : Hp} {x : ((Int32 × Int32) ⊕ (Int32 × Hp))} (H : MX10_takeNumber_84 h v0 v1 v2 v4 s0 = some x) (hb0 : ∀ s : Int32 × Int32, x = .inl s → J (d) YX10_takeNumber 21 [.ref v0, .int v1, .int v2, .int s.1, .int s.2] [] h (oI r) h9) (hx : ∀ z : (Int32 × Hp), x = .inr (z) → z = (r, h9)) : J (d) YX10_takeNumber 84 [.ref v0, .int v1, .int v2, Value.null, .int v4] [.int s0] h (oI r) h9 := by
  unfold MX10_takeNumber_84 at H
  refine J_istore_n 3 dX10_takeNumber_84 rfl (by decide) (ls' := [.ref v0, .int v1, .int v2, .int s0, .int v4]) rfl ?_
  refine J_iinc (v4 + (1 : Int32)) dX10_takeNumber_85 rfl (congrArg (HAdd.hAdd v4) kc_1) (by decide) (ls' := [.ref v0, .int v1, .int v2, .int s0, .int (v4 + (1 : Int32))]) rfl ?_
  refine J_goto 21 dX10_takeNumber_88 rfl ?_
  cases H
  exact J_dr (hb0 _ rfl) ⟨rfl, ⟨rfl, ⟨rfl, ⟨rfl, ⟨rfl, trivial⟩⟩⟩⟩⟩
noncomputable def BX10_takeNumber_21 (h : Hp) (v0 : Nat) (v1 : Int32) (v2 : Int32) (v3 : Int32) (v4 : Int32) : Option ((Int32 × Int32) ⊕ (Int32 × Hp)) :=
  gg (β := ((Int32 × Int32) ⊕ (Int32 × Hp))) (kd h v0 = 9) <|
  if (gI h v0 1) ≤ v4 then
    up1 (MX10_takeNumber_91 h v0 v1 v2 v3 v4)
  else
    gg (β := ((Int32 × Int32) ⊕ (Int32 × Hp))) (kd h (gP h v0 0) = 21) <|
    gg (β := ((Int32 × Int32) ⊕ (Int32 × Hp))) (inB v4 (ln h (gP h v0 0)) = true) <|
    if (gI h (gP h v0 0) v4.toNatClampNeg) < (48 : Int32) then
      up1 (MX10_takeNumber_91 h v0 v1 v2 v3 v4)
    else
      if (57 : Int32) < (gI h (gP h v0 0) v4.toNatClampNeg) then
        up1 (MX10_takeNumber_91 h v0 v1 v2 v3 v4)
      else
        if (4 : Int32) ≤ (v4 - (gI h v0 2)) then
          MX10_takeNumber_84 h v0 v1 v2 v4 (0 : Int32)
        else
          MX10_takeNumber_84 h v0 v1 v2 v4 ((((10 : Int32) * v3) + (gI h (gP h v0 0) v4.toNatClampNeg)) - (48 : Int32))
set_option maxRecDepth 100000 in
set_option maxHeartbeats 8000000 in
theorem bX10_takeNumber_21 {d : Nat} {h : Hp} {v0 : Nat} {v1 : Int32} {v2 : Int32} {v3 : Int32} {v4 : Int32} {r : Int32} {h9 : Hp} {x : ((Int32 × Int32) ⊕ (Int32 × Hp))} (H : BX10_takeNumber_21 h v0 v1 v2 v3 v4 = some x) (hb0 : ∀ s : Int32 × Int32, x = .inl s → J (d) YX10_takeNumber 21 [.ref v0, .int v1, .int v2, .int s.1, .int s.2] [] h (oI r) h9) (hx : ∀ z : (Int32 × Hp), x = .inr (z) → z = (r, h9)) : J (d) YX10_takeNumber 21 [.ref v0, .int v1, .int v2, .int v3, .int v4] [] h (oI r) h9 := by
  unfold BX10_takeNumber_21 at H
  refine J_iload dX10_takeNumber_21 rfl ?_
  refine J_aload_n 0 dX10_takeNumber_23 rfl rfl ?_
  obtain ⟨g9, H⟩ := gd H
  refine J_getI 9 1 dX10_takeNumber_24 g9 flX10_9 rfl ?_
  refine J_icmp_ge 91 dX10_takeNumber_27 rfl (fun q10 => ?_) (fun q10 => ?_)
  · replace H := br1 q10 H
    obtain ⟨y0, H90, rfl⟩ := up1_el H
    replace H := H90
    obtain rfl := hx _ rfl
    exact J_dr (kX10_takeNumber_91 H ) ⟨rfl, ⟨rfl, ⟨rfl, ⟨rfl, ⟨rfl, trivial⟩⟩⟩⟩⟩
  · replace H := br0 q10 H
    refine J_aload_n 0 dX10_takeNumber_30 rfl rfl ?_
    refine J_gP 9 0 dX10_takeNumber_31 g9 flX10_32 rfl rfl ?_
    refine J_iload dX10_takeNumber_34 rfl ?_
    obtain ⟨g27, H⟩ := gd H
    obtain ⟨g28, H⟩ := gd H
    refine J_bald dX10_takeNumber_36 g27 (inB_ok g28) ?_
    refine J_bipush (48 : Int32) dX10_takeNumber_37 kb_48 ?_
    refine J_icmp_lt 91 dX10_takeNumber_39 rfl (fun q29 => ?_) (fun q29 => ?_)
    · replace H := br1 q29 H
      obtain ⟨y0, H90, rfl⟩ := up1_el H
      replace H := H90
      obtain rfl := hx _ rfl
      exact J_dr (kX10_takeNumber_91 H ) ⟨rfl, ⟨rfl, ⟨rfl, ⟨rfl, ⟨rfl, trivial⟩⟩⟩⟩⟩
    · replace H := br0 q29 H
      refine J_aload_n 0 dX10_takeNumber_42 rfl rfl ?_
      refine J_gP 9 0 dX10_takeNumber_43 g9 flX10_32 rfl rfl ?_
      refine J_iload dX10_takeNumber_46 rfl ?_
      refine J_bald dX10_takeNumber_48 g27 (inB_ok g28) ?_
      refine J_bipush (57 : Int32) dX10_takeNumber_49 kb_57 ?_
      refine J_icmp_gt 91 dX10_takeNumber_51 rfl (fun q30 => ?_) (fun q30 => ?_)
      · replace H := br1 q30 H
        obtain ⟨y0, H90, rfl⟩ := up1_el H
        replace H := H90
        obtain rfl := hx _ rfl
        exact J_dr (kX10_takeNumber_91 H ) ⟨rfl, ⟨rfl, ⟨rfl, ⟨rfl, ⟨rfl, trivial⟩⟩⟩⟩⟩
      · replace H := br0 q30 H
        refine J_iload dX10_takeNumber_54 rfl ?_
        refine J_aload_n 0 dX10_takeNumber_56 rfl rfl ?_
        refine J_getI 9 2 dX10_takeNumber_57 g9 flX10_15 rfl ?_
        refine J_isub dX10_takeNumber_60 ?_
        refine J_iconst (4 : Int32) dX10_takeNumber_61 kc_4 ?_
        refine J_icmp_ge 83 dX10_takeNumber_62 rfl (fun q31 => ?_) (fun q31 => ?_)
        · replace H := br1 q31 H
          refine J_iconst (0 : Int32) dX10_takeNumber_83 kc_0 ?_
          exact J_dr (kX10_takeNumber_84 H hb0 hx) ⟨rfl, ⟨rfl, ⟨rfl, ⟨rfl, trivial⟩⟩⟩⟩
        · replace H := br0 q31 H
          refine J_bipush (10 : Int32) dX10_takeNumber_65 kb_10 ?_
          refine J_iload_n 3 dX10_takeNumber_67 rfl rfl ?_
          refine J_imul dX10_takeNumber_68 ?_
          refine J_aload_n 0 dX10_takeNumber_69 rfl rfl ?_
          refine J_gP 9 0 dX10_takeNumber_70 g9 flX10_32 rfl rfl ?_
          refine J_iload dX10_takeNumber_73 rfl ?_
          refine J_bald dX10_takeNumber_75 g27 (inB_ok g28) ?_
          refine J_iadd dX10_takeNumber_76 ?_
          refine J_bipush (48 : Int32) dX10_takeNumber_77 kb_48 ?_
          refine J_isub dX10_takeNumber_79 ?_
          refine J_goto 84 dX10_takeNumber_80 rfl ?_
          exact J_dr (kX10_takeNumber_84 H hb0 hx) ⟨rfl, ⟨rfl, ⟨rfl, ⟨rfl, trivial⟩⟩⟩⟩
noncomputable def MX10_takeNumber_21 (h : Hp) (v0 : Nat) (v1 : Int32) (v2 : Int32) (v3 : Int32) (v4 : Int32) : Option (Int32 × Hp) := it (fun q : Int32 × Int32 => BX10_takeNumber_21 h v0 v1 v2 q.1 q.2) (v3, v4)
set_option maxRecDepth 100000 in
set_option maxHeartbeats 8000000 in
theorem kX10_takeNumber_21 {d : Nat} {h : Hp} {v0 : Nat} {v1 : Int32} {v2 : Int32} {v3 : Int32} {v4 : Int32} {r : Int32} {h9 : Hp} (H : MX10_takeNumber_21 h v0 v1 v2 v3 v4 = some (r, h9)) : J (d) YX10_takeNumber 21 [.ref v0, .int v1, .int v2, .int v3, .int v4] [] h (oI r) h9 := by
  unfold MX10_takeNumber_21 at H
  refine it_J (G := (fun q : Int32 × Int32 => J (d) YX10_takeNumber 21 [.ref v0, .int v1, .int v2, .int q.1, .int q.2] [] h (oI r) h9)) (Q := (fun y : (Int32 × Hp) => y = (r, h9))) (fun q x Hq hm => ?_) H rfl
  exact bX10_takeNumber_21 Hq (fun s hs => by subst hs; exact hm) (fun z hz => by subst hz; exact hm)
noncomputable def MX10_takeNumber (h : Hp) (v0 : Nat) (v1 : Int32) (v2 : Int32) : Option (Int32 × Hp) :=
  gg (β := (Int32 × Hp)) (kd h v0 = 9) <|
  gg (β := (Int32 × Hp)) (kd h (gP h v0 4) = 20) <|
  gg (β := (Int32 × Hp)) (inB (gI h v0 2) (ln h (gP h v0 4)) = true) <|
  lt (α := Hp) (β := Option (Int32 × Hp)) (sI h v0 2 (gI h (gP h v0 4) (gI h v0 2).toNatClampNeg)) fun (h4 : Hp) =>
  MX10_takeNumber_21 h4 v0 v1 v2 (0 : Int32) (gI h4 v0 2)
set_option maxRecDepth 100000 in
set_option maxHeartbeats 8000000 in
theorem eX10_takeNumber {d : Nat} {h : Hp} {v0 : Nat} {v1 : Int32} {v2 : Int32} {r : Int32} {h9 : Hp} (H : MX10_takeNumber h v0 v1 v2 = some (r, h9)) : J (d) YX10_takeNumber 0 [.ref v0, .int v1, .int v2, Value.null, Value.null] [] h (oI r) h9 := by
  unfold MX10_takeNumber at H
  refine J_aload_n 0 dX10_takeNumber_0 rfl rfl ?_
  refine J_aload_n 0 dX10_takeNumber_1 rfl rfl ?_
  obtain ⟨g1, H⟩ := gd H
  refine J_gP 9 4 dX10_takeNumber_2 g1 flX10_21 rfl rfl ?_
  refine J_aload_n 0 dX10_takeNumber_5 rfl rfl ?_
  refine J_getI 9 2 dX10_takeNumber_6 g1 flX10_15 rfl ?_
  obtain ⟨g2, H⟩ := gd H
  obtain ⟨g3, H⟩ := gd H
  refine J_iald dX10_takeNumber_9 g2 (inB_ok g3) ?_
  obtain ⟨h4, e5, H⟩ := lt_el H
  refine J_pI 9 2 dX10_takeNumber_10 g1 flX10_15 rfl rfl e5 ?_
  have c6 := ekI e5
  have c7 := elI e5
  have c8 := epI e5
  refine J_iconst (0 : Int32) dX10_takeNumber_13 kc_0 ?_
  refine J_istore_n 3 dX10_takeNumber_14 rfl (by decide) (ls' := [.ref v0, .int v1, .int v2, .int (0 : Int32), Value.null]) rfl ?_
  refine J_aload_n 0 dX10_takeNumber_15 rfl rfl ?_
  refine J_getI 9 2 dX10_takeNumber_16 (kq c6 g1) flX10_15 rfl ?_
  refine J_istore dX10_takeNumber_19 (by decide) (ls' := [.ref v0, .int v1, .int v2, .int (0 : Int32), .int (gI h4 v0 2)]) rfl ?_
  exact J_dr (kX10_takeNumber_21 H ) ⟨rfl, ⟨rfl, ⟨rfl, ⟨rfl, ⟨rfl, trivial⟩⟩⟩⟩⟩
theorem okX10_takeNumber {d : Nat} {h : Hp} {v0 : Nat} {v1 : Int32} {v2 : Int32} {r : Int32} {h9 : Hp} (H : MX10_takeNumber h v0 v1 v2 = some (r, h9)) : CT (d) YX10_takeNumber [.ref v0, .int v1, .int v2] h (oI r) h9 := CT_of (by decide +kernel) (Nat.le_of_ble_eq_true rfl) (eX10_takeNumber H)
noncomputable def MX10_tagOrComparison_76 (h : Hp) (v3 : Int32) (s0 : Nat) (s1 : Int32) (s2 : Int32) : Option (Int32 × Hp) :=
  gg (β := (Int32 × Hp)) (kd h s0 = 8) <|
  Option.bind (α := Hp) (β := (Int32 × Hp)) (MX9_addCode h s0 (s1 + s2) v3) fun (h16 : Hp) =>
  if v3 = (-1 : Int32) then
    some ((0 : Int32), h16)
  else
    some ((1 : Int32), h16)
set_option maxRecDepth 100000 in
set_option maxHeartbeats 8000000 in
theorem kX10_tagOrComparison_76 {d : Nat} {h : Hp} {v3 : Int32} {s0 : Nat} {s1 : Int32} {s2 : Int32} {r : Int32} {h9 : Hp} (H : MX10_tagOrComparison_76 h v3 s0 s1 s2 = some (r, h9)) : J (d + 1) YX10_tagOrComparison 76 [Value.null, Value.null, Value.null, .int v3] [.int s2, .int s1, .ref s0] h (oI r) h9 := by
  unfold MX10_tagOrComparison_76 at H
  refine J_iadd dX10_tagOrComparison_76 ?_
  refine J_iload_n 3 dX10_tagOrComparison_77 rfl rfl ?_
  obtain ⟨g15, H⟩ := gd H
  obtain ⟨h16, e14, H⟩ := bd H
  refine J_cV (as := [.int (s1 + s2), .int v3]) 8 YX9_addCode 2 dX10_tagOrComparison_78 moX9_addCode mvX9_addCode mlX10_108 g15 rfl rfl (okX9_addCode (d := d) e14) rfl rfl [] rfl rfl (st2 := []) rfl ?_
  refine J_iload_n 3 dX10_tagOrComparison_81 rfl rfl ?_
  refine J_iconst (-1 : Int32) dX10_tagOrComparison_82 kc_m1 ?_
  refine J_icmp_eq 90 dX10_tagOrComparison_83 rfl (fun q17 => ?_) (fun q17 => ?_)
  · replace H := br1 q17 H
    refine J_iconst (0 : Int32) dX10_tagOrComparison_90 kc_0 ?_
    cases H
    exact J_rZ dX10_tagOrComparison_91 rfl rfl
  · replace H := br0 q17 H
    refine J_iconst (1 : Int32) dX10_tagOrComparison_86 kc_1 ?_
    refine J_goto 91 dX10_tagOrComparison_87 rfl ?_
    cases H
    exact J_rZ dX10_tagOrComparison_91 rfl rfl
noncomputable def MX10_tagOrComparison_51 (h : Hp) (v0 : Nat) (v1 : Int32) (v2 : Int32) : Option (Int32 × Hp) :=
  gg (β := (Int32 × Hp)) (kd h v0 = 9) <|
  b2 (α := Int32) (β := Hp) (γ := (Int32 × Hp)) (MX10_takeNumber h v0 (0 : Int32) (9999 : Int32)) fun (t11 : Int32) (h10 : Hp) =>
  gg (β := (Int32 × Hp)) (kd h10 v0 = 9) <|
  if v2 = 0 then
    MX10_tagOrComparison_76 h10 t11 (gP h10 v0 5) v1 (18 : Int32)
  else
    MX10_tagOrComparison_76 h10 t11 (gP h10 v0 5) v1 (9 : Int32)
set_option maxRecDepth 100000 in
set_option maxHeartbeats 8000000 in
theorem kX10_tagOrComparison_51 {d : Nat} {h : Hp} {v0 : Nat} {v1 : Int32} {v2 : Int32} {r : Int32} {h9 : Hp} (H : MX10_tagOrComparison_51 h v0 v1 v2 = some (r, h9)) : J (d + 1) YX10_tagOrComparison 51 [.ref v0, .int v1, .int v2, Value.null] [] h (oI r) h9 := by
  unfold MX10_tagOrComparison_51 at H
  refine J_aload_n 0 dX10_tagOrComparison_51 rfl rfl ?_
  refine J_iconst (0 : Int32) dX10_tagOrComparison_52 kc_0 ?_
  refine J_sipush (9999 : Int32) dX10_tagOrComparison_53 ks_9999 ?_
  obtain ⟨g9, H⟩ := gd H
  obtain ⟨t11, h10, e8, H⟩ := b2_el H
  refine J_cV (as := [.int (0 : Int32), .int (9999 : Int32)]) 9 YX10_takeNumber 2 dX10_tagOrComparison_56 moX10_takeNumber mvX10_takeNumber mlX10_99 g9 rfl rfl (okX10_takeNumber (d := d) e8) rfl rfl [] rfl rfl (st2 := [.int t11]) rfl ?_
  refine J_istore_n 3 dX10_tagOrComparison_59 rfl (by decide) (ls' := [.ref v0, .int v1, .int v2, .int t11]) rfl ?_
  refine J_aload_n 0 dX10_tagOrComparison_60 rfl rfl ?_
  obtain ⟨g12, H⟩ := gd H
  refine J_gP 9 5 dX10_tagOrComparison_61 g12 flX10_28 rfl rfl ?_
  refine J_iload_n 1 dX10_tagOrComparison_64 rfl rfl ?_
  refine J_iload_n 2 dX10_tagOrComparison_65 rfl rfl ?_
  refine J_if_eq 74 dX10_tagOrComparison_66 rfl (fun q13 => ?_) (fun q13 => ?_)
  · replace H := br1 q13 H
    refine J_bipush (18 : Int32) dX10_tagOrComparison_74 kb_18 ?_
    exact J_dr (kX10_tagOrComparison_76 H ) ⟨rfl, trivial⟩
  · replace H := br0 q13 H
    refine J_bipush (9 : Int32) dX10_tagOrComparison_69 kb_9 ?_
    refine J_goto 76 dX10_tagOrComparison_71 rfl ?_
    exact J_dr (kX10_tagOrComparison_76 H ) ⟨rfl, trivial⟩
noncomputable def MX10_tagOrComparison (h : Hp) (v0 : Nat) (v1 : Int32) : Option (Int32 × Hp) :=
  if v1 = (-1 : Int32) then
    gg (β := (Int32 × Hp)) (kd h v0 = 9) <|
    b2 (α := Int32) (β := Hp) (γ := (Int32 × Hp)) (MX10_failHere h v0) fun (t35 : Int32) (h34 : Hp) =>
    gg (β := (Int32 × Hp)) (zOk t35 = true) <|
    some (t35, h34)
  else
    if (2 : Int32) < v1 then
      gg (β := (Int32 × Hp)) (kd h v0 = 9) <|
      b2 (α := Int32) (β := Hp) (γ := (Int32 × Hp)) (MX10_takeSign h v0 (60 : Int32)) fun (t6 : Int32) (h5 : Hp) =>
      if t6 = 0 then
        gg (β := (Int32 × Hp)) (kd h5 v0 = 9) <|
        b2 (α := Int32) (β := Hp) (γ := (Int32 × Hp)) (MX10_takeSign h5 v0 (62 : Int32)) fun (t21 : Int32) (h20 : Hp) =>
        if t21 = 0 then
          gg (β := (Int32 × Hp)) (kd h20 v0 = 9) <|
          b2 (α := Int32) (β := Hp) (γ := (Int32 × Hp)) (MX10_failHere h20 v0) fun (t26 : Int32) (h25 : Hp) =>
          gg (β := (Int32 × Hp)) (zOk t26 = true) <|
          some (t26, h25)
        else
          MX10_tagOrComparison_51 h20 v0 v1 t6
      else
        MX10_tagOrComparison_51 h5 v0 v1 t6
    else
      gg (β := (Int32 × Hp)) (kd h v0 = 9) <|
      gg (β := (Int32 × Hp)) (kd h (gP h v0 5) = 8) <|
      Option.bind (α := Hp) (β := (Int32 × Hp)) (MX9_addCode h (gP h v0 5) v1 (0 : Int32)) fun (h31 : Hp) =>
      some ((1 : Int32), h31)
set_option maxRecDepth 100000 in
set_option maxHeartbeats 8000000 in
theorem eX10_tagOrComparison {d : Nat} {h : Hp} {v0 : Nat} {v1 : Int32} {r : Int32} {h9 : Hp} (H : MX10_tagOrComparison h v0 v1 = some (r, h9)) : J (d + 1) YX10_tagOrComparison 0 [.ref v0, .int v1, Value.null, Value.null] [] h (oI r) h9 := by
  unfold MX10_tagOrComparison at H
  refine J_iload_n 1 dX10_tagOrComparison_0 rfl rfl ?_
  refine J_iconst (-1 : Int32) dX10_tagOrComparison_1 kc_m1 ?_
  refine J_icmp_ne 10 dX10_tagOrComparison_2 rfl (fun q1 => ?_) (fun q1 => ?_)
  · replace H := br0 q1 H
    refine J_iload_n 1 dX10_tagOrComparison_10 rfl rfl ?_
    refine J_iconst (2 : Int32) dX10_tagOrComparison_11 kc_2 ?_
    refine J_icmp_gt 26 dX10_tagOrComparison_12 rfl (fun q2 => ?_) (fun q2 => ?_)
    · replace H := br1 q2 H
      refine J_aload_n 0 dX10_tagOrComparison_26 rfl rfl ?_
      refine J_bipush (60 : Int32) dX10_tagOrComparison_27 kb_60 ?_
      obtain ⟨g4, H⟩ := gd H
      obtain ⟨t6, h5, e3, H⟩ := b2_el H
      refine J_cV (as := [.int (60 : Int32)]) 9 YX10_takeSign 1 dX10_tagOrComparison_29 moX10_takeSign mvX10_takeSign mlX10_55 g4 rfl rfl (okX10_takeSign (d := d) e3) rfl rfl [] rfl rfl (st2 := [.int t6]) rfl ?_
      refine J_istore_n 2 dX10_tagOrComparison_32 rfl (by decide) (ls' := [.ref v0, .int v1, .int t6, Value.null]) rfl ?_
      refine J_iload_n 2 dX10_tagOrComparison_33 rfl rfl ?_
      refine J_if_ne 51 dX10_tagOrComparison_34 rfl (fun q7 => ?_) (fun q7 => ?_)
      · replace H := br0 q7 H
        exact J_dr (kX10_tagOrComparison_51 H ) ⟨rfl, ⟨rfl, ⟨rfl, trivial⟩⟩⟩
      · replace H := br1 q7 H
        refine J_aload_n 0 dX10_tagOrComparison_37 rfl rfl ?_
        refine J_bipush (62 : Int32) dX10_tagOrComparison_38 kb_62 ?_
        obtain ⟨g19, H⟩ := gd H
        obtain ⟨t21, h20, e18, H⟩ := b2_el H
        refine J_cV (as := [.int (62 : Int32)]) 9 YX10_takeSign 1 dX10_tagOrComparison_40 moX10_takeSign mvX10_takeSign mlX10_55 g19 rfl rfl (okX10_takeSign (d := d) e18) rfl rfl [] rfl rfl (st2 := [.int t21]) rfl ?_
        refine J_if_ne 51 dX10_tagOrComparison_43 rfl (fun q22 => ?_) (fun q22 => ?_)
        · replace H := br0 q22 H
          exact J_dr (kX10_tagOrComparison_51 H ) ⟨rfl, ⟨rfl, ⟨rfl, trivial⟩⟩⟩
        · replace H := br1 q22 H
          refine J_aload_n 0 dX10_tagOrComparison_46 rfl rfl ?_
          obtain ⟨g24, H⟩ := gd H
          obtain ⟨t26, h25, e23, H⟩ := b2_el H
          refine J_cV (as := []) 9 YX10_failHere 0 dX10_tagOrComparison_47 moX10_failHere mvX10_failHere mlX10_59 g24 rfl rfl (okX10_failHere (d := d) e23) rfl rfl [] rfl rfl (st2 := [.int t26]) rfl ?_
          obtain ⟨g27, H⟩ := gd H
          cases H
          exact J_rZ dX10_tagOrComparison_50 rfl g27
    · replace H := br0 q2 H
      refine J_aload_n 0 dX10_tagOrComparison_15 rfl rfl ?_
      obtain ⟨g28, H⟩ := gd H
      refine J_gP 9 5 dX10_tagOrComparison_16 g28 flX10_28 rfl rfl ?_
      refine J_iload_n 1 dX10_tagOrComparison_19 rfl rfl ?_
      refine J_iconst (0 : Int32) dX10_tagOrComparison_20 kc_0 ?_
      obtain ⟨g30, H⟩ := gd H
      obtain ⟨h31, e29, H⟩ := bd H
      refine J_cV (as := [.int v1, .int (0 : Int32)]) 8 YX9_addCode 2 dX10_tagOrComparison_21 moX9_addCode mvX9_addCode mlX10_108 g30 rfl rfl (okX9_addCode (d := d) e29) rfl rfl [] rfl rfl (st2 := []) rfl ?_
      refine J_iconst (1 : Int32) dX10_tagOrComparison_24 kc_1 ?_
      cases H
      exact J_rZ dX10_tagOrComparison_25 rfl rfl
  · replace H := br1 q1 H
    refine J_aload_n 0 dX10_tagOrComparison_5 rfl rfl ?_
    obtain ⟨g33, H⟩ := gd H
    obtain ⟨t35, h34, e32, H⟩ := b2_el H
    refine J_cV (as := []) 9 YX10_failHere 0 dX10_tagOrComparison_6 moX10_failHere mvX10_failHere mlX10_59 g33 rfl rfl (okX10_failHere (d := d) e32) rfl rfl [] rfl rfl (st2 := [.int t35]) rfl ?_
    obtain ⟨g36, H⟩ := gd H
    cases H
    exact J_rZ dX10_tagOrComparison_9 rfl g36
theorem okX10_tagOrComparison {d : Nat} {h : Hp} {v0 : Nat} {v1 : Int32} {r : Int32} {h9 : Hp} (H : MX10_tagOrComparison h v0 v1 = some (r, h9)) : CT (d + 1) YX10_tagOrComparison [.ref v0, .int v1] h (oI r) h9 := CT_of (by decide +kernel) (Nat.le_of_ble_eq_true rfl) (eX10_tagOrComparison H)
noncomputable def MX10_takeWord_114 (h : Hp) (v0 : Nat) (v2 : Int32) : Option (Int32 × Hp) :=
  gg (β := (Int32 × Hp)) (kd h v0 = 9) <|
  lt (α := Hp) (β := Option (Int32 × Hp)) (sI h v0 2 v2) fun (h16 : Hp) =>
  some ((1 : Int32), h16)
set_option maxRecDepth 100000 in
set_option maxHeartbeats 8000000 in
theorem kX10_takeWord_114 {d : Nat} {h : Hp} {v0 : Nat} {v2 : Int32} {r : Int32} {h9 : Hp} (H : MX10_takeWord_114 h v0 v2 = some (r, h9)) : J (d + 4) YX10_takeWord 114 [.ref v0, Value.null, .int v2, Value.null, Value.null] [] h (oI r) h9 := by
  unfold MX10_takeWord_114 at H
  refine J_aload_n 0 dX10_takeWord_114 rfl rfl ?_
  refine J_iload_n 2 dX10_takeWord_115 rfl rfl ?_
  obtain ⟨g15, H⟩ := gd H
  obtain ⟨h16, e17, H⟩ := lt_el H
  refine J_pI 9 2 dX10_takeWord_116 g15 flX10_15 rfl rfl e17 ?_
  have c18 := ekI e17
  have c19 := elI e17
  have c20 := epI e17
  refine J_iconst (1 : Int32) dX10_takeWord_119 kc_1 ?_
  cases H
  exact J_rZ dX10_takeWord_120 rfl rfl
noncomputable def BX10_takeWord_79 (h : Hp) (v0 : Nat) (v1 : Nat) (v2 : Int32) (v4 : Int32) : Option ((Int32) ⊕ (Int32 × Hp)) :=
  if v2 ≤ v4 then
    up1 (MX10_takeWord_114 h v0 v2)
  else
    gg (β := ((Int32) ⊕ (Int32 × Hp))) (kd h v0 = 9) <|
    gg (β := ((Int32) ⊕ (Int32 × Hp))) (kd h (gP h v0 0) = 21) <|
    gg (β := ((Int32) ⊕ (Int32 × Hp))) (inB v4 (ln h (gP h v0 0)) = true) <|
    gg (β := ((Int32) ⊕ (Int32 × Hp))) (Nat.blt v1 21 = true) <|
    gg (β := ((Int32) ⊕ (Int32 × Hp))) (inB (v4 - (gI h v0 2)) (sN v1) = true) <|
    if (gI h (gP h v0 0) v4.toNatClampNeg) = (sAt v1 (v4 - (gI h v0 2))) then
      some (.inl (v4 + (1 : Int32)))
    else
      some (.inr (((0 : Int32), h)))
set_option maxRecDepth 100000 in
set_option maxHeartbeats 8000000 in
theorem bX10_takeWord_79 {d : Nat} {h : Hp} {v0 : Nat} {v1 : Nat} {v2 : Int32} {v4 : Int32} {r : Int32} {h9 : Hp} {x : ((Int32) ⊕ (Int32 × Hp))} (H : BX10_takeWord_79 h v0 v1 v2 v4 = some x) (hb0 : ∀ s : Int32, x = .inl s → J (d + 4) YX10_takeWord 79 [.ref v0, .retAddr v1, .int v2, Value.null, .int s] [] h (oI r) h9) (hx : ∀ z : (Int32 × Hp), x = .inr (z) → z = (r, h9)) : J (d + 4) YX10_takeWord 79 [.ref v0, .retAddr v1, .int v2, Value.null, .int v4] [] h (oI r) h9 := by
  unfold BX10_takeWord_79 at H
  refine J_iload dX10_takeWord_79 rfl ?_
  refine J_iload_n 2 dX10_takeWord_81 rfl rfl ?_
  refine J_icmp_ge 114 dX10_takeWord_82 rfl (fun q14 => ?_) (fun q14 => ?_)
  · replace H := br1 q14 H
    obtain ⟨y0, H90, rfl⟩ := up1_el H
    replace H := H90
    obtain rfl := hx _ rfl
    exact J_dr (kX10_takeWord_114 H ) ⟨rfl, ⟨rfl, trivial⟩⟩
  · replace H := br0 q14 H
    refine J_aload_n 0 dX10_takeWord_85 rfl rfl ?_
    obtain ⟨g21, H⟩ := gd H
    refine J_gP 9 0 dX10_takeWord_86 g21 flX10_32 rfl rfl ?_
    refine J_iload dX10_takeWord_89 rfl ?_
    obtain ⟨g22, H⟩ := gd H
    obtain ⟨g23, H⟩ := gd H
    refine J_bald dX10_takeWord_91 g22 (inB_ok g23) ?_
    refine J_aload_nT 1 dX10_takeWord_92 rfl rfl ?_
    refine J_iload dX10_takeWord_93 rfl ?_
    refine J_aload_n 0 dX10_takeWord_95 rfl rfl ?_
    refine J_getI 9 2 dX10_takeWord_96 g21 flX10_15 rfl ?_
    refine J_isub dX10_takeWord_99 ?_
    obtain ⟨g24, H⟩ := gd H
    obtain ⟨g25, H⟩ := gd H
    refine J_sc dX10_takeWord_100 mlX10_148 g24 g25 rfl ?_
    refine J_icmp_eq 108 dX10_takeWord_103 rfl (fun q26 => ?_) (fun q26 => ?_)
    · replace H := br1 q26 H
      refine J_iinc (v4 + (1 : Int32)) dX10_takeWord_108 rfl (congrArg (HAdd.hAdd v4) kc_1) (by decide) (ls' := [.ref v0, .retAddr v1, .int v2, Value.null, .int (v4 + (1 : Int32))]) rfl ?_
      refine J_goto 79 dX10_takeWord_111 rfl ?_
      cases H
      exact J_dr (hb0 _ rfl) ⟨rfl, ⟨rfl, ⟨rfl, ⟨rfl, trivial⟩⟩⟩⟩
    · replace H := br0 q26 H
      refine J_iconst (0 : Int32) dX10_takeWord_106 kc_0 ?_
      cases H
      cases hx _ rfl
      exact J_rZ dX10_takeWord_107 rfl rfl
noncomputable def MX10_takeWord_79 (h : Hp) (v0 : Nat) (v1 : Nat) (v2 : Int32) (v4 : Int32) : Option (Int32 × Hp) := it (fun q : Int32 => BX10_takeWord_79 h v0 v1 v2 q) (v4)
set_option maxRecDepth 100000 in
set_option maxHeartbeats 8000000 in
theorem kX10_takeWord_79 {d : Nat} {h : Hp} {v0 : Nat} {v1 : Nat} {v2 : Int32} {v4 : Int32} {r : Int32} {h9 : Hp} (H : MX10_takeWord_79 h v0 v1 v2 v4 = some (r, h9)) : J (d + 4) YX10_takeWord 79 [.ref v0, .retAddr v1, .int v2, Value.null, .int v4] [] h (oI r) h9 := by
  unfold MX10_takeWord_79 at H
  refine it_J (G := (fun q : Int32 => J (d + 4) YX10_takeWord 79 [.ref v0, .retAddr v1, .int v2, Value.null, .int q] [] h (oI r) h9)) (Q := (fun y : (Int32 × Hp) => y = (r, h9))) (fun q x Hq hm => ?_) H rfl
  exact bX10_takeWord_79 Hq (fun s hs => by subst hs; exact hm) (fun z hz => by subst hz; exact hm)
noncomputable def MX10_takeWord_58 (h : Hp) (v0 : Nat) (v1 : Nat) (v2 : Int32) (s0 : Int32) : Option (Int32 × Hp) :=
  gg (β := (Int32 × Hp)) (kd h v0 = 9) <|
  if (gI h v0 1) < v2 then
    some ((0 : Int32), h)
  else
    if s0 = 0 then
      MX10_takeWord_79 h v0 v1 v2 (gI h v0 2)
    else
      some ((0 : Int32), h)
set_option maxRecDepth 100000 in
set_option maxHeartbeats 8000000 in
theorem kX10_takeWord_58 {d : Nat} {h : Hp} {v0 : Nat} {v1 : Nat} {v2 : Int32} {s0 : Int32} {r : Int32} {h9 : Hp} (H : MX10_takeWord_58 h v0 v1 v2 s0 = some (r, h9)) : J (d + 4) YX10_takeWord 58 [.ref v0, .retAddr v1, .int v2, Value.null, Value.null] [.int s0] h (oI r) h9 := by
  unfold MX10_takeWord_58 at H
  refine J_istore_n 3 dX10_takeWord_58 rfl (by decide) (ls' := [.ref v0, .retAddr v1, .int v2, .int s0, Value.null]) rfl ?_
  refine J_iload_n 2 dX10_takeWord_59 rfl rfl ?_
  refine J_aload_n 0 dX10_takeWord_60 rfl rfl ?_
  obtain ⟨g11, H⟩ := gd H
  refine J_getI 9 1 dX10_takeWord_61 g11 flX10_9 rfl ?_
  refine J_icmp_gt 71 dX10_takeWord_64 rfl (fun q12 => ?_) (fun q12 => ?_)
  · replace H := br1 q12 H
    refine J_iconst (0 : Int32) dX10_takeWord_71 kc_0 ?_
    cases H
    exact J_rZ dX10_takeWord_72 rfl rfl
  · replace H := br0 q12 H
    refine J_iload_n 3 dX10_takeWord_67 rfl rfl ?_
    refine J_if_eq 73 dX10_takeWord_68 rfl (fun q13 => ?_) (fun q13 => ?_)
    · replace H := br1 q13 H
      refine J_aload_n 0 dX10_takeWord_73 rfl rfl ?_
      refine J_getI 9 2 dX10_takeWord_74 g11 flX10_15 rfl ?_
      refine J_istore dX10_takeWord_77 (by decide) (ls' := [.ref v0, .retAddr v1, .int v2, .int s0, .int (gI h v0 2)]) rfl ?_
      exact J_dr (kX10_takeWord_79 H ) ⟨rfl, ⟨rfl, ⟨rfl, ⟨rfl, trivial⟩⟩⟩⟩
    · replace H := br0 q13 H
      refine J_iconst (0 : Int32) dX10_takeWord_71 kc_0 ?_
      cases H
      exact J_rZ dX10_takeWord_72 rfl rfl
noncomputable def MX10_takeWord_57 (h : Hp) (v0 : Nat) (v1 : Nat) (v2 : Int32) : Option (Int32 × Hp) :=
  MX10_takeWord_58 h v0 v1 v2 (0 : Int32)
set_option maxRecDepth 100000 in
set_option maxHeartbeats 8000000 in
theorem kX10_takeWord_57 {d : Nat} {h : Hp} {v0 : Nat} {v1 : Nat} {v2 : Int32} {r : Int32} {h9 : Hp} (H : MX10_takeWord_57 h v0 v1 v2 = some (r, h9)) : J (d + 4) YX10_takeWord 57 [.ref v0, .retAddr v1, .int v2, Value.null, Value.null] [] h (oI r) h9 := by
  unfold MX10_takeWord_57 at H
  refine J_iconst (0 : Int32) dX10_takeWord_57 kc_0 ?_
  exact J_dr (kX10_takeWord_58 H ) ⟨rfl, ⟨rfl, ⟨rfl, trivial⟩⟩⟩
noncomputable def MX10_takeWord (h : Hp) (v0 : Nat) (v1 : Nat) : Option (Int32 × Hp) :=
  gg (β := (Int32 × Hp)) (kd h v0 = 9) <|
  gg (β := (Int32 × Hp)) (kd h (gP h v0 4) = 20) <|
  gg (β := (Int32 × Hp)) (inB (gI h v0 2) (ln h (gP h v0 4)) = true) <|
  lt (α := Hp) (β := Option (Int32 × Hp)) (sI h v0 2 (gI h (gP h v0 4) (gI h v0 2).toNatClampNeg)) fun (h4 : Hp) =>
  gg (β := (Int32 × Hp)) (Nat.blt v1 21 = true) <|
  if (gI h4 v0 1) ≤ ((gI h4 v0 2) + (sLen v1)) then
    MX10_takeWord_57 h4 v0 v1 ((gI h4 v0 2) + (sLen v1))
  else
    gg (β := (Int32 × Hp)) (kd h (gP h v0 0) = 21) <|
    gg (β := (Int32 × Hp)) (inB ((gI h4 v0 2) + (sLen v1)) (ln h (gP h v0 0)) = true) <|
    if (gI h4 (gP h v0 0) ((gI h4 v0 2) + (sLen v1)).toNatClampNeg) < (97 : Int32) then
      MX10_takeWord_57 h4 v0 v1 ((gI h4 v0 2) + (sLen v1))
    else
      if (122 : Int32) < (gI h4 (gP h v0 0) ((gI h4 v0 2) + (sLen v1)).toNatClampNeg) then
        MX10_takeWord_57 h4 v0 v1 ((gI h4 v0 2) + (sLen v1))
      else
        MX10_takeWord_58 h4 v0 v1 ((gI h4 v0 2) + (sLen v1)) (1 : Int32)
set_option maxRecDepth 100000 in
set_option maxHeartbeats 8000000 in
theorem eX10_takeWord {d : Nat} {h : Hp} {v0 : Nat} {v1 : Nat} {r : Int32} {h9 : Hp} (H : MX10_takeWord h v0 v1 = some (r, h9)) : J (d + 4) YX10_takeWord 0 [.ref v0, .retAddr v1, Value.null, Value.null, Value.null] [] h (oI r) h9 := by
  unfold MX10_takeWord at H
  refine J_aload_n 0 dX10_takeWord_0 rfl rfl ?_
  refine J_aload_n 0 dX10_takeWord_1 rfl rfl ?_
  obtain ⟨g1, H⟩ := gd H
  refine J_gP 9 4 dX10_takeWord_2 g1 flX10_21 rfl rfl ?_
  refine J_aload_n 0 dX10_takeWord_5 rfl rfl ?_
  refine J_getI 9 2 dX10_takeWord_6 g1 flX10_15 rfl ?_
  obtain ⟨g2, H⟩ := gd H
  obtain ⟨g3, H⟩ := gd H
  refine J_iald dX10_takeWord_9 g2 (inB_ok g3) ?_
  obtain ⟨h4, e5, H⟩ := lt_el H
  refine J_pI 9 2 dX10_takeWord_10 g1 flX10_15 rfl rfl e5 ?_
  have c6 := ekI e5
  have c7 := elI e5
  have c8 := epI e5
  refine J_aload_n 0 dX10_takeWord_13 rfl rfl ?_
  refine J_getI 9 2 dX10_takeWord_14 (kq c6 g1) flX10_15 rfl ?_
  refine J_aload_nT 1 dX10_takeWord_17 rfl rfl ?_
  obtain ⟨g9, H⟩ := gd H
  refine J_sl dX10_takeWord_18 mlX10_144 g9 rfl ?_
  refine J_iadd dX10_takeWord_21 ?_
  refine J_istore_n 2 dX10_takeWord_22 rfl (by decide) (ls' := [.ref v0, .retAddr v1, .int ((gI h4 v0 2) + (sLen v1)), Value.null, Value.null]) rfl ?_
  refine J_iload_n 2 dX10_takeWord_23 rfl rfl ?_
  refine J_aload_n 0 dX10_takeWord_24 rfl rfl ?_
  refine J_getI 9 1 dX10_takeWord_25 (kq c6 g1) flX10_9 rfl ?_
  refine J_icmp_ge 57 dX10_takeWord_28 rfl (fun q10 => ?_) (fun q10 => ?_)
  · replace H := br1 q10 H
    exact J_dr (kX10_takeWord_57 H ) ⟨rfl, ⟨rfl, ⟨rfl, trivial⟩⟩⟩
  · replace H := br0 q10 H
    refine J_aload_n 0 dX10_takeWord_31 rfl rfl ?_
    refine J_gP 9 0 dX10_takeWord_32 (kq c6 g1) flX10_32 rfl (congrFun (congrFun c8 v0) 0) ?_
    refine J_iload_n 2 dX10_takeWord_35 rfl rfl ?_
    obtain ⟨g27, H⟩ := gd H
    obtain ⟨g28, H⟩ := gd H
    refine J_bald dX10_takeWord_36 (kq c6 g27) (lq c7 g28) ?_
    refine J_bipush (97 : Int32) dX10_takeWord_37 kb_97 ?_
    refine J_icmp_lt 57 dX10_takeWord_39 rfl (fun q29 => ?_) (fun q29 => ?_)
    · replace H := br1 q29 H
      exact J_dr (kX10_takeWord_57 H ) ⟨rfl, ⟨rfl, ⟨rfl, trivial⟩⟩⟩
    · replace H := br0 q29 H
      refine J_aload_n 0 dX10_takeWord_42 rfl rfl ?_
      refine J_gP 9 0 dX10_takeWord_43 (kq c6 g1) flX10_32 rfl (congrFun (congrFun c8 v0) 0) ?_
      refine J_iload_n 2 dX10_takeWord_46 rfl rfl ?_
      refine J_bald dX10_takeWord_47 (kq c6 g27) (lq c7 g28) ?_
      refine J_bipush (122 : Int32) dX10_takeWord_48 kb_122 ?_
      refine J_icmp_gt 57 dX10_takeWord_50 rfl (fun q30 => ?_) (fun q30 => ?_)
      · replace H := br1 q30 H
        exact J_dr (kX10_takeWord_57 H ) ⟨rfl, ⟨rfl, ⟨rfl, trivial⟩⟩⟩
      · replace H := br0 q30 H
        refine J_iconst (1 : Int32) dX10_takeWord_53 kc_1 ?_
        refine J_goto 58 dX10_takeWord_54 rfl ?_
        exact J_dr (kX10_takeWord_58 H ) ⟨rfl, ⟨rfl, ⟨rfl, trivial⟩⟩⟩
theorem okX10_takeWord {d : Nat} {h : Hp} {v0 : Nat} {v1 : Nat} {r : Int32} {h9 : Hp} (H : MX10_takeWord h v0 v1 = some (r, h9)) : CT (d + 4) YX10_takeWord [.ref v0, .retAddr v1] h (oI r) h9 := CT_of (by decide +kernel) (Nat.le_of_ble_eq_true rfl) (eX10_takeWord H)
noncomputable def MX10_takeFact (h : Hp) (v0 : Nat) : Option (Int32 × Hp) :=
  gg (β := (Int32 × Hp)) (kd h v0 = 9) <|
  b2 (α := Int32) (β := Hp) (γ := (Int32 × Hp)) (MX10_takeWord h v0 8) fun (t4 : Int32) (h3 : Hp) =>
  if t4 = 0 then
    gg (β := (Int32 × Hp)) (kd h3 v0 = 9) <|
    b2 (α := Int32) (β := Hp) (γ := (Int32 × Hp)) (MX10_takeWord h3 v0 10) fun (t9 : Int32) (h8 : Hp) =>
    if t9 = 0 then
      gg (β := (Int32 × Hp)) (kd h8 v0 = 9) <|
      b2 (α := Int32) (β := Hp) (γ := (Int32 × Hp)) (MX10_takeWord h8 v0 4) fun (t14 : Int32) (h13 : Hp) =>
      if t14 = 0 then
        gg (β := (Int32 × Hp)) (kd h13 v0 = 9) <|
        b2 (α := Int32) (β := Hp) (γ := (Int32 × Hp)) (MX10_takeWord h13 v0 20) fun (t19 : Int32) (h18 : Hp) =>
        if t19 = 0 then
          gg (β := (Int32 × Hp)) (kd h18 v0 = 9) <|
          b2 (α := Int32) (β := Hp) (γ := (Int32 × Hp)) (MX10_takeWord h18 v0 2) fun (t24 : Int32) (h23 : Hp) =>
          if t24 = 0 then
            gg (β := (Int32 × Hp)) (kd h23 v0 = 9) <|
            b2 (α := Int32) (β := Hp) (γ := (Int32 × Hp)) (MX10_takeWord h23 v0 5) fun (t29 : Int32) (h28 : Hp) =>
            if t29 = 0 then
              gg (β := (Int32 × Hp)) (kd h28 v0 = 9) <|
              b2 (α := Int32) (β := Hp) (γ := (Int32 × Hp)) (MX10_takeWord h28 v0 14) fun (t34 : Int32) (h33 : Hp) =>
              if t34 = 0 then
                gg (β := (Int32 × Hp)) (kd h33 v0 = 9) <|
                b2 (α := Int32) (β := Hp) (γ := (Int32 × Hp)) (MX10_takeWord h33 v0 11) fun (t39 : Int32) (h38 : Hp) =>
                if t39 = 0 then
                  gg (β := (Int32 × Hp)) (kd h38 v0 = 9) <|
                  b2 (α := Int32) (β := Hp) (γ := (Int32 × Hp)) (MX10_takeWord h38 v0 12) fun (t44 : Int32) (h43 : Hp) =>
                  if t44 = 0 then
                    some ((-1 : Int32), h43)
                  else
                    some ((8 : Int32), h43)
                else
                  some ((7 : Int32), h38)
              else
                some ((6 : Int32), h33)
            else
              some ((5 : Int32), h28)
          else
            some ((4 : Int32), h23)
        else
          some ((3 : Int32), h18)
      else
        some ((2 : Int32), h13)
    else
      some ((1 : Int32), h8)
  else
    some ((0 : Int32), h3)
set_option maxRecDepth 100000 in
set_option maxHeartbeats 8000000 in
theorem eX10_takeFact {d : Nat} {h : Hp} {v0 : Nat} {r : Int32} {h9 : Hp} (H : MX10_takeFact h v0 = some (r, h9)) : J (d + 5) YX10_takeFact 0 [.ref v0] [] h (oI r) h9 := by
  unfold MX10_takeFact at H
  refine J_aload_n 0 dX10_takeFact_0 rfl rfl ?_
  refine J_lS (tx := "head") dX10_takeFact_1 8 (by decide +kernel) ?_
  obtain ⟨g2, H⟩ := gd H
  obtain ⟨t4, h3, e1, H⟩ := b2_el H
  refine J_cV (as := [.retAddr 8]) 9 YX10_takeWord 1 dX10_takeFact_3 moX10_takeWord mvX10_takeWord mlX10_64 g2 rfl rfl (okX10_takeWord (d := d) e1) rfl rfl [] rfl rfl (st2 := [.int t4]) rfl ?_
  refine J_if_eq 11 dX10_takeFact_6 rfl (fun q5 => ?_) (fun q5 => ?_)
  · replace H := br1 q5 H
    refine J_aload_n 0 dX10_takeFact_11 rfl rfl ?_
    refine J_lS (tx := "late") dX10_takeFact_12 10 (by decide +kernel) ?_
    obtain ⟨g7, H⟩ := gd H
    obtain ⟨t9, h8, e6, H⟩ := b2_el H
    refine J_cV (as := [.retAddr 10]) 9 YX10_takeWord 1 dX10_takeFact_14 moX10_takeWord mvX10_takeWord mlX10_64 g7 rfl rfl (okX10_takeWord (d := d) e6) rfl rfl [] rfl rfl (st2 := [.int t9]) rfl ?_
    refine J_if_eq 22 dX10_takeFact_17 rfl (fun q10 => ?_) (fun q10 => ?_)
    · replace H := br1 q10 H
      refine J_aload_n 0 dX10_takeFact_22 rfl rfl ?_
      refine J_lS (tx := "corrected") dX10_takeFact_23 4 (by decide +kernel) ?_
      obtain ⟨g12, H⟩ := gd H
      obtain ⟨t14, h13, e11, H⟩ := b2_el H
      refine J_cV (as := [.retAddr 4]) 9 YX10_takeWord 1 dX10_takeFact_25 moX10_takeWord mvX10_takeWord mlX10_64 g12 rfl rfl (okX10_takeWord (d := d) e11) rfl rfl [] rfl rfl (st2 := [.int t14]) rfl ?_
      refine J_if_eq 33 dX10_takeFact_28 rfl (fun q15 => ?_) (fun q15 => ?_)
      · replace H := br1 q15 H
        refine J_aload_n 0 dX10_takeFact_33 rfl rfl ?_
        refine J_lS (tx := "words") dX10_takeFact_34 20 (by decide +kernel) ?_
        obtain ⟨g17, H⟩ := gd H
        obtain ⟨t19, h18, e16, H⟩ := b2_el H
        refine J_cV (as := [.retAddr 20]) 9 YX10_takeWord 1 dX10_takeFact_36 moX10_takeWord mvX10_takeWord mlX10_64 g17 rfl rfl (okX10_takeWord (d := d) e16) rfl rfl [] rfl rfl (st2 := [.int t19]) rfl ?_
        refine J_if_eq 44 dX10_takeFact_39 rfl (fun q20 => ?_) (fun q20 => ?_)
        · replace H := br1 q20 H
          refine J_aload_n 0 dX10_takeFact_44 rfl rfl ?_
          refine J_lS (tx := "bits") dX10_takeFact_45 2 (by decide +kernel) ?_
          obtain ⟨g22, H⟩ := gd H
          obtain ⟨t24, h23, e21, H⟩ := b2_el H
          refine J_cV (as := [.retAddr 2]) 9 YX10_takeWord 1 dX10_takeFact_47 moX10_takeWord mvX10_takeWord mlX10_64 g22 rfl rfl (okX10_takeWord (d := d) e21) rfl rfl [] rfl rfl (st2 := [.int t24]) rfl ?_
          refine J_if_eq 55 dX10_takeFact_50 rfl (fun q25 => ?_) (fun q25 => ?_)
          · replace H := br1 q25 H
            refine J_aload_n 0 dX10_takeFact_55 rfl rfl ?_
            refine J_lS (tx := "due") dX10_takeFact_56 5 (by decide +kernel) ?_
            obtain ⟨g27, H⟩ := gd H
            obtain ⟨t29, h28, e26, H⟩ := b2_el H
            refine J_cV (as := [.retAddr 5]) 9 YX10_takeWord 1 dX10_takeFact_58 moX10_takeWord mvX10_takeWord mlX10_64 g27 rfl rfl (okX10_takeWord (d := d) e26) rfl rfl [] rfl rfl (st2 := [.int t29]) rfl ?_
            refine J_if_eq 66 dX10_takeFact_61 rfl (fun q30 => ?_) (fun q30 => ?_)
            · replace H := br1 q30 H
              refine J_aload_n 0 dX10_takeFact_66 rfl rfl ?_
              refine J_lS (tx := "minute") dX10_takeFact_67 14 (by decide +kernel) ?_
              obtain ⟨g32, H⟩ := gd H
              obtain ⟨t34, h33, e31, H⟩ := b2_el H
              refine J_cV (as := [.retAddr 14]) 9 YX10_takeWord 1 dX10_takeFact_69 moX10_takeWord mvX10_takeWord mlX10_64 g32 rfl rfl (okX10_takeWord (d := d) e31) rfl rfl [] rfl rfl (st2 := [.int t34]) rfl ?_
              refine J_if_eq 78 dX10_takeFact_72 rfl (fun q35 => ?_) (fun q35 => ?_)
              · replace H := br1 q35 H
                refine J_aload_n 0 dX10_takeFact_78 rfl rfl ?_
                refine J_lS (tx := "letters") dX10_takeFact_79 11 (by decide +kernel) ?_
                obtain ⟨g37, H⟩ := gd H
                obtain ⟨t39, h38, e36, H⟩ := b2_el H
                refine J_cV (as := [.retAddr 11]) 9 YX10_takeWord 1 dX10_takeFact_81 moX10_takeWord mvX10_takeWord mlX10_64 g37 rfl rfl (okX10_takeWord (d := d) e36) rfl rfl [] rfl rfl (st2 := [.int t39]) rfl ?_
                refine J_if_eq 90 dX10_takeFact_84 rfl (fun q40 => ?_) (fun q40 => ?_)
                · replace H := br1 q40 H
                  refine J_aload_n 0 dX10_takeFact_90 rfl rfl ?_
                  refine J_lS (tx := "machine") dX10_takeFact_91 12 (by decide +kernel) ?_
                  obtain ⟨g42, H⟩ := gd H
                  obtain ⟨t44, h43, e41, H⟩ := b2_el H
                  refine J_cV (as := [.retAddr 12]) 9 YX10_takeWord 1 dX10_takeFact_93 moX10_takeWord mvX10_takeWord mlX10_64 g42 rfl rfl (okX10_takeWord (d := d) e41) rfl rfl [] rfl rfl (st2 := [.int t44]) rfl ?_
                  refine J_if_eq 104 dX10_takeFact_96 rfl (fun q45 => ?_) (fun q45 => ?_)
                  · replace H := br1 q45 H
                    refine J_iconst (-1 : Int32) dX10_takeFact_104 kc_m1 ?_
                    cases H
                    exact J_iretI dX10_takeFact_105 rfl
                  · replace H := br0 q45 H
                    refine J_bipush (8 : Int32) dX10_takeFact_99 kb_8 ?_
                    refine J_goto 105 dX10_takeFact_101 rfl ?_
                    cases H
                    exact J_iretI dX10_takeFact_105 rfl
                · replace H := br0 q40 H
                  refine J_bipush (7 : Int32) dX10_takeFact_87 kb_7 ?_
                  cases H
                  exact J_iretI dX10_takeFact_89 rfl
              · replace H := br0 q35 H
                refine J_bipush (6 : Int32) dX10_takeFact_75 kb_6 ?_
                cases H
                exact J_iretI dX10_takeFact_77 rfl
            · replace H := br0 q30 H
              refine J_iconst (5 : Int32) dX10_takeFact_64 kc_5 ?_
              cases H
              exact J_iretI dX10_takeFact_65 rfl
          · replace H := br0 q25 H
            refine J_iconst (4 : Int32) dX10_takeFact_53 kc_4 ?_
            cases H
            exact J_iretI dX10_takeFact_54 rfl
        · replace H := br0 q20 H
          refine J_iconst (3 : Int32) dX10_takeFact_42 kc_3 ?_
          cases H
          exact J_iretI dX10_takeFact_43 rfl
      · replace H := br0 q15 H
        refine J_iconst (2 : Int32) dX10_takeFact_31 kc_2 ?_
        cases H
        exact J_iretI dX10_takeFact_32 rfl
    · replace H := br0 q10 H
      refine J_iconst (1 : Int32) dX10_takeFact_20 kc_1 ?_
      cases H
      exact J_iretI dX10_takeFact_21 rfl
  · replace H := br0 q5 H
    refine J_iconst (0 : Int32) dX10_takeFact_9 kc_0 ?_
    cases H
    exact J_iretI dX10_takeFact_10 rfl
theorem okX10_takeFact {d : Nat} {h : Hp} {v0 : Nat} {r : Int32} {h9 : Hp} (H : MX10_takeFact h v0 = some (r, h9)) : CT (d + 5) YX10_takeFact [.ref v0] h (oI r) h9 := CT_of (by decide +kernel) (Nat.le_of_ble_eq_true rfl) (eX10_takeFact H)
def YgX10_atom (t : Nat) : Mt := if t = 0 then YX10_atom else if t = 1 then YX10_every else YX10_either
noncomputable def MX10_atom_39 (rc : Nat → Hp → Nat → Int32 → Option (Int32 × Hp)) (h : Hp) (v0 : Nat) (v1 : Int32) (v2 : Int32) (v3 : Int32) : Option (Int32 × Hp) :=
  if v1 < (5 : Int32) then
    if v3 = 0 then
      gg (β := (Int32 × Hp)) (kd h v0 = 9) <|
      b2 (α := Int32) (β := Hp) (γ := (Int32 × Hp)) (rc 2 h v0 (v1 + (1 : Int32))) fun (t13 : Int32) (h12 : Hp) =>
      if t13 = 0 then
        some ((0 : Int32), h12)
      else
        gg (β := (Int32 × Hp)) (kd h12 v0 = 9) <|
        b2 (α := Int32) (β := Hp) (γ := (Int32 × Hp)) (MX10_takeSign h12 v0 (41 : Int32)) fun (t18 : Int32) (h17 : Hp) =>
        if t18 = 0 then
          gg (β := (Int32 × Hp)) (kd h17 v0 = 9) <|
          b2 (α := Int32) (β := Hp) (γ := (Int32 × Hp)) (MX10_failHere h17 v0) fun (t23 : Int32) (h22 : Hp) =>
          if t23 = 0 then
            some ((0 : Int32), h22)
          else
            some ((1 : Int32), h22)
        else
          some ((1 : Int32), h17)
    else
      gg (β := (Int32 × Hp)) (kd h v0 = 9) <|
      b2 (α := Int32) (β := Hp) (γ := (Int32 × Hp)) (rc 0 h v0 (v1 + (1 : Int32))) fun (t28 : Int32) (h27 : Hp) =>
      gg (β := (Int32 × Hp)) (kd h27 v0 = 9) <|
      gg (β := (Int32 × Hp)) (kd h27 (gP h27 v0 5) = 8) <|
      Option.bind (α := Hp) (β := (Int32 × Hp)) (MX9_addCode h27 (gP h27 v0 5) (29 : Int32) (0 : Int32)) fun (h32 : Hp) =>
      gg (β := (Int32 × Hp)) (zOk t28 = true) <|
      some (t28, h32)
  else
    gg (β := (Int32 × Hp)) (kd h v0 = 9) <|
    lt (α := Hp) (β := Option (Int32 × Hp)) (sI h v0 2 v2) fun (h35 : Hp) =>
    b2 (α := Int32) (β := Hp) (γ := (Int32 × Hp)) (MX10_failHere h35 v0) fun (t42 : Int32) (h41 : Hp) =>
    gg (β := (Int32 × Hp)) (zOk t42 = true) <|
    some (t42, h41)
set_option maxRecDepth 100000 in
set_option maxHeartbeats 8000000 in
theorem kX10_atom_39 {d u : Nat} {rc : Nat → Hp → Nat → Int32 → Option (Int32 × Hp)} {h : Hp} {v0 : Nat} {v1 : Int32} {v2 : Int32} {v3 : Int32} {r : Int32} {h9 : Hp} (hrc : ∀ (t : Nat) (h : Hp) (a0 : Nat) (a1 : Int32) (r1 : Int32) (h1 : Hp), rc t h a0 a1 = some (r1, h1) → CT (d + u + 5) (YgX10_atom t) [.ref a0, .int a1] h (oI r1) h1) (H : MX10_atom_39 rc h v0 v1 v2 v3 = some (r, h9)) : J (d + u + 5 + 1) YX10_atom 39 [.ref v0, .int v1, .int v2, .int v3, Value.null] [] h (oI r) h9 := by
  unfold MX10_atom_39 at H
  refine J_iload_n 1 dX10_atom_39 rfl rfl ?_
  refine J_iconst (5 : Int32) dX10_atom_40 kc_5 ?_
  refine J_icmp_lt 54 dX10_atom_41 rfl (fun q8 => ?_) (fun q8 => ?_)
  · replace H := br1 q8 H
    refine J_iload_n 3 dX10_atom_54 rfl rfl ?_
    refine J_if_eq 80 dX10_atom_55 rfl (fun q9 => ?_) (fun q9 => ?_)
    · replace H := br1 q9 H
      refine J_aload_n 0 dX10_atom_80 rfl rfl ?_
      refine J_iload_n 1 dX10_atom_81 rfl rfl ?_
      refine J_iconst (1 : Int32) dX10_atom_82 kc_1 ?_
      refine J_iadd dX10_atom_83 ?_
      obtain ⟨g11, H⟩ := gd H
      obtain ⟨t13, h12, e10, H⟩ := b2_el H
      refine J_cV (as := [.int (v1 + (1 : Int32))]) 9 YX10_either 1 dX10_atom_84 moX10_either mvX10_either mlX10_74 g11 rfl rfl (hrc 2 _ _ _ _ _ e10) rfl rfl [] rfl rfl (st2 := [.int t13]) rfl ?_
      refine J_if_eq 110 dX10_atom_87 rfl (fun q14 => ?_) (fun q14 => ?_)
      · replace H := br1 q14 H
        refine J_iconst (0 : Int32) dX10_atom_110 kc_0 ?_
        cases H
        exact J_rZ dX10_atom_111 rfl rfl
      · replace H := br0 q14 H
        refine J_aload_n 0 dX10_atom_90 rfl rfl ?_
        refine J_bipush (41 : Int32) dX10_atom_91 kb_41 ?_
        obtain ⟨g16, H⟩ := gd H
        obtain ⟨t18, h17, e15, H⟩ := b2_el H
        refine J_cV (as := [.int (41 : Int32)]) 9 YX10_takeSign 1 dX10_atom_93 moX10_takeSign mvX10_takeSign mlX10_55 g16 rfl rfl (okX10_takeSign (d := d + u + 5) e15) rfl rfl [] rfl rfl (st2 := [.int t18]) rfl ?_
        refine J_if_ne 106 dX10_atom_96 rfl (fun q19 => ?_) (fun q19 => ?_)
        · replace H := br0 q19 H
          refine J_iconst (1 : Int32) dX10_atom_106 kc_1 ?_
          refine J_goto 111 dX10_atom_107 rfl ?_
          cases H
          exact J_rZ dX10_atom_111 rfl rfl
        · replace H := br1 q19 H
          refine J_aload_n 0 dX10_atom_99 rfl rfl ?_
          obtain ⟨g21, H⟩ := gd H
          obtain ⟨t23, h22, e20, H⟩ := b2_el H
          refine J_cV (as := []) 9 YX10_failHere 0 dX10_atom_100 moX10_failHere mvX10_failHere mlX10_59 g21 rfl rfl (okX10_failHere (d := d + u + 5) e20) rfl rfl [] rfl rfl (st2 := [.int t23]) rfl ?_
          refine J_if_eq 110 dX10_atom_103 rfl (fun q24 => ?_) (fun q24 => ?_)
          · replace H := br1 q24 H
            refine J_iconst (0 : Int32) dX10_atom_110 kc_0 ?_
            cases H
            exact J_rZ dX10_atom_111 rfl rfl
          · replace H := br0 q24 H
            refine J_iconst (1 : Int32) dX10_atom_106 kc_1 ?_
            refine J_goto 111 dX10_atom_107 rfl ?_
            cases H
            exact J_rZ dX10_atom_111 rfl rfl
    · replace H := br0 q9 H
      refine J_aload_n 0 dX10_atom_58 rfl rfl ?_
      refine J_iload_n 1 dX10_atom_59 rfl rfl ?_
      refine J_iconst (1 : Int32) dX10_atom_60 kc_1 ?_
      refine J_iadd dX10_atom_61 ?_
      obtain ⟨g26, H⟩ := gd H
      obtain ⟨t28, h27, e25, H⟩ := b2_el H
      refine J_cV (as := [.int (v1 + (1 : Int32))]) 9 YX10_atom 1 dX10_atom_62 moX10_atom mvX10_atom mlX10_112 g26 rfl rfl (hrc 0 _ _ _ _ _ e25) rfl rfl [] rfl rfl (st2 := [.int t28]) rfl ?_
      refine J_istore dX10_atom_65 (by decide) (ls' := [.ref v0, .int v1, .int v2, .int v3, .int t28]) rfl ?_
      refine J_aload_n 0 dX10_atom_67 rfl rfl ?_
      obtain ⟨g29, H⟩ := gd H
      refine J_gP 9 5 dX10_atom_68 g29 flX10_28 rfl rfl ?_
      refine J_bipush (29 : Int32) dX10_atom_71 kb_29 ?_
      refine J_iconst (0 : Int32) dX10_atom_73 kc_0 ?_
      obtain ⟨g31, H⟩ := gd H
      obtain ⟨h32, e30, H⟩ := bd H
      refine J_cV (as := [.int (29 : Int32), .int (0 : Int32)]) 8 YX9_addCode 2 dX10_atom_74 moX9_addCode mvX9_addCode mlX10_108 g31 rfl rfl (okX9_addCode (d := d + u + 5) e30) rfl rfl [] rfl rfl (st2 := []) rfl ?_
      refine J_iload dX10_atom_77 rfl ?_
      obtain ⟨g33, H⟩ := gd H
      cases H
      exact J_rZ dX10_atom_79 rfl g33
  · replace H := br0 q8 H
    refine J_aload_n 0 dX10_atom_44 rfl rfl ?_
    refine J_iload_n 2 dX10_atom_45 rfl rfl ?_
    obtain ⟨g34, H⟩ := gd H
    obtain ⟨h35, e36, H⟩ := lt_el H
    refine J_pI 9 2 dX10_atom_46 g34 flX10_15 rfl rfl e36 ?_
    have c37 := ekI e36
    have c38 := elI e36
    have c39 := epI e36
    refine J_aload_n 0 dX10_atom_49 rfl rfl ?_
    obtain ⟨t42, h41, e40, H⟩ := b2_el H
    refine J_cV (as := []) 9 YX10_failHere 0 dX10_atom_50 moX10_failHere mvX10_failHere mlX10_59 (kq c37 g34) rfl rfl (okX10_failHere (d := d + u + 5) e40) rfl rfl [] rfl rfl (st2 := [.int t42]) rfl ?_
    obtain ⟨g43, H⟩ := gd H
    cases H
    exact J_rZ dX10_atom_53 rfl g43
noncomputable def BX10_atom (rc : Nat → Hp → Nat → Int32 → Option (Int32 × Hp)) (h : Hp) (v0 : Nat) (v1 : Int32) : Option (Int32 × Hp) :=
  gg (β := (Int32 × Hp)) (kd h v0 = 9) <|
  gg (β := (Int32 × Hp)) (kd h (gP h v0 4) = 20) <|
  gg (β := (Int32 × Hp)) (inB (gI h v0 2) (ln h (gP h v0 4)) = true) <|
  b2 (α := Int32) (β := Hp) (γ := (Int32 × Hp)) (MX10_takeWord h v0 15) fun (t6 : Int32) (h5 : Hp) =>
  if t6 = 0 then
    gg (β := (Int32 × Hp)) (kd h5 v0 = 9) <|
    b2 (α := Int32) (β := Hp) (γ := (Int32 × Hp)) (MX10_takeSign h5 v0 (40 : Int32)) fun (t47 : Int32) (h46 : Hp) =>
    if t47 = 0 then
      gg (β := (Int32 × Hp)) (kd h46 v0 = 9) <|
      b2 (α := Int32) (β := Hp) (γ := (Int32 × Hp)) (MX10_takeFact h46 v0) fun (t52 : Int32) (h51 : Hp) =>
      gg (β := (Int32 × Hp)) (kd h51 v0 = 9) <|
      b2 (α := Int32) (β := Hp) (γ := (Int32 × Hp)) (MX10_tagOrComparison h51 v0 t52) fun (t56 : Int32) (h55 : Hp) =>
      gg (β := (Int32 × Hp)) (zOk t56 = true) <|
      some (t56, h55)
    else
      MX10_atom_39 rc h46 v0 v1 (gI h (gP h v0 4) (gI h v0 2).toNatClampNeg) t6
  else
    MX10_atom_39 rc h5 v0 v1 (gI h (gP h v0 4) (gI h v0 2).toNatClampNeg) t6
set_option maxRecDepth 100000 in
set_option maxHeartbeats 8000000 in
theorem eX10_atom {d u : Nat} {rc : Nat → Hp → Nat → Int32 → Option (Int32 × Hp)} {h : Hp} {v0 : Nat} {v1 : Int32} {r : Int32} {h9 : Hp} (hrc : ∀ (t : Nat) (h : Hp) (a0 : Nat) (a1 : Int32) (r1 : Int32) (h1 : Hp), rc t h a0 a1 = some (r1, h1) → CT (d + u + 5) (YgX10_atom t) [.ref a0, .int a1] h (oI r1) h1) (H : BX10_atom rc h v0 v1 = some (r, h9)) : J (d + u + 5 + 1) YX10_atom 0 [.ref v0, .int v1, Value.null, Value.null, Value.null] [] h (oI r) h9 := by
  unfold BX10_atom at H
  refine J_aload_n 0 dX10_atom_0 rfl rfl ?_
  obtain ⟨g1, H⟩ := gd H
  refine J_gP 9 4 dX10_atom_1 g1 flX10_21 rfl rfl ?_
  refine J_aload_n 0 dX10_atom_4 rfl rfl ?_
  refine J_getI 9 2 dX10_atom_5 g1 flX10_15 rfl ?_
  obtain ⟨g2, H⟩ := gd H
  obtain ⟨g3, H⟩ := gd H
  refine J_iald dX10_atom_8 g2 (inB_ok g3) ?_
  refine J_istore_n 2 dX10_atom_9 rfl (by decide) (ls' := [.ref v0, .int v1, .int (gI h (gP h v0 4) (gI h v0 2).toNatClampNeg), Value.null, Value.null]) rfl ?_
  refine J_aload_n 0 dX10_atom_10 rfl rfl ?_
  refine J_lS (tx := "not") dX10_atom_11 15 (by decide +kernel) ?_
  obtain ⟨t6, h5, e4, H⟩ := b2_el H
  refine J_cV (as := [.retAddr 15]) 9 YX10_takeWord 1 dX10_atom_13 moX10_takeWord mvX10_takeWord mlX10_64 g1 rfl rfl (okX10_takeWord (d := d + u + 1) e4) rfl rfl [] rfl rfl (st2 := [.int t6]) rfl ?_
  refine J_istore_n 3 dX10_atom_16 rfl (by decide) (ls' := [.ref v0, .int v1, .int (gI h (gP h v0 4) (gI h v0 2).toNatClampNeg), .int t6, Value.null]) rfl ?_
  refine J_iload_n 3 dX10_atom_17 rfl rfl ?_
  refine J_if_ne 39 dX10_atom_18 rfl (fun q7 => ?_) (fun q7 => ?_)
  · replace H := br0 q7 H
    exact J_dr (kX10_atom_39 hrc H ) ⟨rfl, ⟨rfl, ⟨rfl, ⟨rfl, trivial⟩⟩⟩⟩
  · replace H := br1 q7 H
    refine J_aload_n 0 dX10_atom_21 rfl rfl ?_
    refine J_bipush (40 : Int32) dX10_atom_22 kb_40 ?_
    obtain ⟨g45, H⟩ := gd H
    obtain ⟨t47, h46, e44, H⟩ := b2_el H
    refine J_cV (as := [.int (40 : Int32)]) 9 YX10_takeSign 1 dX10_atom_24 moX10_takeSign mvX10_takeSign mlX10_55 g45 rfl rfl (okX10_takeSign (d := d + u + 5) e44) rfl rfl [] rfl rfl (st2 := [.int t47]) rfl ?_
    refine J_if_ne 39 dX10_atom_27 rfl (fun q48 => ?_) (fun q48 => ?_)
    · replace H := br0 q48 H
      exact J_dr (kX10_atom_39 hrc H ) ⟨rfl, ⟨rfl, ⟨rfl, ⟨rfl, trivial⟩⟩⟩⟩
    · replace H := br1 q48 H
      refine J_aload_n 0 dX10_atom_30 rfl rfl ?_
      refine J_aload_n 0 dX10_atom_31 rfl rfl ?_
      obtain ⟨g50, H⟩ := gd H
      obtain ⟨t52, h51, e49, H⟩ := b2_el H
      refine J_cV (as := []) 9 YX10_takeFact 0 dX10_atom_32 moX10_takeFact mvX10_takeFact mlX10_119 g50 rfl rfl (okX10_takeFact (d := d + u) e49) rfl rfl [.ref v0] rfl rfl (st2 := [.int t52, .ref v0]) rfl ?_
      obtain ⟨g54, H⟩ := gd H
      obtain ⟨t56, h55, e53, H⟩ := b2_el H
      refine J_cV (as := [.int t52]) 9 YX10_tagOrComparison 1 dX10_atom_35 moX10_tagOrComparison mvX10_tagOrComparison mlX10_123 g54 rfl rfl (okX10_tagOrComparison (d := d + u + 4) e53) rfl rfl [] rfl rfl (st2 := [.int t56]) rfl ?_
      obtain ⟨g57, H⟩ := gd H
      cases H
      exact J_rZ dX10_atom_38 rfl g57
noncomputable def BX10_every_12 (rc : Nat → Hp → Nat → Int32 → Option (Int32 × Hp)) (h : Hp) (v0 : Nat) (v1 : Int32) (v2 : Int32) : Option ((Int32 × Hp) ⊕ (Int32 × Hp)) :=
  gg (β := ((Int32 × Hp) ⊕ (Int32 × Hp))) (kd h v0 = 9) <|
  if (gI h v0 1) ≤ v2 then
    some (.inr (((1 : Int32), h)))
  else
    b2 (α := Int32) (β := Hp) (γ := ((Int32 × Hp) ⊕ (Int32 × Hp))) (MX10_takeWord h v0 0) fun (t10 : Int32) (h9 : Hp) =>
    if t10 = 0 then
      some (.inr (((1 : Int32), h9)))
    else
      gg (β := ((Int32 × Hp) ⊕ (Int32 × Hp))) (kd h9 v0 = 9) <|
      b2 (α := Int32) (β := Hp) (γ := ((Int32 × Hp) ⊕ (Int32 × Hp))) (rc 0 h9 v0 v1) fun (t15 : Int32) (h14 : Hp) =>
      if t15 = 0 then
        some (.inr (((0 : Int32), h14)))
      else
        gg (β := ((Int32 × Hp) ⊕ (Int32 × Hp))) (kd h14 v0 = 9) <|
        gg (β := ((Int32 × Hp) ⊕ (Int32 × Hp))) (kd h14 (gP h14 v0 5) = 8) <|
        Option.bind (α := Hp) (β := ((Int32 × Hp) ⊕ (Int32 × Hp))) (MX9_addCode h14 (gP h14 v0 5) (27 : Int32) (0 : Int32)) fun (h20 : Hp) =>
        some (.inl ((v2 + (1 : Int32)), h20))
set_option maxRecDepth 100000 in
set_option maxHeartbeats 8000000 in
theorem bX10_every_12 {d u : Nat} {rc : Nat → Hp → Nat → Int32 → Option (Int32 × Hp)} {h : Hp} {v0 : Nat} {v1 : Int32} {v2 : Int32} {r : Int32} {h9 : Hp} {x : ((Int32 × Hp) ⊕ (Int32 × Hp))} (hrc : ∀ (t : Nat) (h : Hp) (a0 : Nat) (a1 : Int32) (r1 : Int32) (h1 : Hp), rc t h a0 a1 = some (r1, h1) → CT (d + u + 5) (YgX10_atom t) [.ref a0, .int a1] h (oI r1) h1) (H : BX10_every_12 rc h v0 v1 v2 = some x) (hb0 : ∀ s : Int32 × Hp, x = .inl s → J (d + u + 5 + 1) YX10_every 12 [.ref v0, .int v1, .int s.1] [] s.2 (oI r) h9) (hx : ∀ z : (Int32 × Hp), x = .inr (z) → z = (r, h9)) : J (d + u + 5 + 1) YX10_every 12 [.ref v0, .int v1, .int v2] [] h (oI r) h9 := by
  unfold BX10_every_12 at H
  refine J_iload_n 2 dX10_every_12 rfl rfl ?_
  refine J_aload_n 0 dX10_every_13 rfl rfl ?_
  obtain ⟨g6, H⟩ := gd H
  refine J_getI 9 1 dX10_every_14 g6 flX10_9 rfl ?_
  refine J_icmp_ge 55 dX10_every_17 rfl (fun q7 => ?_) (fun q7 => ?_)
  · replace H := br1 q7 H
    refine J_iconst (1 : Int32) dX10_every_55 kc_1 ?_
    cases H
    cases hx _ rfl
    exact J_rZ dX10_every_56 rfl rfl
  · replace H := br0 q7 H
    refine J_aload_n 0 dX10_every_20 rfl rfl ?_
    refine J_lS (tx := "and") dX10_every_21 0 (by decide +kernel) ?_
    obtain ⟨t10, h9, e8, H⟩ := b2_el H
    refine J_cV (as := [.retAddr 0]) 9 YX10_takeWord 1 dX10_every_23 moX10_takeWord mvX10_takeWord mlX10_64 g6 rfl rfl (okX10_takeWord (d := d + u + 1) e8) rfl rfl [] rfl rfl (st2 := [.int t10]) rfl ?_
    refine J_if_eq 55 dX10_every_26 rfl (fun q11 => ?_) (fun q11 => ?_)
    · replace H := br1 q11 H
      refine J_iconst (1 : Int32) dX10_every_55 kc_1 ?_
      cases H
      cases hx _ rfl
      exact J_rZ dX10_every_56 rfl rfl
    · replace H := br0 q11 H
      refine J_aload_n 0 dX10_every_29 rfl rfl ?_
      refine J_iload_n 1 dX10_every_30 rfl rfl ?_
      obtain ⟨g13, H⟩ := gd H
      obtain ⟨t15, h14, e12, H⟩ := b2_el H
      refine J_cV (as := [.int v1]) 9 YX10_atom 1 dX10_every_31 moX10_atom mvX10_atom mlX10_112 g13 rfl rfl (hrc 0 _ _ _ _ _ e12) rfl rfl [] rfl rfl (st2 := [.int t15]) rfl ?_
      refine J_if_ne 39 dX10_every_34 rfl (fun q16 => ?_) (fun q16 => ?_)
      · replace H := br0 q16 H
        refine J_aload_n 0 dX10_every_39 rfl rfl ?_
        obtain ⟨g17, H⟩ := gd H
        refine J_gP 9 5 dX10_every_40 g17 flX10_28 rfl rfl ?_
        refine J_bipush (27 : Int32) dX10_every_43 kb_27 ?_
        refine J_iconst (0 : Int32) dX10_every_45 kc_0 ?_
        obtain ⟨g19, H⟩ := gd H
        obtain ⟨h20, e18, H⟩ := bd H
        refine J_cV (as := [.int (27 : Int32), .int (0 : Int32)]) 8 YX9_addCode 2 dX10_every_46 moX9_addCode mvX9_addCode mlX10_108 g19 rfl rfl (okX9_addCode (d := d + u + 5) e18) rfl rfl [] rfl rfl (st2 := []) rfl ?_
        refine J_iinc (v2 + (1 : Int32)) dX10_every_49 rfl (congrArg (HAdd.hAdd v2) kc_1) (by decide) (ls' := [.ref v0, .int v1, .int (v2 + (1 : Int32))]) rfl ?_
        refine J_goto 12 dX10_every_52 rfl ?_
        cases H
        exact J_dr (hb0 _ rfl) ⟨rfl, ⟨rfl, ⟨rfl, trivial⟩⟩⟩
      · replace H := br1 q16 H
        refine J_iconst (0 : Int32) dX10_every_37 kc_0 ?_
        cases H
        cases hx _ rfl
        exact J_rZ dX10_every_38 rfl rfl
noncomputable def MX10_every_12 (rc : Nat → Hp → Nat → Int32 → Option (Int32 × Hp)) (h : Hp) (v0 : Nat) (v1 : Int32) (v2 : Int32) : Option (Int32 × Hp) := it (fun q : Int32 × Hp => BX10_every_12 rc q.2 v0 v1 q.1) (v2, h)
set_option maxRecDepth 100000 in
set_option maxHeartbeats 8000000 in
theorem kX10_every_12 {d u : Nat} {rc : Nat → Hp → Nat → Int32 → Option (Int32 × Hp)} {h : Hp} {v0 : Nat} {v1 : Int32} {v2 : Int32} {r : Int32} {h9 : Hp} (hrc : ∀ (t : Nat) (h : Hp) (a0 : Nat) (a1 : Int32) (r1 : Int32) (h1 : Hp), rc t h a0 a1 = some (r1, h1) → CT (d + u + 5) (YgX10_atom t) [.ref a0, .int a1] h (oI r1) h1) (H : MX10_every_12 rc h v0 v1 v2 = some (r, h9)) : J (d + u + 5 + 1) YX10_every 12 [.ref v0, .int v1, .int v2] [] h (oI r) h9 := by
  unfold MX10_every_12 at H
  refine it_J (G := (fun q : Int32 × Hp => J (d + u + 5 + 1) YX10_every 12 [.ref v0, .int v1, .int q.1] [] q.2 (oI r) h9)) (Q := (fun y : (Int32 × Hp) => y = (r, h9))) (fun q x Hq hm => ?_) H rfl
  exact bX10_every_12 hrc Hq (fun s hs => by subst hs; exact hm) (fun z hz => by subst hz; exact hm)
noncomputable def BX10_every (rc : Nat → Hp → Nat → Int32 → Option (Int32 × Hp)) (h : Hp) (v0 : Nat) (v1 : Int32) : Option (Int32 × Hp) :=
  gg (β := (Int32 × Hp)) (kd h v0 = 9) <|
  b2 (α := Int32) (β := Hp) (γ := (Int32 × Hp)) (rc 0 h v0 v1) fun (t4 : Int32) (h3 : Hp) =>
  if t4 = 0 then
    some ((0 : Int32), h3)
  else
    MX10_every_12 rc h3 v0 v1 (0 : Int32)
set_option maxRecDepth 100000 in
set_option maxHeartbeats 8000000 in
theorem eX10_every {d u : Nat} {rc : Nat → Hp → Nat → Int32 → Option (Int32 × Hp)} {h : Hp} {v0 : Nat} {v1 : Int32} {r : Int32} {h9 : Hp} (hrc : ∀ (t : Nat) (h : Hp) (a0 : Nat) (a1 : Int32) (r1 : Int32) (h1 : Hp), rc t h a0 a1 = some (r1, h1) → CT (d + u + 5) (YgX10_atom t) [.ref a0, .int a1] h (oI r1) h1) (H : BX10_every rc h v0 v1 = some (r, h9)) : J (d + u + 5 + 1) YX10_every 0 [.ref v0, .int v1, Value.null] [] h (oI r) h9 := by
  unfold BX10_every at H
  refine J_aload_n 0 dX10_every_0 rfl rfl ?_
  refine J_iload_n 1 dX10_every_1 rfl rfl ?_
  obtain ⟨g2, H⟩ := gd H
  obtain ⟨t4, h3, e1, H⟩ := b2_el H
  refine J_cV (as := [.int v1]) 9 YX10_atom 1 dX10_every_2 moX10_atom mvX10_atom mlX10_112 g2 rfl rfl (hrc 0 _ _ _ _ _ e1) rfl rfl [] rfl rfl (st2 := [.int t4]) rfl ?_
  refine J_if_ne 10 dX10_every_5 rfl (fun q5 => ?_) (fun q5 => ?_)
  · replace H := br0 q5 H
    refine J_iconst (0 : Int32) dX10_every_10 kc_0 ?_
    refine J_istore_n 2 dX10_every_11 rfl (by decide) (ls' := [.ref v0, .int v1, .int (0 : Int32)]) rfl ?_
    exact J_dr (kX10_every_12 hrc H ) ⟨rfl, ⟨rfl, ⟨rfl, trivial⟩⟩⟩
  · replace H := br1 q5 H
    refine J_iconst (0 : Int32) dX10_every_8 kc_0 ?_
    cases H
    exact J_rZ dX10_every_9 rfl rfl
noncomputable def BX10_either_12 (rc : Nat → Hp → Nat → Int32 → Option (Int32 × Hp)) (h : Hp) (v0 : Nat) (v1 : Int32) (v2 : Int32) : Option ((Int32 × Hp) ⊕ (Int32 × Hp)) :=
  gg (β := ((Int32 × Hp) ⊕ (Int32 × Hp))) (kd h v0 = 9) <|
  if (gI h v0 1) ≤ v2 then
    some (.inr (((1 : Int32), h)))
  else
    b2 (α := Int32) (β := Hp) (γ := ((Int32 × Hp) ⊕ (Int32 × Hp))) (MX10_takeWord h v0 16) fun (t10 : Int32) (h9 : Hp) =>
    if t10 = 0 then
      some (.inr (((1 : Int32), h9)))
    else
      gg (β := ((Int32 × Hp) ⊕ (Int32 × Hp))) (kd h9 v0 = 9) <|
      b2 (α := Int32) (β := Hp) (γ := ((Int32 × Hp) ⊕ (Int32 × Hp))) (rc 1 h9 v0 v1) fun (t15 : Int32) (h14 : Hp) =>
      if t15 = 0 then
        some (.inr (((0 : Int32), h14)))
      else
        gg (β := ((Int32 × Hp) ⊕ (Int32 × Hp))) (kd h14 v0 = 9) <|
        gg (β := ((Int32 × Hp) ⊕ (Int32 × Hp))) (kd h14 (gP h14 v0 5) = 8) <|
        Option.bind (α := Hp) (β := ((Int32 × Hp) ⊕ (Int32 × Hp))) (MX9_addCode h14 (gP h14 v0 5) (28 : Int32) (0 : Int32)) fun (h20 : Hp) =>
        some (.inl ((v2 + (1 : Int32)), h20))
set_option maxRecDepth 100000 in
set_option maxHeartbeats 8000000 in
theorem bX10_either_12 {d u : Nat} {rc : Nat → Hp → Nat → Int32 → Option (Int32 × Hp)} {h : Hp} {v0 : Nat} {v1 : Int32} {v2 : Int32} {r : Int32} {h9 : Hp} {x : ((Int32 × Hp) ⊕ (Int32 × Hp))} (hrc : ∀ (t : Nat) (h : Hp) (a0 : Nat) (a1 : Int32) (r1 : Int32) (h1 : Hp), rc t h a0 a1 = some (r1, h1) → CT (d + u + 5) (YgX10_atom t) [.ref a0, .int a1] h (oI r1) h1) (H : BX10_either_12 rc h v0 v1 v2 = some x) (hb0 : ∀ s : Int32 × Hp, x = .inl s → J (d + u + 5 + 1) YX10_either 12 [.ref v0, .int v1, .int s.1] [] s.2 (oI r) h9) (hx : ∀ z : (Int32 × Hp), x = .inr (z) → z = (r, h9)) : J (d + u + 5 + 1) YX10_either 12 [.ref v0, .int v1, .int v2] [] h (oI r) h9 := by
  unfold BX10_either_12 at H
  refine J_iload_n 2 dX10_either_12 rfl rfl ?_
  refine J_aload_n 0 dX10_either_13 rfl rfl ?_
  obtain ⟨g6, H⟩ := gd H
  refine J_getI 9 1 dX10_either_14 g6 flX10_9 rfl ?_
  refine J_icmp_ge 55 dX10_either_17 rfl (fun q7 => ?_) (fun q7 => ?_)
  · replace H := br1 q7 H
    refine J_iconst (1 : Int32) dX10_either_55 kc_1 ?_
    cases H
    cases hx _ rfl
    exact J_rZ dX10_either_56 rfl rfl
  · replace H := br0 q7 H
    refine J_aload_n 0 dX10_either_20 rfl rfl ?_
    refine J_lS (tx := "or") dX10_either_21 16 (by decide +kernel) ?_
    obtain ⟨t10, h9, e8, H⟩ := b2_el H
    refine J_cV (as := [.retAddr 16]) 9 YX10_takeWord 1 dX10_either_23 moX10_takeWord mvX10_takeWord mlX10_64 g6 rfl rfl (okX10_takeWord (d := d + u + 1) e8) rfl rfl [] rfl rfl (st2 := [.int t10]) rfl ?_
    refine J_if_eq 55 dX10_either_26 rfl (fun q11 => ?_) (fun q11 => ?_)
    · replace H := br1 q11 H
      refine J_iconst (1 : Int32) dX10_either_55 kc_1 ?_
      cases H
      cases hx _ rfl
      exact J_rZ dX10_either_56 rfl rfl
    · replace H := br0 q11 H
      refine J_aload_n 0 dX10_either_29 rfl rfl ?_
      refine J_iload_n 1 dX10_either_30 rfl rfl ?_
      obtain ⟨g13, H⟩ := gd H
      obtain ⟨t15, h14, e12, H⟩ := b2_el H
      refine J_cV (as := [.int v1]) 9 YX10_every 1 dX10_either_31 moX10_every mvX10_every mlX10_103 g13 rfl rfl (hrc 1 _ _ _ _ _ e12) rfl rfl [] rfl rfl (st2 := [.int t15]) rfl ?_
      refine J_if_ne 39 dX10_either_34 rfl (fun q16 => ?_) (fun q16 => ?_)
      · replace H := br0 q16 H
        refine J_aload_n 0 dX10_either_39 rfl rfl ?_
        obtain ⟨g17, H⟩ := gd H
        refine J_gP 9 5 dX10_either_40 g17 flX10_28 rfl rfl ?_
        refine J_bipush (28 : Int32) dX10_either_43 kb_28 ?_
        refine J_iconst (0 : Int32) dX10_either_45 kc_0 ?_
        obtain ⟨g19, H⟩ := gd H
        obtain ⟨h20, e18, H⟩ := bd H
        refine J_cV (as := [.int (28 : Int32), .int (0 : Int32)]) 8 YX9_addCode 2 dX10_either_46 moX9_addCode mvX9_addCode mlX10_108 g19 rfl rfl (okX9_addCode (d := d + u + 5) e18) rfl rfl [] rfl rfl (st2 := []) rfl ?_
        refine J_iinc (v2 + (1 : Int32)) dX10_either_49 rfl (congrArg (HAdd.hAdd v2) kc_1) (by decide) (ls' := [.ref v0, .int v1, .int (v2 + (1 : Int32))]) rfl ?_
        refine J_goto 12 dX10_either_52 rfl ?_
        cases H
        exact J_dr (hb0 _ rfl) ⟨rfl, ⟨rfl, ⟨rfl, trivial⟩⟩⟩
      · replace H := br1 q16 H
        refine J_iconst (0 : Int32) dX10_either_37 kc_0 ?_
        cases H
        cases hx _ rfl
        exact J_rZ dX10_either_38 rfl rfl
noncomputable def MX10_either_12 (rc : Nat → Hp → Nat → Int32 → Option (Int32 × Hp)) (h : Hp) (v0 : Nat) (v1 : Int32) (v2 : Int32) : Option (Int32 × Hp) := it (fun q : Int32 × Hp => BX10_either_12 rc q.2 v0 v1 q.1) (v2, h)
set_option maxRecDepth 100000 in
set_option maxHeartbeats 8000000 in
theorem kX10_either_12 {d u : Nat} {rc : Nat → Hp → Nat → Int32 → Option (Int32 × Hp)} {h : Hp} {v0 : Nat} {v1 : Int32} {v2 : Int32} {r : Int32} {h9 : Hp} (hrc : ∀ (t : Nat) (h : Hp) (a0 : Nat) (a1 : Int32) (r1 : Int32) (h1 : Hp), rc t h a0 a1 = some (r1, h1) → CT (d + u + 5) (YgX10_atom t) [.ref a0, .int a1] h (oI r1) h1) (H : MX10_either_12 rc h v0 v1 v2 = some (r, h9)) : J (d + u + 5 + 1) YX10_either 12 [.ref v0, .int v1, .int v2] [] h (oI r) h9 := by
  unfold MX10_either_12 at H
  refine it_J (G := (fun q : Int32 × Hp => J (d + u + 5 + 1) YX10_either 12 [.ref v0, .int v1, .int q.1] [] q.2 (oI r) h9)) (Q := (fun y : (Int32 × Hp) => y = (r, h9))) (fun q x Hq hm => ?_) H rfl
  exact bX10_either_12 hrc Hq (fun s hs => by subst hs; exact hm) (fun z hz => by subst hz; exact hm)
noncomputable def BX10_either (rc : Nat → Hp → Nat → Int32 → Option (Int32 × Hp)) (h : Hp) (v0 : Nat) (v1 : Int32) : Option (Int32 × Hp) :=
  gg (β := (Int32 × Hp)) (kd h v0 = 9) <|
  b2 (α := Int32) (β := Hp) (γ := (Int32 × Hp)) (rc 1 h v0 v1) fun (t4 : Int32) (h3 : Hp) =>
  if t4 = 0 then
    some ((0 : Int32), h3)
  else
    MX10_either_12 rc h3 v0 v1 (0 : Int32)
set_option maxRecDepth 100000 in
set_option maxHeartbeats 8000000 in
theorem eX10_either {d u : Nat} {rc : Nat → Hp → Nat → Int32 → Option (Int32 × Hp)} {h : Hp} {v0 : Nat} {v1 : Int32} {r : Int32} {h9 : Hp} (hrc : ∀ (t : Nat) (h : Hp) (a0 : Nat) (a1 : Int32) (r1 : Int32) (h1 : Hp), rc t h a0 a1 = some (r1, h1) → CT (d + u + 5) (YgX10_atom t) [.ref a0, .int a1] h (oI r1) h1) (H : BX10_either rc h v0 v1 = some (r, h9)) : J (d + u + 5 + 1) YX10_either 0 [.ref v0, .int v1, Value.null] [] h (oI r) h9 := by
  unfold BX10_either at H
  refine J_aload_n 0 dX10_either_0 rfl rfl ?_
  refine J_iload_n 1 dX10_either_1 rfl rfl ?_
  obtain ⟨g2, H⟩ := gd H
  obtain ⟨t4, h3, e1, H⟩ := b2_el H
  refine J_cV (as := [.int v1]) 9 YX10_every 1 dX10_either_2 moX10_every mvX10_every mlX10_103 g2 rfl rfl (hrc 1 _ _ _ _ _ e1) rfl rfl [] rfl rfl (st2 := [.int t4]) rfl ?_
  refine J_if_ne 10 dX10_either_5 rfl (fun q5 => ?_) (fun q5 => ?_)
  · replace H := br0 q5 H
    refine J_iconst (0 : Int32) dX10_either_10 kc_0 ?_
    refine J_istore_n 2 dX10_either_11 rfl (by decide) (ls' := [.ref v0, .int v1, .int (0 : Int32)]) rfl ?_
    exact J_dr (kX10_either_12 hrc H ) ⟨rfl, ⟨rfl, ⟨rfl, trivial⟩⟩⟩
  · replace H := br1 q5 H
    refine J_iconst (0 : Int32) dX10_either_8 kc_0 ?_
    cases H
    exact J_rZ dX10_either_9 rfl rfl
noncomputable def RX10_atom : Nat → Nat → Hp → Nat → Int32 → Option (Int32 × Hp)
  | 0 => fun _ _ _ _ => none
  | u + 1 => fun t h a0 a1 => if t = 0 then BX10_atom (RX10_atom u) h a0 a1 else if t = 1 then BX10_every (RX10_atom u) h a0 a1 else BX10_either (RX10_atom u) h a0 a1
theorem okRX10_atom (d : Nat) : ∀ (u t : Nat) (h : Hp) (a0 : Nat) (a1 : Int32) (r1 : Int32) (h1 : Hp), RX10_atom u t h a0 a1 = some (r1, h1) → CT (d + u + 5) (YgX10_atom t) [.ref a0, .int a1] h (oI r1) h1 := by
  intro u
  induction u with
  | zero => intro t h a0 a1 r1 h1 H; cases H
  | succ u ih =>
    intro t h a0 a1 r1 h1 H
    simp only [RX10_atom] at H
    by_cases q0 : t = 0
    · subst q0
      exact CT_of (by decide +kernel) (Nat.le_of_ble_eq_true rfl) (eX10_atom (d := d) (u := u) ih H)
    rw [if_neg q0] at H
    by_cases q1 : t = 1
    · subst q1
      exact CT_of (by decide +kernel) (Nat.le_of_ble_eq_true rfl) (eX10_every (d := d) (u := u) ih H)
    rw [if_neg q1] at H
    have eY : YgX10_atom t = YX10_either := by simp only [YgX10_atom]; rw [if_neg q0]; rw [if_neg q1]
    rw [eY]
    exact CT_of (by decide +kernel) (Nat.le_of_ble_eq_true rfl) (eX10_either (d := d) (u := u) ih H)
noncomputable def MX10_atom (u : Nat) (h : Hp) (v0 : Nat) (v1 : Int32) : Option (Int32 × Hp) := RX10_atom u 0 h v0 v1
theorem okX10_atom {d : Nat} {h : Hp} {v0 : Nat} {v1 : Int32} {r : Int32} {h9 : Hp} (H : MX10_atom 30 h v0 v1 = some (r, h9)) : CT (d + 35) YX10_atom [.ref v0, .int v1] h (oI r) h9 := okRX10_atom d 30 0 _ _ _ _ _ H
noncomputable def MX10_every (u : Nat) (h : Hp) (v0 : Nat) (v1 : Int32) : Option (Int32 × Hp) := RX10_atom u 1 h v0 v1
theorem okX10_every {d : Nat} {h : Hp} {v0 : Nat} {v1 : Int32} {r : Int32} {h9 : Hp} (H : MX10_every 30 h v0 v1 = some (r, h9)) : CT (d + 35) YX10_every [.ref v0, .int v1] h (oI r) h9 := okRX10_atom d 30 1 _ _ _ _ _ H
noncomputable def MX10_either (u : Nat) (h : Hp) (v0 : Nat) (v1 : Int32) : Option (Int32 × Hp) := RX10_atom u 2 h v0 v1
theorem okX10_either {d : Nat} {h : Hp} {v0 : Nat} {v1 : Int32} {r : Int32} {h9 : Hp} (H : MX10_either 30 h v0 v1 = some (r, h9)) : CT (d + 35) YX10_either [.ref v0, .int v1] h (oI r) h9 := okRX10_atom d 30 2 _ _ _ _ _ H
noncomputable def MX10_readClose (h : Hp) (v0 : Nat) : Option (Int32 × Hp) :=
  gg (β := (Int32 × Hp)) (kd h v0 = 9) <|
  b2 (α := Int32) (β := Hp) (γ := (Int32 × Hp)) (MX10_takeNumber h v0 (0 : Int32) (5 : Int32)) fun (t4 : Int32) (h3 : Hp) =>
  if t4 = (-1 : Int32) then
    some ((0 : Int32), h3)
  else
    gg (β := (Int32 × Hp)) (kd h3 v0 = 9) <|
    b2 (α := Int32) (β := Hp) (γ := (Int32 × Hp)) (MX10_takeWord h3 v0 1) fun (t9 : Int32) (h8 : Hp) =>
    if t9 = 0 then
      gg (β := (Int32 × Hp)) (kd h8 v0 = 9) <|
      b2 (α := Int32) (β := Hp) (γ := (Int32 × Hp)) (MX10_failHere h8 v0) fun (t23 : Int32) (h22 : Hp) =>
      gg (β := (Int32 × Hp)) (zOk t23 = true) <|
      some (t23, h22)
    else
      gg (β := (Int32 × Hp)) (kd h8 v0 = 9) <|
      b2 (α := Int32) (β := Hp) (γ := (Int32 × Hp)) (MX10_takeNumber h8 v0 (0 : Int32) (600 : Int32)) fun (t14 : Int32) (h13 : Hp) =>
      gg (β := (Int32 × Hp)) (kd h13 v0 = 9) <|
      gg (β := (Int32 × Hp)) (kd h13 (gP h13 v0 5) = 8) <|
      Option.bind (α := Hp) (β := (Int32 × Hp)) (MX9_addRule h13 (gP h13 v0 5) (6 : Int32) t4 t14) fun (h18 : Hp) =>
      if t14 = (-1 : Int32) then
        some ((0 : Int32), h18)
      else
        some ((1 : Int32), h18)
set_option maxRecDepth 100000 in
set_option maxHeartbeats 8000000 in
theorem eX10_readClose {d : Nat} {h : Hp} {v0 : Nat} {r : Int32} {h9 : Hp} (H : MX10_readClose h v0 = some (r, h9)) : J (d + 5) YX10_readClose 0 [.ref v0, Value.null, Value.null] [] h (oI r) h9 := by
  unfold MX10_readClose at H
  refine J_aload_n 0 dX10_readClose_0 rfl rfl ?_
  refine J_iconst (0 : Int32) dX10_readClose_1 kc_0 ?_
  refine J_iconst (5 : Int32) dX10_readClose_2 kc_5 ?_
  obtain ⟨g2, H⟩ := gd H
  obtain ⟨t4, h3, e1, H⟩ := b2_el H
  refine J_cV (as := [.int (0 : Int32), .int (5 : Int32)]) 9 YX10_takeNumber 2 dX10_readClose_3 moX10_takeNumber mvX10_takeNumber mlX10_99 g2 rfl rfl (okX10_takeNumber (d := d + 4) e1) rfl rfl [] rfl rfl (st2 := [.int t4]) rfl ?_
  refine J_istore_n 1 dX10_readClose_6 rfl (by decide) (ls' := [.ref v0, .int t4, Value.null]) rfl ?_
  refine J_iload_n 1 dX10_readClose_7 rfl rfl ?_
  refine J_iconst (-1 : Int32) dX10_readClose_8 kc_m1 ?_
  refine J_icmp_ne 14 dX10_readClose_9 rfl (fun q5 => ?_) (fun q5 => ?_)
  · replace H := br0 q5 H
    refine J_aload_n 0 dX10_readClose_14 rfl rfl ?_
    refine J_lS (tx := "at") dX10_readClose_15 1 (by decide +kernel) ?_
    obtain ⟨g7, H⟩ := gd H
    obtain ⟨t9, h8, e6, H⟩ := b2_el H
    refine J_cV (as := [.retAddr 1]) 9 YX10_takeWord 1 dX10_readClose_17 moX10_takeWord mvX10_takeWord mlX10_64 g7 rfl rfl (okX10_takeWord (d := d) e6) rfl rfl [] rfl rfl (st2 := [.int t9]) rfl ?_
    refine J_if_ne 28 dX10_readClose_20 rfl (fun q10 => ?_) (fun q10 => ?_)
    · replace H := br0 q10 H
      refine J_aload_n 0 dX10_readClose_28 rfl rfl ?_
      refine J_iconst (0 : Int32) dX10_readClose_29 kc_0 ?_
      refine J_sipush (600 : Int32) dX10_readClose_30 ks_600 ?_
      obtain ⟨g12, H⟩ := gd H
      obtain ⟨t14, h13, e11, H⟩ := b2_el H
      refine J_cV (as := [.int (0 : Int32), .int (600 : Int32)]) 9 YX10_takeNumber 2 dX10_readClose_33 moX10_takeNumber mvX10_takeNumber mlX10_99 g12 rfl rfl (okX10_takeNumber (d := d + 4) e11) rfl rfl [] rfl rfl (st2 := [.int t14]) rfl ?_
      refine J_istore_n 2 dX10_readClose_36 rfl (by decide) (ls' := [.ref v0, .int t4, .int t14]) rfl ?_
      refine J_aload_n 0 dX10_readClose_37 rfl rfl ?_
      obtain ⟨g15, H⟩ := gd H
      refine J_gP 9 5 dX10_readClose_38 g15 flX10_28 rfl rfl ?_
      refine J_bipush (6 : Int32) dX10_readClose_41 kb_6 ?_
      refine J_iload_n 1 dX10_readClose_43 rfl rfl ?_
      refine J_iload_n 2 dX10_readClose_44 rfl rfl ?_
      obtain ⟨g17, H⟩ := gd H
      obtain ⟨h18, e16, H⟩ := bd H
      refine J_cV (as := [.int (6 : Int32), .int t4, .int t14]) 8 YX9_addRule 3 dX10_readClose_45 moX9_addRule mvX9_addRule mlX10_90 g17 rfl rfl (okX9_addRule (d := d + 4) e16) rfl rfl [] rfl rfl (st2 := []) rfl ?_
      refine J_iload_n 2 dX10_readClose_48 rfl rfl ?_
      refine J_iconst (-1 : Int32) dX10_readClose_49 kc_m1 ?_
      refine J_icmp_eq 57 dX10_readClose_50 rfl (fun q19 => ?_) (fun q19 => ?_)
      · replace H := br1 q19 H
        refine J_iconst (0 : Int32) dX10_readClose_57 kc_0 ?_
        cases H
        exact J_rZ dX10_readClose_58 rfl rfl
      · replace H := br0 q19 H
        refine J_iconst (1 : Int32) dX10_readClose_53 kc_1 ?_
        refine J_goto 58 dX10_readClose_54 rfl ?_
        cases H
        exact J_rZ dX10_readClose_58 rfl rfl
    · replace H := br1 q10 H
      refine J_aload_n 0 dX10_readClose_23 rfl rfl ?_
      obtain ⟨g21, H⟩ := gd H
      obtain ⟨t23, h22, e20, H⟩ := b2_el H
      refine J_cV (as := []) 9 YX10_failHere 0 dX10_readClose_24 moX10_failHere mvX10_failHere mlX10_59 g21 rfl rfl (okX10_failHere (d := d + 4) e20) rfl rfl [] rfl rfl (st2 := [.int t23]) rfl ?_
      obtain ⟨g24, H⟩ := gd H
      cases H
      exact J_rZ dX10_readClose_27 rfl g24
  · replace H := br1 q5 H
    refine J_iconst (0 : Int32) dX10_readClose_12 kc_0 ?_
    cases H
    exact J_rZ dX10_readClose_13 rfl rfl
theorem okX10_readClose {d : Nat} {h : Hp} {v0 : Nat} {r : Int32} {h9 : Hp} (H : MX10_readClose h v0 = some (r, h9)) : CT (d + 5) YX10_readClose [.ref v0] h (oI r) h9 := CT_of (by decide +kernel) (Nat.le_of_ble_eq_true rfl) (eX10_readClose H)
noncomputable def MX10_readNumbered (h : Hp) (v0 : Nat) (v1 : Int32) (v2 : Int32) (v3 : Int32) : Option (Int32 × Hp) :=
  gg (β := (Int32 × Hp)) (kd h v0 = 9) <|
  b2 (α := Int32) (β := Hp) (γ := (Int32 × Hp)) (MX10_takeNumber h v0 v2 v3) fun (t4 : Int32) (h3 : Hp) =>
  gg (β := (Int32 × Hp)) (kd h3 v0 = 9) <|
  gg (β := (Int32 × Hp)) (kd h3 (gP h3 v0 5) = 8) <|
  Option.bind (α := Hp) (β := (Int32 × Hp)) (MX9_addRule h3 (gP h3 v0 5) v1 t4 (0 : Int32)) fun (h8 : Hp) =>
  if t4 = (-1 : Int32) then
    some ((0 : Int32), h8)
  else
    some ((1 : Int32), h8)
set_option maxRecDepth 100000 in
set_option maxHeartbeats 8000000 in
theorem eX10_readNumbered {d : Nat} {h : Hp} {v0 : Nat} {v1 : Int32} {v2 : Int32} {v3 : Int32} {r : Int32} {h9 : Hp} (H : MX10_readNumbered h v0 v1 v2 v3 = some (r, h9)) : J (d + 1) YX10_readNumbered 0 [.ref v0, .int v1, .int v2, .int v3, Value.null] [] h (oI r) h9 := by
  unfold MX10_readNumbered at H
  refine J_aload_n 0 dX10_readNumbered_0 rfl rfl ?_
  refine J_iload_n 2 dX10_readNumbered_1 rfl rfl ?_
  refine J_iload_n 3 dX10_readNumbered_2 rfl rfl ?_
  obtain ⟨g2, H⟩ := gd H
  obtain ⟨t4, h3, e1, H⟩ := b2_el H
  refine J_cV (as := [.int v2, .int v3]) 9 YX10_takeNumber 2 dX10_readNumbered_3 moX10_takeNumber mvX10_takeNumber mlX10_99 g2 rfl rfl (okX10_takeNumber (d := d) e1) rfl rfl [] rfl rfl (st2 := [.int t4]) rfl ?_
  refine J_istore dX10_readNumbered_6 (by decide) (ls' := [.ref v0, .int v1, .int v2, .int v3, .int t4]) rfl ?_
  refine J_aload_n 0 dX10_readNumbered_8 rfl rfl ?_
  obtain ⟨g5, H⟩ := gd H
  refine J_gP 9 5 dX10_readNumbered_9 g5 flX10_28 rfl rfl ?_
  refine J_iload_n 1 dX10_readNumbered_12 rfl rfl ?_
  refine J_iload dX10_readNumbered_13 rfl ?_
  refine J_iconst (0 : Int32) dX10_readNumbered_15 kc_0 ?_
  obtain ⟨g7, H⟩ := gd H
  obtain ⟨h8, e6, H⟩ := bd H
  refine J_cV (as := [.int v1, .int t4, .int (0 : Int32)]) 8 YX9_addRule 3 dX10_readNumbered_16 moX9_addRule mvX9_addRule mlX10_90 g7 rfl rfl (okX9_addRule (d := d) e6) rfl rfl [] rfl rfl (st2 := []) rfl ?_
  refine J_iload dX10_readNumbered_19 rfl ?_
  refine J_iconst (-1 : Int32) dX10_readNumbered_21 kc_m1 ?_
  refine J_icmp_eq 29 dX10_readNumbered_22 rfl (fun q9 => ?_) (fun q9 => ?_)
  · replace H := br1 q9 H
    refine J_iconst (0 : Int32) dX10_readNumbered_29 kc_0 ?_
    cases H
    exact J_rZ dX10_readNumbered_30 rfl rfl
  · replace H := br0 q9 H
    refine J_iconst (1 : Int32) dX10_readNumbered_25 kc_1 ?_
    refine J_goto 30 dX10_readNumbered_26 rfl ?_
    cases H
    exact J_rZ dX10_readNumbered_30 rfl rfl
theorem okX10_readNumbered {d : Nat} {h : Hp} {v0 : Nat} {v1 : Int32} {v2 : Int32} {v3 : Int32} {r : Int32} {h9 : Hp} (H : MX10_readNumbered h v0 v1 v2 v3 = some (r, h9)) : CT (d + 1) YX10_readNumbered [.ref v0, .int v1, .int v2, .int v3] h (oI r) h9 := CT_of (by decide +kernel) (Nat.le_of_ble_eq_true rfl) (eX10_readNumbered H)
