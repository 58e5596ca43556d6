noncomputable def MX12_factHere (h : Hp) (v0 : Nat) : Option (Int32 × Hp) :=
  gg (β := (Int32 × Hp)) (kd h v0 = 11) <|
  b2 (α := Int32) (β := Hp) (γ := (Int32 × Hp)) (MX12_takes h v0 20) fun (t4 : Int32) (h3 : Hp) =>
  if t4 = 0 then
    gg (β := (Int32 × Hp)) (kd h3 v0 = 11) <|
    b2 (α := Int32) (β := Hp) (γ := (Int32 × Hp)) (MX12_takes h3 v0 2) fun (t9 : Int32) (h8 : Hp) =>
    if t9 = 0 then
      gg (β := (Int32 × Hp)) (kd h8 v0 = 11) <|
      b2 (α := Int32) (β := Hp) (γ := (Int32 × Hp)) (MX12_takes h8 v0 5) fun (t14 : Int32) (h13 : Hp) =>
      if t14 = 0 then
        gg (β := (Int32 × Hp)) (kd h13 v0 = 11) <|
        b2 (α := Int32) (β := Hp) (γ := (Int32 × Hp)) (MX12_takes h13 v0 14) fun (t19 : Int32) (h18 : Hp) =>
        if t19 = 0 then
          gg (β := (Int32 × Hp)) (kd h18 v0 = 11) <|
          b2 (α := Int32) (β := Hp) (γ := (Int32 × Hp)) (MX12_takes h18 v0 11) fun (t24 : Int32) (h23 : Hp) =>
          if t24 = 0 then
            gg (β := (Int32 × Hp)) (kd h23 v0 = 11) <|
            b2 (α := Int32) (β := Hp) (γ := (Int32 × Hp)) (MX12_takes h23 v0 12) fun (t29 : Int32) (h28 : Hp) =>
            if t29 = 0 then
              some ((-1 : Int32), h28)
            else
              some ((5 : Int32), h28)
          else
            some ((4 : Int32), h23)
        else
          some ((3 : Int32), h18)
      else
        some ((2 : Int32), h13)
    else
      some ((1 : Int32), h8)
  else
    some ((0 : Int32), h3)
set_option maxRecDepth 100000 in
set_option maxHeartbeats 8000000 in
theorem eX12_factHere {d : Nat} {h : Hp} {v0 : Nat} {r : Int32} {h9 : Hp} (H : MX12_factHere h v0 = some (r, h9)) : J (d + 5) YX12_factHere 0 [.ref v0] [] h (oI r) h9 := by
  unfold MX12_factHere at H
  refine J_aload_n 0 dX12_factHere_0 rfl rfl ?_
  refine J_lS (tx := "words") dX12_factHere_1 20 (by decide +kernel) ?_
  obtain ⟨g2, H⟩ := gd H
  obtain ⟨t4, h3, e1, H⟩ := b2_el H
  refine J_cV (as := [.retAddr 20]) 11 YX12_takes 1 dX12_factHere_3 moX12_takes mvX12_takes mlX12_189 g2 rfl rfl (okX12_takes (d := d) e1) rfl rfl [] rfl rfl (st2 := [.int t4]) rfl ?_
  refine J_if_eq 13 dX12_factHere_6 rfl (fun q5 => ?_) (fun q5 => ?_)
  · replace H := br1 q5 H
    refine J_aload_n 0 dX12_factHere_13 rfl rfl ?_
    refine J_lS (tx := "bits") dX12_factHere_14 2 (by decide +kernel) ?_
    obtain ⟨g7, H⟩ := gd H
    obtain ⟨t9, h8, e6, H⟩ := b2_el H
    refine J_cV (as := [.retAddr 2]) 11 YX12_takes 1 dX12_factHere_16 moX12_takes mvX12_takes mlX12_189 g7 rfl rfl (okX12_takes (d := d) e6) rfl rfl [] rfl rfl (st2 := [.int t9]) rfl ?_
    refine J_if_eq 26 dX12_factHere_19 rfl (fun q10 => ?_) (fun q10 => ?_)
    · replace H := br1 q10 H
      refine J_aload_n 0 dX12_factHere_26 rfl rfl ?_
      refine J_lS (tx := "due") dX12_factHere_27 5 (by decide +kernel) ?_
      obtain ⟨g12, H⟩ := gd H
      obtain ⟨t14, h13, e11, H⟩ := b2_el H
      refine J_cV (as := [.retAddr 5]) 11 YX12_takes 1 dX12_factHere_29 moX12_takes mvX12_takes mlX12_189 g12 rfl rfl (okX12_takes (d := d) e11) rfl rfl [] rfl rfl (st2 := [.int t14]) rfl ?_
      refine J_if_eq 39 dX12_factHere_32 rfl (fun q15 => ?_) (fun q15 => ?_)
      · replace H := br1 q15 H
        refine J_aload_n 0 dX12_factHere_39 rfl rfl ?_
        refine J_lS (tx := "minute") dX12_factHere_40 14 (by decide +kernel) ?_
        obtain ⟨g17, H⟩ := gd H
        obtain ⟨t19, h18, e16, H⟩ := b2_el H
        refine J_cV (as := [.retAddr 14]) 11 YX12_takes 1 dX12_factHere_42 moX12_takes mvX12_takes mlX12_189 g17 rfl rfl (okX12_takes (d := d) e16) rfl rfl [] rfl rfl (st2 := [.int t19]) rfl ?_
        refine J_if_eq 52 dX12_factHere_45 rfl (fun q20 => ?_) (fun q20 => ?_)
        · replace H := br1 q20 H
          refine J_aload_n 0 dX12_factHere_52 rfl rfl ?_
          refine J_lS (tx := "letters") dX12_factHere_53 11 (by decide +kernel) ?_
          obtain ⟨g22, H⟩ := gd H
          obtain ⟨t24, h23, e21, H⟩ := b2_el H
          refine J_cV (as := [.retAddr 11]) 11 YX12_takes 1 dX12_factHere_55 moX12_takes mvX12_takes mlX12_189 g22 rfl rfl (okX12_takes (d := d) e21) rfl rfl [] rfl rfl (st2 := [.int t24]) rfl ?_
          refine J_if_eq 65 dX12_factHere_58 rfl (fun q25 => ?_) (fun q25 => ?_)
          · replace H := br1 q25 H
            refine J_aload_n 0 dX12_factHere_65 rfl rfl ?_
            refine J_lS (tx := "machine") dX12_factHere_66 12 (by decide +kernel) ?_
            obtain ⟨g27, H⟩ := gd H
            obtain ⟨t29, h28, e26, H⟩ := b2_el H
            refine J_cV (as := [.retAddr 12]) 11 YX12_takes 1 dX12_factHere_68 moX12_takes mvX12_takes mlX12_189 g27 rfl rfl (okX12_takes (d := d) e26) rfl rfl [] rfl rfl (st2 := [.int t29]) rfl ?_
            refine J_if_eq 78 dX12_factHere_71 rfl (fun q30 => ?_) (fun q30 => ?_)
            · replace H := br1 q30 H
              refine J_iconst (-1 : Int32) dX12_factHere_78 kc_m1 ?_
              cases H
              exact J_iretI dX12_factHere_79 rfl
            · replace H := br0 q30 H
              refine J_iconst (5 : Int32) dX12_factHere_74 kc_5 ?_
              refine J_goto 79 dX12_factHere_75 rfl ?_
              cases H
              exact J_iretI dX12_factHere_79 rfl
          · replace H := br0 q25 H
            refine J_iconst (4 : Int32) dX12_factHere_61 kc_4 ?_
            refine J_goto 79 dX12_factHere_62 rfl ?_
            cases H
            exact J_iretI dX12_factHere_79 rfl
        · replace H := br0 q20 H
          refine J_iconst (3 : Int32) dX12_factHere_48 kc_3 ?_
          refine J_goto 79 dX12_factHere_49 rfl ?_
          cases H
          exact J_iretI dX12_factHere_79 rfl
      · replace H := br0 q15 H
        refine J_iconst (2 : Int32) dX12_factHere_35 kc_2 ?_
        refine J_goto 79 dX12_factHere_36 rfl ?_
        cases H
        exact J_iretI dX12_factHere_79 rfl
    · replace H := br0 q10 H
      refine J_iconst (1 : Int32) dX12_factHere_22 kc_1 ?_
      refine J_goto 79 dX12_factHere_23 rfl ?_
      cases H
      exact J_iretI dX12_factHere_79 rfl
  · replace H := br0 q5 H
    refine J_iconst (0 : Int32) dX12_factHere_9 kc_0 ?_
    refine J_goto 79 dX12_factHere_10 rfl ?_
    cases H
    exact J_iretI dX12_factHere_79 rfl
theorem okX12_factHere {d : Nat} {h : Hp} {v0 : Nat} {r : Int32} {h9 : Hp} (H : MX12_factHere h v0 = some (r, h9)) : CT (d + 5) YX12_factHere [.ref v0] h (oI r) h9 := CT_of (by decide +kernel) (Nat.le_of_ble_eq_true rfl) (eX12_factHere H)
noncomputable def MX12_fault (h : Hp) (v0 : Nat) : Option (Int32 × Hp) :=
  gg (β := (Int32 × Hp)) (kd h v0 = 11) <|
  lt (α := Hp) (β := Option (Int32 × Hp)) (sI h v0 0 (0 : Int32)) fun (h2 : Hp) =>
  some ((gI h2 v0 9), h2)
set_option maxRecDepth 100000 in
set_option maxHeartbeats 8000000 in
theorem eX12_fault {d : Nat} {h : Hp} {v0 : Nat} {r : Int32} {h9 : Hp} (H : MX12_fault h v0 = some (r, h9)) : J (d) YX12_fault 0 [.ref v0] [] h (oI r) h9 := by
  unfold MX12_fault at H
  refine J_aload_n 0 dX12_fault_0 rfl rfl ?_
  refine J_iconst (0 : Int32) dX12_fault_1 kc_0 ?_
  obtain ⟨g1, H⟩ := gd H
  obtain ⟨h2, e3, H⟩ := lt_el H
  refine J_pI 11 0 dX12_fault_2 g1 flX12_122 rfl rfl e3 ?_
  have c4 := ekI e3
  have c5 := elI e3
  have c6 := epI e3
  refine J_aload_n 0 dX12_fault_5 rfl rfl ?_
  refine J_getI 11 9 dX12_fault_6 (kq c4 g1) flX12_23 rfl ?_
  cases H
  exact J_iretI dX12_fault_9 rfl
theorem okX12_fault {d : Nat} {h : Hp} {v0 : Nat} {r : Int32} {h9 : Hp} (H : MX12_fault h v0 = some (r, h9)) : CT (d) YX12_fault [.ref v0] h (oI r) h9 := CT_of (by decide +kernel) (Nat.le_of_ble_eq_true rfl) (eX12_fault H)
noncomputable def MX12_feed_137 (h : Hp) (v0 : Nat) : Option (Int32 × Hp) :=
  gg (β := (Int32 × Hp)) (kd h v0 = 11) <|
  some ((gI h v0 6), h)
set_option maxRecDepth 100000 in
set_option maxHeartbeats 8000000 in
theorem kX12_feed_137 {d : Nat} {h : Hp} {v0 : Nat} {r : Int32} {h9 : Hp} (H : MX12_feed_137 h v0 = some (r, h9)) : J (d + 1) YX12_feed 137 [.ref v0, Value.null, Value.null, Value.null, Value.null, Value.null, Value.null] [] h (oI r) h9 := by
  unfold MX12_feed_137 at H
  refine J_aload_n 0 dX12_feed_137 rfl rfl ?_
  obtain ⟨g13, H⟩ := gd H
  refine J_getI 11 6 dX12_feed_138 g13 flX12_127 rfl ?_
  cases H
  exact J_iretI dX12_feed_141 rfl
noncomputable def BX12_feed_117 (h : Hp) (v0 : Nat) (v5 : Int32) (v6 : Int32) : Option ((Int32 × Hp) ⊕ (Int32 × Hp)) :=
  if v6 < 0 then
    up1 (MX12_feed_137 h v0)
  else
    gg (β := ((Int32 × Hp) ⊕ (Int32 × Hp))) (kd h v0 = 11) <|
    Option.bind (α := Hp) (β := ((Int32 × Hp) ⊕ (Int32 × Hp))) (MX12_byteCame h v0 (v5 >>> (v6 &&& 31))) fun (h16 : Hp) =>
    some (.inl ((v6 + (-8 : Int32)), h16))
set_option maxRecDepth 100000 in
set_option maxHeartbeats 8000000 in
theorem bX12_feed_117 {d : Nat} {h : Hp} {v0 : Nat} {v5 : Int32} {v6 : Int32} {r : Int32} {h9 : Hp} {x : ((Int32 × Hp) ⊕ (Int32 × Hp))} (H : BX12_feed_117 h v0 v5 v6 = some x) (hb0 : ∀ s : Int32 × Hp, x = .inl s → J (d + 1) YX12_feed 117 [.ref v0, Value.null, Value.null, Value.null, Value.null, .int v5, .int s.1] [] s.2 (oI r) h9) (hx : ∀ z : (Int32 × Hp), x = .inr (z) → z = (r, h9)) : J (d + 1) YX12_feed 117 [.ref v0, Value.null, Value.null, Value.null, Value.null, .int v5, .int v6] [] h (oI r) h9 := by
  unfold BX12_feed_117 at H
  refine J_iload dX12_feed_117 rfl ?_
  refine J_if_lt 137 dX12_feed_119 rfl (fun q12 => ?_) (fun q12 => ?_)
  · replace H := br1 q12 H
    obtain ⟨y0, H90, rfl⟩ := up1_el H
    replace H := H90
    obtain rfl := hx _ rfl
    exact J_dr (kX12_feed_137 H ) ⟨rfl, trivial⟩
  · replace H := br0 q12 H
    refine J_aload_n 0 dX12_feed_122 rfl rfl ?_
    refine J_iload dX12_feed_123 rfl ?_
    refine J_iload dX12_feed_125 rfl ?_
    refine J_ishr dX12_feed_127 ?_
    obtain ⟨g15, H⟩ := gd H
    obtain ⟨h16, e14, H⟩ := bd H
    refine J_cV (as := [.int (v5 >>> (v6 &&& 31))]) 11 YX12_byteCame 1 dX12_feed_128 moX12_byteCame mvX12_byteCame mlX12_130 g15 rfl rfl (okX12_byteCame (d := d) e14) rfl rfl [] rfl rfl (st2 := []) rfl ?_
    refine J_iinc (v6 + (-8 : Int32)) dX12_feed_131 rfl (congrArg (HAdd.hAdd v6) kc_m8) (by decide) (ls' := [.ref v0, Value.null, Value.null, Value.null, Value.null, .int v5, .int (v6 + (-8 : Int32))]) rfl ?_
    refine J_goto 117 dX12_feed_134 rfl ?_
    cases H
    exact J_dr (hb0 _ rfl) ⟨rfl, ⟨rfl, ⟨rfl, trivial⟩⟩⟩
noncomputable def MX12_feed_117 (h : Hp) (v0 : Nat) (v5 : Int32) (v6 : Int32) : Option (Int32 × Hp) := it (fun q : Int32 × Hp => BX12_feed_117 q.2 v0 v5 q.1) (v6, h)
set_option maxRecDepth 100000 in
set_option maxHeartbeats 8000000 in
theorem kX12_feed_117 {d : Nat} {h : Hp} {v0 : Nat} {v5 : Int32} {v6 : Int32} {r : Int32} {h9 : Hp} (H : MX12_feed_117 h v0 v5 v6 = some (r, h9)) : J (d + 1) YX12_feed 117 [.ref v0, Value.null, Value.null, Value.null, Value.null, .int v5, .int v6] [] h (oI r) h9 := by
  unfold MX12_feed_117 at H
  refine it_J (G := (fun q : Int32 × Hp => J (d + 1) YX12_feed 117 [.ref v0, Value.null, Value.null, Value.null, Value.null, .int v5, .int q.1] [] q.2 (oI r) h9)) (Q := (fun y : (Int32 × Hp) => y = (r, h9))) (fun q x Hq hm => ?_) H rfl
  exact bX12_feed_117 Hq (fun s hs => by subst hs; exact hm) (fun z hz => by subst hz; exact hm)
noncomputable def MX12_feed_113 (h : Hp) (v0 : Nat) (v5 : Int32) : Option (Int32 × Hp) :=
  MX12_feed_117 h v0 v5 (24 : Int32)
set_option maxRecDepth 100000 in
set_option maxHeartbeats 8000000 in
theorem kX12_feed_113 {d : Nat} {h : Hp} {v0 : Nat} {v5 : Int32} {r : Int32} {h9 : Hp} (H : MX12_feed_113 h v0 v5 = some (r, h9)) : J (d + 1) YX12_feed 113 [.ref v0, Value.null, Value.null, Value.null, Value.null, .int v5, Value.null] [] h (oI r) h9 := by
  unfold MX12_feed_113 at H
  refine J_bipush (24 : Int32) dX12_feed_113 kb_24 ?_
  refine J_istore dX12_feed_115 (by decide) (ls' := [.ref v0, Value.null, Value.null, Value.null, Value.null, .int v5, .int (24 : Int32)]) rfl ?_
  exact J_dr (kX12_feed_117 H ) ⟨rfl, ⟨rfl, ⟨rfl, trivial⟩⟩⟩
noncomputable def BX12_feed_93 (h : Hp) (v0 : Nat) (v4 : Int32) (v5 : Int32) (v6 : Int32) : Option ((Int32 × Hp) ⊕ (Int32 × Hp)) :=
  if v6 < 0 then
    up1 (MX12_feed_113 h v0 v5)
  else
    gg (β := ((Int32 × Hp) ⊕ (Int32 × Hp))) (kd h v0 = 11) <|
    Option.bind (α := Hp) (β := ((Int32 × Hp) ⊕ (Int32 × Hp))) (MX12_byteCame h v0 (v4 >>> (v6 &&& 31))) fun (h19 : Hp) =>
    some (.inl ((v6 + (-8 : Int32)), h19))
set_option maxRecDepth 100000 in
set_option maxHeartbeats 8000000 in
theorem bX12_feed_93 {d : Nat} {h : Hp} {v0 : Nat} {v4 : Int32} {v5 : Int32} {v6 : Int32} {r : Int32} {h9 : Hp} {x : ((Int32 × Hp) ⊕ (Int32 × Hp))} (H : BX12_feed_93 h v0 v4 v5 v6 = some x) (hb0 : ∀ s : Int32 × Hp, x = .inl s → J (d + 1) YX12_feed 93 [.ref v0, Value.null, Value.null, Value.null, .int v4, .int v5, .int s.1] [] s.2 (oI r) h9) (hx : ∀ z : (Int32 × Hp), x = .inr (z) → z = (r, h9)) : J (d + 1) YX12_feed 93 [.ref v0, Value.null, Value.null, Value.null, .int v4, .int v5, .int v6] [] h (oI r) h9 := by
  unfold BX12_feed_93 at H
  refine J_iload dX12_feed_93 rfl ?_
  refine J_if_lt 113 dX12_feed_95 rfl (fun q11 => ?_) (fun q11 => ?_)
  · replace H := br1 q11 H
    obtain ⟨y0, H90, rfl⟩ := up1_el H
    replace H := H90
    obtain rfl := hx _ rfl
    exact J_dr (kX12_feed_113 H ) ⟨rfl, ⟨rfl, trivial⟩⟩
  · replace H := br0 q11 H
    refine J_aload_n 0 dX12_feed_98 rfl rfl ?_
    refine J_iload dX12_feed_99 rfl ?_
    refine J_iload dX12_feed_101 rfl ?_
    refine J_ishr dX12_feed_103 ?_
    obtain ⟨g18, H⟩ := gd H
    obtain ⟨h19, e17, H⟩ := bd H
    refine J_cV (as := [.int (v4 >>> (v6 &&& 31))]) 11 YX12_byteCame 1 dX12_feed_104 moX12_byteCame mvX12_byteCame mlX12_130 g18 rfl rfl (okX12_byteCame (d := d) e17) rfl rfl [] rfl rfl (st2 := []) rfl ?_
    refine J_iinc (v6 + (-8 : Int32)) dX12_feed_107 rfl (congrArg (HAdd.hAdd v6) kc_m8) (by decide) (ls' := [.ref v0, Value.null, Value.null, Value.null, .int v4, .int v5, .int (v6 + (-8 : Int32))]) rfl ?_
    refine J_goto 93 dX12_feed_110 rfl ?_
    cases H
    exact J_dr (hb0 _ rfl) ⟨rfl, ⟨rfl, ⟨rfl, ⟨rfl, trivial⟩⟩⟩⟩
noncomputable def MX12_feed_93 (h : Hp) (v0 : Nat) (v4 : Int32) (v5 : Int32) (v6 : Int32) : Option (Int32 × Hp) := it (fun q : Int32 × Hp => BX12_feed_93 q.2 v0 v4 v5 q.1) (v6, h)
set_option maxRecDepth 100000 in
set_option maxHeartbeats 8000000 in
theorem kX12_feed_93 {d : Nat} {h : Hp} {v0 : Nat} {v4 : Int32} {v5 : Int32} {v6 : Int32} {r : Int32} {h9 : Hp} (H : MX12_feed_93 h v0 v4 v5 v6 = some (r, h9)) : J (d + 1) YX12_feed 93 [.ref v0, Value.null, Value.null, Value.null, .int v4, .int v5, .int v6] [] h (oI r) h9 := by
  unfold MX12_feed_93 at H
  refine it_J (G := (fun q : Int32 × Hp => J (d + 1) YX12_feed 93 [.ref v0, Value.null, Value.null, Value.null, .int v4, .int v5, .int q.1] [] q.2 (oI r) h9)) (Q := (fun y : (Int32 × Hp) => y = (r, h9))) (fun q x Hq hm => ?_) H rfl
  exact bX12_feed_93 Hq (fun s hs => by subst hs; exact hm) (fun z hz => by subst hz; exact hm)
noncomputable def MX12_feed_89 (h : Hp) (v0 : Nat) (v4 : Int32) (v5 : Int32) : Option (Int32 × Hp) :=
  MX12_feed_93 h v0 v4 v5 (24 : Int32)
set_option maxRecDepth 100000 in
set_option maxHeartbeats 8000000 in
theorem kX12_feed_89 {d : Nat} {h : Hp} {v0 : Nat} {v4 : Int32} {v5 : Int32} {r : Int32} {h9 : Hp} (H : MX12_feed_89 h v0 v4 v5 = some (r, h9)) : J (d + 1) YX12_feed 89 [.ref v0, Value.null, Value.null, Value.null, .int v4, .int v5, Value.null] [] h (oI r) h9 := by
  unfold MX12_feed_89 at H
  refine J_bipush (24 : Int32) dX12_feed_89 kb_24 ?_
  refine J_istore dX12_feed_91 (by decide) (ls' := [.ref v0, Value.null, Value.null, Value.null, .int v4, .int v5, .int (24 : Int32)]) rfl ?_
  exact J_dr (kX12_feed_93 H ) ⟨rfl, ⟨rfl, ⟨rfl, ⟨rfl, trivial⟩⟩⟩⟩
noncomputable def BX12_feed_70 (h : Hp) (v0 : Nat) (v3 : Int32) (v4 : Int32) (v5 : Int32) (v6 : Int32) : Option ((Int32 × Hp) ⊕ (Int32 × Hp)) :=
  if v6 < 0 then
    up1 (MX12_feed_89 h v0 v4 v5)
  else
    gg (β := ((Int32 × Hp) ⊕ (Int32 × Hp))) (kd h v0 = 11) <|
    Option.bind (α := Hp) (β := ((Int32 × Hp) ⊕ (Int32 × Hp))) (MX12_byteCame h v0 (v3 >>> (v6 &&& 31))) fun (h22 : Hp) =>
    some (.inl ((v6 + (-8 : Int32)), h22))
set_option maxRecDepth 100000 in
set_option maxHeartbeats 8000000 in
theorem bX12_feed_70 {d : Nat} {h : Hp} {v0 : Nat} {v3 : Int32} {v4 : Int32} {v5 : Int32} {v6 : Int32} {r : Int32} {h9 : Hp} {x : ((Int32 × Hp) ⊕ (Int32 × Hp))} (H : BX12_feed_70 h v0 v3 v4 v5 v6 = some x) (hb0 : ∀ s : Int32 × Hp, x = .inl s → J (d + 1) YX12_feed 70 [.ref v0, Value.null, Value.null, .int v3, .int v4, .int v5, .int s.1] [] s.2 (oI r) h9) (hx : ∀ z : (Int32 × Hp), x = .inr (z) → z = (r, h9)) : J (d + 1) YX12_feed 70 [.ref v0, Value.null, Value.null, .int v3, .int v4, .int v5, .int v6] [] h (oI r) h9 := by
  unfold BX12_feed_70 at H
  refine J_iload dX12_feed_70 rfl ?_
  refine J_if_lt 89 dX12_feed_72 rfl (fun q10 => ?_) (fun q10 => ?_)
  · replace H := br1 q10 H
    obtain ⟨y0, H90, rfl⟩ := up1_el H
    replace H := H90
    obtain rfl := hx _ rfl
    exact J_dr (kX12_feed_89 H ) ⟨rfl, ⟨rfl, ⟨rfl, trivial⟩⟩⟩
  · replace H := br0 q10 H
    refine J_aload_n 0 dX12_feed_75 rfl rfl ?_
    refine J_iload_n 3 dX12_feed_76 rfl rfl ?_
    refine J_iload dX12_feed_77 rfl ?_
    refine J_ishr dX12_feed_79 ?_
    obtain ⟨g21, H⟩ := gd H
    obtain ⟨h22, e20, H⟩ := bd H
    refine J_cV (as := [.int (v3 >>> (v6 &&& 31))]) 11 YX12_byteCame 1 dX12_feed_80 moX12_byteCame mvX12_byteCame mlX12_130 g21 rfl rfl (okX12_byteCame (d := d) e20) rfl rfl [] rfl rfl (st2 := []) rfl ?_
    refine J_iinc (v6 + (-8 : Int32)) dX12_feed_83 rfl (congrArg (HAdd.hAdd v6) kc_m8) (by decide) (ls' := [.ref v0, Value.null, Value.null, .int v3, .int v4, .int v5, .int (v6 + (-8 : Int32))]) rfl ?_
    refine J_goto 70 dX12_feed_86 rfl ?_
    cases H
    exact J_dr (hb0 _ rfl) ⟨rfl, ⟨rfl, ⟨rfl, ⟨rfl, ⟨rfl, trivial⟩⟩⟩⟩⟩
noncomputable def MX12_feed_70 (h : Hp) (v0 : Nat) (v3 : Int32) (v4 : Int32) (v5 : Int32) (v6 : Int32) : Option (Int32 × Hp) := it (fun q : Int32 × Hp => BX12_feed_70 q.2 v0 v3 v4 v5 q.1) (v6, h)
set_option maxRecDepth 100000 in
set_option maxHeartbeats 8000000 in
theorem kX12_feed_70 {d : Nat} {h : Hp} {v0 : Nat} {v3 : Int32} {v4 : Int32} {v5 : Int32} {v6 : Int32} {r : Int32} {h9 : Hp} (H : MX12_feed_70 h v0 v3 v4 v5 v6 = some (r, h9)) : J (d + 1) YX12_feed 70 [.ref v0, Value.null, Value.null, .int v3, .int v4, .int v5, .int v6] [] h (oI r) h9 := by
  unfold MX12_feed_70 at H
  refine it_J (G := (fun q : Int32 × Hp => J (d + 1) YX12_feed 70 [.ref v0, Value.null, Value.null, .int v3, .int v4, .int v5, .int q.1] [] q.2 (oI r) h9)) (Q := (fun y : (Int32 × Hp) => y = (r, h9))) (fun q x Hq hm => ?_) H rfl
  exact bX12_feed_70 Hq (fun s hs => by subst hs; exact hm) (fun z hz => by subst hz; exact hm)
noncomputable def MX12_feed_66 (h : Hp) (v0 : Nat) (v3 : Int32) (v4 : Int32) (v5 : Int32) : Option (Int32 × Hp) :=
  MX12_feed_70 h v0 v3 v4 v5 (24 : Int32)
set_option maxRecDepth 100000 in
set_option maxHeartbeats 8000000 in
theorem kX12_feed_66 {d : Nat} {h : Hp} {v0 : Nat} {v3 : Int32} {v4 : Int32} {v5 : Int32} {r : Int32} {h9 : Hp} (H : MX12_feed_66 h v0 v3 v4 v5 = some (r, h9)) : J (d + 1) YX12_feed 66 [.ref v0, Value.null, Value.null, .int v3, .int v4, .int v5, Value.null] [] h (oI r) h9 := by
  unfold MX12_feed_66 at H
  refine J_bipush (24 : Int32) dX12_feed_66 kb_24 ?_
  refine J_istore dX12_feed_68 (by decide) (ls' := [.ref v0, Value.null, Value.null, .int v3, .int v4, .int v5, .int (24 : Int32)]) rfl ?_
  exact J_dr (kX12_feed_70 H ) ⟨rfl, ⟨rfl, ⟨rfl, ⟨rfl, ⟨rfl, trivial⟩⟩⟩⟩⟩
noncomputable def BX12_feed_47 (h : Hp) (v0 : Nat) (v2 : Int32) (v3 : Int32) (v4 : Int32) (v5 : Int32) (v6 : Int32) : Option ((Int32 × Hp) ⊕ (Int32 × Hp)) :=
  if v6 < 0 then
    up1 (MX12_feed_66 h v0 v3 v4 v5)
  else
    gg (β := ((Int32 × Hp) ⊕ (Int32 × Hp))) (kd h v0 = 11) <|
    Option.bind (α := Hp) (β := ((Int32 × Hp) ⊕ (Int32 × Hp))) (MX12_byteCame h v0 (v2 >>> (v6 &&& 31))) fun (h25 : Hp) =>
    some (.inl ((v6 + (-8 : Int32)), h25))
set_option maxRecDepth 100000 in
set_option maxHeartbeats 8000000 in
theorem bX12_feed_47 {d : Nat} {h : Hp} {v0 : Nat} {v2 : Int32} {v3 : Int32} {v4 : Int32} {v5 : Int32} {v6 : Int32} {r : Int32} {h9 : Hp} {x : ((Int32 × Hp) ⊕ (Int32 × Hp))} (H : BX12_feed_47 h v0 v2 v3 v4 v5 v6 = some x) (hb0 : ∀ s : Int32 × Hp, x = .inl s → J (d + 1) YX12_feed 47 [.ref v0, Value.null, .int v2, .int v3, .int v4, .int v5, .int s.1] [] s.2 (oI r) h9) (hx : ∀ z : (Int32 × Hp), x = .inr (z) → z = (r, h9)) : J (d + 1) YX12_feed 47 [.ref v0, Value.null, .int v2, .int v3, .int v4, .int v5, .int v6] [] h (oI r) h9 := by
  unfold BX12_feed_47 at H
  refine J_iload dX12_feed_47 rfl ?_
  refine J_if_lt 66 dX12_feed_49 rfl (fun q9 => ?_) (fun q9 => ?_)
  · replace H := br1 q9 H
    obtain ⟨y0, H90, rfl⟩ := up1_el H
    replace H := H90
    obtain rfl := hx _ rfl
    exact J_dr (kX12_feed_66 H ) ⟨rfl, ⟨rfl, ⟨rfl, ⟨rfl, trivial⟩⟩⟩⟩
  · replace H := br0 q9 H
    refine J_aload_n 0 dX12_feed_52 rfl rfl ?_
    refine J_iload_n 2 dX12_feed_53 rfl rfl ?_
    refine J_iload dX12_feed_54 rfl ?_
    refine J_ishr dX12_feed_56 ?_
    obtain ⟨g24, H⟩ := gd H
    obtain ⟨h25, e23, H⟩ := bd H
    refine J_cV (as := [.int (v2 >>> (v6 &&& 31))]) 11 YX12_byteCame 1 dX12_feed_57 moX12_byteCame mvX12_byteCame mlX12_130 g24 rfl rfl (okX12_byteCame (d := d) e23) rfl rfl [] rfl rfl (st2 := []) rfl ?_
    refine J_iinc (v6 + (-8 : Int32)) dX12_feed_60 rfl (congrArg (HAdd.hAdd v6) kc_m8) (by decide) (ls' := [.ref v0, Value.null, .int v2, .int v3, .int v4, .int v5, .int (v6 + (-8 : Int32))]) rfl ?_
    refine J_goto 47 dX12_feed_63 rfl ?_
    cases H
    exact J_dr (hb0 _ rfl) ⟨rfl, ⟨rfl, ⟨rfl, ⟨rfl, ⟨rfl, ⟨rfl, trivial⟩⟩⟩⟩⟩⟩
noncomputable def MX12_feed_47 (h : Hp) (v0 : Nat) (v2 : Int32) (v3 : Int32) (v4 : Int32) (v5 : Int32) (v6 : Int32) : Option (Int32 × Hp) := it (fun q : Int32 × Hp => BX12_feed_47 q.2 v0 v2 v3 v4 v5 q.1) (v6, h)
set_option maxRecDepth 100000 in
set_option maxHeartbeats 8000000 in
theorem kX12_feed_47 {d : Nat} {h : Hp} {v0 : Nat} {v2 : Int32} {v3 : Int32} {v4 : Int32} {v5 : Int32} {v6 : Int32} {r : Int32} {h9 : Hp} (H : MX12_feed_47 h v0 v2 v3 v4 v5 v6 = some (r, h9)) : J (d + 1) YX12_feed 47 [.ref v0, Value.null, .int v2, .int v3, .int v4, .int v5, .int v6] [] h (oI r) h9 := by
  unfold MX12_feed_47 at H
  refine it_J (G := (fun q : Int32 × Hp => J (d + 1) YX12_feed 47 [.ref v0, Value.null, .int v2, .int v3, .int v4, .int v5, .int q.1] [] q.2 (oI r) h9)) (Q := (fun y : (Int32 × Hp) => y = (r, h9))) (fun q x Hq hm => ?_) H rfl
  exact bX12_feed_47 Hq (fun s hs => by subst hs; exact hm) (fun z hz => by subst hz; exact hm)
noncomputable def MX12_feed_43 (h : Hp) (v0 : Nat) (v2 : Int32) (v3 : Int32) (v4 : Int32) (v5 : Int32) : Option (Int32 × Hp) :=
  MX12_feed_47 h v0 v2 v3 v4 v5 (24 : Int32)
set_option maxRecDepth 100000 in
set_option maxHeartbeats 8000000 in
theorem kX12_feed_43 {d : Nat} {h : Hp} {v0 : Nat} {v2 : Int32} {v3 : Int32} {v4 : Int32} {v5 : Int32} {r : Int32} {h9 : Hp} (H : MX12_feed_43 h v0 v2 v3 v4 v5 = some (r, h9)) : J (d + 1) YX12_feed 43 [.ref v0, Value.null, .int v2, .int v3, .int v4, .int v5, Value.null] [] h (oI r) h9 := by
  unfold MX12_feed_43 at H
  refine J_bipush (24 : Int32) dX12_feed_43 kb_24 ?_
  refine J_istore dX12_feed_45 (by decide) (ls' := [.ref v0, Value.null, .int v2, .int v3, .int v4, .int v5, .int (24 : Int32)]) rfl ?_
  exact J_dr (kX12_feed_47 H ) ⟨rfl, ⟨rfl, ⟨rfl, ⟨rfl, ⟨rfl, ⟨rfl, trivial⟩⟩⟩⟩⟩⟩
noncomputable def BX12_feed_24 (h : Hp) (v0 : Nat) (v1 : Int32) (v2 : Int32) (v3 : Int32) (v4 : Int32) (v5 : Int32) (v6 : Int32) : Option ((Int32 × Hp) ⊕ (Int32 × Hp)) :=
  if v6 < 0 then
    up1 (MX12_feed_43 h v0 v2 v3 v4 v5)
  else
    gg (β := ((Int32 × Hp) ⊕ (Int32 × Hp))) (kd h v0 = 11) <|
    Option.bind (α := Hp) (β := ((Int32 × Hp) ⊕ (Int32 × Hp))) (MX12_byteCame h v0 (v1 >>> (v6 &&& 31))) fun (h28 : Hp) =>
    some (.inl ((v6 + (-8 : Int32)), h28))
set_option maxRecDepth 100000 in
set_option maxHeartbeats 8000000 in
theorem bX12_feed_24 {d : Nat} {h : Hp} {v0 : Nat} {v1 : Int32} {v2 : Int32} {v3 : Int32} {v4 : Int32} {v5 : Int32} {v6 : Int32} {r : Int32} {h9 : Hp} {x : ((Int32 × Hp) ⊕ (Int32 × Hp))} (H : BX12_feed_24 h v0 v1 v2 v3 v4 v5 v6 = some x) (hb0 : ∀ s : Int32 × Hp, x = .inl s → J (d + 1) YX12_feed 24 [.ref v0, .int v1, .int v2, .int v3, .int v4, .int v5, .int s.1] [] s.2 (oI r) h9) (hx : ∀ z : (Int32 × Hp), x = .inr (z) → z = (r, h9)) : J (d + 1) YX12_feed 24 [.ref v0, .int v1, .int v2, .int v3, .int v4, .int v5, .int v6] [] h (oI r) h9 := by
  unfold BX12_feed_24 at H
  refine J_iload dX12_feed_24 rfl ?_
  refine J_if_lt 43 dX12_feed_26 rfl (fun q8 => ?_) (fun q8 => ?_)
  · replace H := br1 q8 H
    obtain ⟨y0, H90, rfl⟩ := up1_el H
    replace H := H90
    obtain rfl := hx _ rfl
    exact J_dr (kX12_feed_43 H ) ⟨rfl, ⟨rfl, ⟨rfl, ⟨rfl, ⟨rfl, trivial⟩⟩⟩⟩⟩
  · replace H := br0 q8 H
    refine J_aload_n 0 dX12_feed_29 rfl rfl ?_
    refine J_iload_n 1 dX12_feed_30 rfl rfl ?_
    refine J_iload dX12_feed_31 rfl ?_
    refine J_ishr dX12_feed_33 ?_
    obtain ⟨g27, H⟩ := gd H
    obtain ⟨h28, e26, H⟩ := bd H
    refine J_cV (as := [.int (v1 >>> (v6 &&& 31))]) 11 YX12_byteCame 1 dX12_feed_34 moX12_byteCame mvX12_byteCame mlX12_130 g27 rfl rfl (okX12_byteCame (d := d) e26) rfl rfl [] rfl rfl (st2 := []) rfl ?_
    refine J_iinc (v6 + (-8 : Int32)) dX12_feed_37 rfl (congrArg (HAdd.hAdd v6) kc_m8) (by decide) (ls' := [.ref v0, .int v1, .int v2, .int v3, .int v4, .int v5, .int (v6 + (-8 : Int32))]) rfl ?_
    refine J_goto 24 dX12_feed_40 rfl ?_
    cases H
    exact J_dr (hb0 _ rfl) ⟨rfl, ⟨rfl, ⟨rfl, ⟨rfl, ⟨rfl, ⟨rfl, ⟨rfl, trivial⟩⟩⟩⟩⟩⟩⟩
noncomputable def MX12_feed_24 (h : Hp) (v0 : Nat) (v1 : Int32) (v2 : Int32) (v3 : Int32) (v4 : Int32) (v5 : Int32) (v6 : Int32) : Option (Int32 × Hp) := it (fun q : Int32 × Hp => BX12_feed_24 q.2 v0 v1 v2 v3 v4 v5 q.1) (v6, h)
set_option maxRecDepth 100000 in
set_option maxHeartbeats 8000000 in
theorem kX12_feed_24 {d : Nat} {h : Hp} {v0 : Nat} {v1 : Int32} {v2 : Int32} {v3 : Int32} {v4 : Int32} {v5 : Int32} {v6 : Int32} {r : Int32} {h9 : Hp} (H : MX12_feed_24 h v0 v1 v2 v3 v4 v5 v6 = some (r, h9)) : J (d + 1) YX12_feed 24 [.ref v0, .int v1, .int v2, .int v3, .int v4, .int v5, .int v6] [] h (oI r) h9 := by
  unfold MX12_feed_24 at H
  refine it_J (G := (fun q : Int32 × Hp => J (d + 1) YX12_feed 24 [.ref v0, .int v1, .int v2, .int v3, .int v4, .int v5, .int q.1] [] q.2 (oI r) h9)) (Q := (fun y : (Int32 × Hp) => y = (r, h9))) (fun q x Hq hm => ?_) H rfl
  exact bX12_feed_24 Hq (fun s hs => by subst hs; exact hm) (fun z hz => by subst hz; exact hm)
noncomputable def MX12_feed (h : Hp) (v0 : Nat) (v1 : Int32) (v2 : Int32) (v3 : Int32) (v4 : Int32) (v5 : Int32) : Option (Int32 × Hp) :=
  gg (β := (Int32 × Hp)) (kd h v0 = 11) <|
  lt (α := Hp) (β := Option (Int32 × Hp)) (sI h v0 0 (0 : Int32)) fun (h2 : Hp) =>
  if ((gI h2 v0 6) + (20 : Int32)) ≤ (400 : Int32) then
    MX12_feed_24 h2 v0 v1 v2 v3 v4 v5 (24 : Int32)
  else
    some ((-1 : Int32), h2)
set_option maxRecDepth 100000 in
set_option maxHeartbeats 8000000 in
theorem eX12_feed {d : Nat} {h : Hp} {v0 : Nat} {v1 : Int32} {v2 : Int32} {v3 : Int32} {v4 : Int32} {v5 : Int32} {r : Int32} {h9 : Hp} (H : MX12_feed h v0 v1 v2 v3 v4 v5 = some (r, h9)) : J (d + 1) YX12_feed 0 [.ref v0, .int v1, .int v2, .int v3, .int v4, .int v5, Value.null] [] h (oI r) h9 := by
  unfold MX12_feed at H
  refine J_aload_n 0 dX12_feed_0 rfl rfl ?_
  refine J_iconst (0 : Int32) dX12_feed_1 kc_0 ?_
  obtain ⟨g1, H⟩ := gd H
  obtain ⟨h2, e3, H⟩ := lt_el H
  refine J_pI 11 0 dX12_feed_2 g1 flX12_122 rfl rfl e3 ?_
  have c4 := ekI e3
  have c5 := elI e3
  have c6 := epI e3
  refine J_aload_n 0 dX12_feed_5 rfl rfl ?_
  refine J_getI 11 6 dX12_feed_6 (kq c4 g1) flX12_127 rfl ?_
  refine J_bipush (20 : Int32) dX12_feed_9 kb_20 ?_
  refine J_iadd dX12_feed_11 ?_
  refine J_sipush (400 : Int32) dX12_feed_12 ks_400 ?_
  refine J_icmp_le 20 dX12_feed_15 rfl (fun q7 => ?_) (fun q7 => ?_)
  · replace H := br1 q7 H
    refine J_bipush (24 : Int32) dX12_feed_20 kb_24 ?_
    refine J_istore dX12_feed_22 (by decide) (ls' := [.ref v0, .int v1, .int v2, .int v3, .int v4, .int v5, .int (24 : Int32)]) rfl ?_
    exact J_dr (kX12_feed_24 H ) ⟨rfl, ⟨rfl, ⟨rfl, ⟨rfl, ⟨rfl, ⟨rfl, ⟨rfl, trivial⟩⟩⟩⟩⟩⟩⟩
  · replace H := br0 q7 H
    refine J_iconst (-1 : Int32) dX12_feed_18 kc_m1 ?_
    cases H
    exact J_iretI dX12_feed_19 rfl
theorem okX12_feed {d : Nat} {h : Hp} {v0 : Nat} {v1 : Int32} {v2 : Int32} {v3 : Int32} {v4 : Int32} {v5 : Int32} {r : Int32} {h9 : Hp} (H : MX12_feed h v0 v1 v2 v3 v4 v5 = some (r, h9)) : CT (d + 1) YX12_feed [.ref v0, .int v1, .int v2, .int v3, .int v4, .int v5] h (oI r) h9 := CT_of (by decide +kernel) (Nat.le_of_ble_eq_true rfl) (eX12_feed H)
noncomputable def MX12_fitting_54 (h : Hp) (v0 : Nat) (v1 : Int32) : Option Hp :=
  gg (β := Hp) (kd h v0 = 11) <|
  lt (α := Hp) (β := Option Hp) (sI h v0 52 (-1 : Int32)) fun (h12 : Hp) =>
  Option.bind (α := Hp) (β := Hp) (MX12_columns 30 h12 v0 v1 (0 : Int32)) fun (h18 : Hp) =>
  some h18
set_option maxRecDepth 100000 in
set_option maxHeartbeats 8000000 in
theorem kX12_fitting_54 {d : Nat} {h : Hp} {v0 : Nat} {v1 : Int32} {h9 : Hp} (H : MX12_fitting_54 h v0 v1 = some h9) : J (d + 62) YX12_fitting 54 [.ref v0, .int v1, Value.null, Value.null] [] h oV h9 := by
  unfold MX12_fitting_54 at H
  refine J_aload_n 0 dX12_fitting_54 rfl rfl ?_
  refine J_iconst (-1 : Int32) dX12_fitting_55 kc_m1 ?_
  obtain ⟨g11, H⟩ := gd H
  obtain ⟨h12, e13, H⟩ := lt_el H
  refine J_pI 11 52 dX12_fitting_56 g11 flX12_424 rfl rfl e13 ?_
  have c14 := ekI e13
  have c15 := elI e13
  have c16 := epI e13
  refine J_aload_n 0 dX12_fitting_59 rfl rfl ?_
  refine J_iload_n 1 dX12_fitting_60 rfl rfl ?_
  refine J_iconst (0 : Int32) dX12_fitting_61 kc_0 ?_
  obtain ⟨h18, e17, H⟩ := bd H
  refine J_cV (as := [.int v1, .int (0 : Int32)]) 11 YX12_columns 2 dX12_fitting_62 moX12_columns mvX12_columns mlX12_427 (kq c14 g11) rfl rfl (okX12_columns (d := d) e17) rfl rfl [] rfl rfl (st2 := []) rfl ?_
  cases H
  exact J_ret dX12_fitting_65 rfl
noncomputable def BX12_fitting_7 (h : Hp) (v0 : Nat) (v1 : Int32) (v2 : Int32) (v3 : Int32) : Option ((Int32 × Hp) ⊕ Hp) :=
  gg (β := ((Int32 × Hp) ⊕ Hp)) (kd h v0 = 11) <|
  gg (β := ((Int32 × Hp) ⊕ Hp)) (kd h (gP h v0 1) = 20) <|
  gg (β := ((Int32 × Hp) ⊕ Hp)) (inB (1 : Int32) (ln h (gP h v0 1)) = true) <|
  if (gI h (gP h v0 1) (1 : Int32).toNatClampNeg) ≤ v3 then
    up1 (MX12_fitting_54 h v0 v1)
  else
    if ((v2 >>> (v3 &&& 31)) &&& (1 : Int32)) = 0 then
      some (.inl ((v3 + (1 : Int32)), h))
    else
      gg (β := ((Int32 × Hp) ⊕ Hp)) (kd h (gP h v0 45) = 20) <|
      gg (β := ((Int32 × Hp) ⊕ Hp)) (inB (gI h v0 51) (ln h (gP h v0 45)) = true) <|
      lt (α := Hp) (β := Option ((Int32 × Hp) ⊕ Hp)) (sI h (gP h v0 45) (gI h v0 51).toNatClampNeg v3) fun (h22 : Hp) =>
      lt (α := Hp) (β := Option ((Int32 × Hp) ⊕ Hp)) (sI h22 v0 51 ((gI h22 v0 51) + (1 : Int32))) fun (h27 : Hp) =>
      some (.inl ((v3 + (1 : Int32)), h27))
set_option maxRecDepth 100000 in
set_option maxHeartbeats 8000000 in
theorem bX12_fitting_7 {d : Nat} {h : Hp} {v0 : Nat} {v1 : Int32} {v2 : Int32} {v3 : Int32} {h9 : Hp} {x : ((Int32 × Hp) ⊕ Hp)} (H : BX12_fitting_7 h v0 v1 v2 v3 = some x) (hb0 : ∀ s : Int32 × Hp, x = .inl s → J (d + 62) YX12_fitting 7 [.ref v0, .int v1, .int v2, .int s.1] [] s.2 oV h9) (hx : ∀ z : Hp, x = .inr (z) → z = h9) : J (d + 62) YX12_fitting 7 [.ref v0, .int v1, .int v2, .int v3] [] h oV h9 := by
  unfold BX12_fitting_7 at H
  refine J_iload_n 3 dX12_fitting_7 rfl rfl ?_
  refine J_aload_n 0 dX12_fitting_8 rfl rfl ?_
  obtain ⟨g7, H⟩ := gd H
  refine J_gP 11 1 dX12_fitting_9 g7 flX12_8 rfl rfl ?_
  refine J_iconst (1 : Int32) dX12_fitting_12 kc_1 ?_
  obtain ⟨g8, H⟩ := gd H
  obtain ⟨g9, H⟩ := gd H
  refine J_iald dX12_fitting_13 g8 (inB_ok g9) ?_
  refine J_icmp_ge 54 dX12_fitting_14 rfl (fun q10 => ?_) (fun q10 => ?_)
  · replace H := br1 q10 H
    obtain ⟨y0, H90, rfl⟩ := up1_el H
    replace H := H90
    obtain rfl := hx _ rfl
    exact J_dr (kX12_fitting_54 H ) ⟨rfl, ⟨rfl, trivial⟩⟩
  · replace H := br0 q10 H
    refine J_iload_n 2 dX12_fitting_17 rfl rfl ?_
    refine J_iload_n 3 dX12_fitting_18 rfl rfl ?_
    refine J_ishr dX12_fitting_19 ?_
    refine J_iconst (1 : Int32) dX12_fitting_20 kc_1 ?_
    refine J_iand dX12_fitting_21 ?_
    refine J_if_ne 28 dX12_fitting_22 rfl (fun q19 => ?_) (fun q19 => ?_)
    · replace H := br0 q19 H
      refine J_aload_n 0 dX12_fitting_28 rfl rfl ?_
      refine J_gP 11 45 dX12_fitting_29 g7 flX12_94 rfl rfl ?_
      refine J_aload_n 0 dX12_fitting_32 rfl rfl ?_
      refine J_getI 11 51 dX12_fitting_33 g7 flX12_421 rfl ?_
      refine J_iload_n 3 dX12_fitting_36 rfl rfl ?_
      obtain ⟨g20, H⟩ := gd H
      obtain ⟨g21, H⟩ := gd H
      obtain ⟨h22, e23, H⟩ := lt_el H
      refine J_sI dX12_fitting_37 g20 (inB_ok g21) e23 ?_
      have c24 := ekI e23
      have c25 := elI e23
      have c26 := epI e23
      refine J_aload_n 0 dX12_fitting_38 rfl rfl ?_
      refine J_dup dX12_fitting_39 rfl ?_
      refine J_getI 11 51 dX12_fitting_40 (kq c24 g7) flX12_421 rfl ?_
      refine J_iconst (1 : Int32) dX12_fitting_43 kc_1 ?_
      refine J_iadd dX12_fitting_44 ?_
      obtain ⟨h27, e28, H⟩ := lt_el H
      refine J_pI 11 51 dX12_fitting_45 (kq c24 g7) flX12_421 rfl rfl e28 ?_
      have c29 := (ekI e28).trans c24
      have c30 := (elI e28).trans c25
      have c31 := (epI e28).trans c26
      refine J_iinc (v3 + (1 : Int32)) dX12_fitting_48 rfl (congrArg (HAdd.hAdd v3) kc_1) (by decide) (ls' := [.ref v0, .int v1, .int v2, .int (v3 + (1 : Int32))]) rfl ?_
      refine J_goto 7 dX12_fitting_51 rfl ?_
      cases H
      exact J_dr (hb0 _ rfl) ⟨rfl, ⟨rfl, ⟨rfl, ⟨rfl, trivial⟩⟩⟩⟩
    · replace H := br1 q19 H
      refine J_goto 48 dX12_fitting_25 rfl ?_
      refine J_iinc (v3 + (1 : Int32)) dX12_fitting_48 rfl (congrArg (HAdd.hAdd v3) kc_1) (by decide) (ls' := [.ref v0, .int v1, .int v2, .int (v3 + (1 : Int32))]) rfl ?_
      refine J_goto 7 dX12_fitting_51 rfl ?_
      cases H
      exact J_dr (hb0 _ rfl) ⟨rfl, ⟨rfl, ⟨rfl, ⟨rfl, trivial⟩⟩⟩⟩
noncomputable def MX12_fitting_7 (h : Hp) (v0 : Nat) (v1 : Int32) (v2 : Int32) (v3 : Int32) : Option Hp := it (fun q : Int32 × Hp => BX12_fitting_7 q.2 v0 v1 v2 q.1) (v3, h)
set_option maxRecDepth 100000 in
set_option maxHeartbeats 8000000 in
theorem kX12_fitting_7 {d : Nat} {h : Hp} {v0 : Nat} {v1 : Int32} {v2 : Int32} {v3 : Int32} {h9 : Hp} (H : MX12_fitting_7 h v0 v1 v2 v3 = some h9) : J (d + 62) YX12_fitting 7 [.ref v0, .int v1, .int v2, .int v3] [] h oV h9 := by
  unfold MX12_fitting_7 at H
  refine it_J (G := (fun q : Int32 × Hp => J (d + 62) YX12_fitting 7 [.ref v0, .int v1, .int v2, .int q.1] [] q.2 oV h9)) (Q := (fun y : Hp => y = h9)) (fun q x Hq hm => ?_) H rfl
  exact bX12_fitting_7 Hq (fun s hs => by subst hs; exact hm) (fun z hz => by subst hz; exact hm)
noncomputable def MX12_fitting (h : Hp) (v0 : Nat) (v1 : Int32) (v2 : Int32) : Option Hp :=
  gg (β := Hp) (kd h v0 = 11) <|
  lt (α := Hp) (β := Option Hp) (sI h v0 51 (0 : Int32)) fun (h2 : Hp) =>
  MX12_fitting_7 h2 v0 v1 v2 (0 : Int32)
set_option maxRecDepth 100000 in
set_option maxHeartbeats 8000000 in
theorem eX12_fitting {d : Nat} {h : Hp} {v0 : Nat} {v1 : Int32} {v2 : Int32} {h9 : Hp} (H : MX12_fitting h v0 v1 v2 = some h9) : J (d + 62) YX12_fitting 0 [.ref v0, .int v1, .int v2, Value.null] [] h oV h9 := by
  unfold MX12_fitting at H
  refine J_aload_n 0 dX12_fitting_0 rfl rfl ?_
  refine J_iconst (0 : Int32) dX12_fitting_1 kc_0 ?_
  obtain ⟨g1, H⟩ := gd H
  obtain ⟨h2, e3, H⟩ := lt_el H
  refine J_pI 11 51 dX12_fitting_2 g1 flX12_421 rfl rfl e3 ?_
  have c4 := ekI e3
  have c5 := elI e3
  have c6 := epI e3
  refine J_iconst (0 : Int32) dX12_fitting_5 kc_0 ?_
  refine J_istore_n 3 dX12_fitting_6 rfl (by decide) (ls' := [.ref v0, .int v1, .int v2, .int (0 : Int32)]) rfl ?_
  exact J_dr (kX12_fitting_7 H ) ⟨rfl, ⟨rfl, ⟨rfl, ⟨rfl, trivial⟩⟩⟩⟩
theorem okX12_fitting {d : Nat} {h : Hp} {v0 : Nat} {v1 : Int32} {v2 : Int32} {h9 : Hp} (H : MX12_fitting h v0 v1 v2 = some h9) : CT (d + 62) YX12_fitting [.ref v0, .int v1, .int v2] h oV h9 := CT_of (by decide +kernel) (Nat.le_of_ble_eq_true rfl) (eX12_fitting H)
noncomputable def BX12_notFit_85 (h : Hp) (v0 : Nat) (v2 : Int32) (v4 : Int32) (v5 : Int32) : Option ((Int32) ⊕ ((Int32) ⊕ Int32)) :=
  gg (β := ((Int32) ⊕ ((Int32) ⊕ Int32))) (kd h v0 = 11) <|
  gg (β := ((Int32) ⊕ ((Int32) ⊕ Int32))) (kd h (gP h v0 1) = 20) <|
  gg (β := ((Int32) ⊕ ((Int32) ⊕ Int32))) (inB ((110 : Int32) + v4) (ln h (gP h v0 1)) = true) <|
  if (gI h (gP h v0 1) ((110 : Int32) + v4).toNatClampNeg) ≤ v5 then
    some (.inr (.inl (v4 + (1 : Int32))))
  else
    if ((v2 >>> (v4 &&& 31)) &&& (1 : Int32)) = (1 : Int32) then
      Option.bind (α := Int32) (β := ((Int32) ⊕ ((Int32) ⊕ Int32))) (MX12_part0 h (((5 : Int32) * v4) + v5)) fun (t25 : Int32) =>
      gg (β := ((Int32) ⊕ ((Int32) ⊕ Int32))) (inB (t25 + (3 : Int32)) (ln h (gP h v0 1)) = true) <|
      if (gI h (gP h v0 1) (t25 + (3 : Int32)).toNatClampNeg) = 0 then
        some (.inr (.inr ((3 : Int32))))
      else
        some (.inl (v5 + (1 : Int32)))
    else
      some (.inr (.inl (v4 + (1 : Int32))))
set_option maxRecDepth 100000 in
set_option maxHeartbeats 8000000 in
theorem bX12_notFit_85 {d : Nat} {h : Hp} {v0 : Nat} {v2 : Int32} {v4 : Int32} {v5 : Int32} {r : Int32} {x : ((Int32) ⊕ ((Int32) ⊕ Int32))} (H : BX12_notFit_85 h v0 v2 v4 v5 = some x) (hb0 : ∀ s : Int32, x = .inl s → J (d + 1) YX12_notFit 85 [.ref v0, Value.null, .int v2, Value.null, .int v4, .int s] [] h (oI r) h) (hb1 : ∀ s : Int32, x = .inr (.inl s) → J (d + 1) YX12_notFit 71 [.ref v0, Value.null, .int v2, Value.null, .int s, Value.null] [] h (oI r) h) (hx : ∀ z : Int32, x = .inr (.inr (z)) → z = r) : J (d + 1) YX12_notFit 85 [.ref v0, Value.null, .int v2, Value.null, .int v4, .int v5] [] h (oI r) h := by
  unfold BX12_notFit_85 at H
  refine J_iload dX12_notFit_85 rfl ?_
  refine J_aload_n 0 dX12_notFit_87 rfl rfl ?_
  obtain ⟨g19, H⟩ := gd H
  refine J_gP 11 1 dX12_notFit_88 g19 flX12_8 rfl rfl ?_
  refine J_bipush (110 : Int32) dX12_notFit_91 kb_110 ?_
  refine J_iload dX12_notFit_93 rfl ?_
  refine J_iadd dX12_notFit_95 ?_
  obtain ⟨g20, H⟩ := gd H
  obtain ⟨g21, H⟩ := gd H
  refine J_iald dX12_notFit_96 g20 (inB_ok g21) ?_
  refine J_icmp_ge 138 dX12_notFit_97 rfl (fun q22 => ?_) (fun q22 => ?_)
  · replace H := br1 q22 H
    refine J_iinc (v4 + (1 : Int32)) dX12_notFit_138 rfl (congrArg (HAdd.hAdd v4) kc_1) (by decide) (ls' := [.ref v0, Value.null, .int v2, Value.null, .int (v4 + (1 : Int32)), .int v5]) rfl ?_
    refine J_goto 71 dX12_notFit_141 rfl ?_
    cases H
    exact J_dr (hb1 _ rfl) ⟨rfl, ⟨rfl, ⟨rfl, trivial⟩⟩⟩
  · replace H := br0 q22 H
    refine J_iload_n 2 dX12_notFit_100 rfl rfl ?_
    refine J_iload dX12_notFit_101 rfl ?_
    refine J_ishr dX12_notFit_103 ?_
    refine J_iconst (1 : Int32) dX12_notFit_104 kc_1 ?_
    refine J_iand dX12_notFit_105 ?_
    refine J_iconst (1 : Int32) dX12_notFit_106 kc_1 ?_
    refine J_icmp_ne 138 dX12_notFit_107 rfl (fun q23 => ?_) (fun q23 => ?_)
    · replace H := br0 q23 H
      refine J_iinc (v4 + (1 : Int32)) dX12_notFit_138 rfl (congrArg (HAdd.hAdd v4) kc_1) (by decide) (ls' := [.ref v0, Value.null, .int v2, Value.null, .int (v4 + (1 : Int32)), .int v5]) rfl ?_
      refine J_goto 71 dX12_notFit_141 rfl ?_
      cases H
      exact J_dr (hb1 _ rfl) ⟨rfl, ⟨rfl, ⟨rfl, trivial⟩⟩⟩
    · replace H := br1 q23 H
      refine J_aload_n 0 dX12_notFit_110 rfl rfl ?_
      refine J_gP 11 1 dX12_notFit_111 g19 flX12_8 rfl rfl ?_
      refine J_iconst (5 : Int32) dX12_notFit_114 kc_5 ?_
      refine J_iload dX12_notFit_115 rfl ?_
      refine J_imul dX12_notFit_117 ?_
      refine J_iload dX12_notFit_118 rfl ?_
      refine J_iadd dX12_notFit_120 ?_
      obtain ⟨t25, e24, H⟩ := bd H
      refine J_cS (as := [.int (((5 : Int32) * v4) + v5)]) YX12_part0 1 dX12_notFit_121 moX12_part0 msX12_part0 mlX12_164 (okX12_part0 (d := d) e24) rfl rfl [.ref (gP h v0 1)] rfl rfl (st2 := [.int t25, .ref (gP h v0 1)]) rfl ?_
      refine J_iconst (3 : Int32) dX12_notFit_124 kc_3 ?_
      refine J_iadd dX12_notFit_125 ?_
      obtain ⟨g26, H⟩ := gd H
      refine J_iald dX12_notFit_126 g20 (inB_ok g26) ?_
      refine J_if_ne 132 dX12_notFit_127 rfl (fun q27 => ?_) (fun q27 => ?_)
      · replace H := br0 q27 H
        refine J_iinc (v5 + (1 : Int32)) dX12_notFit_132 rfl (congrArg (HAdd.hAdd v5) kc_1) (by decide) (ls' := [.ref v0, Value.null, .int v2, Value.null, .int v4, .int (v5 + (1 : Int32))]) rfl ?_
        refine J_goto 85 dX12_notFit_135 rfl ?_
        cases H
        exact J_dr (hb0 _ rfl) ⟨rfl, ⟨rfl, ⟨rfl, ⟨rfl, trivial⟩⟩⟩⟩
      · replace H := br1 q27 H
        refine J_iconst (3 : Int32) dX12_notFit_130 kc_3 ?_
        cases H
        cases hx _ rfl
        exact J_iretI dX12_notFit_131 rfl
noncomputable def MX12_notFit_85 (h : Hp) (v0 : Nat) (v2 : Int32) (v4 : Int32) (v5 : Int32) : Option ((Int32) ⊕ Int32) := it (fun q : Int32 => BX12_notFit_85 h v0 v2 v4 q) (v5)
set_option maxRecDepth 100000 in
set_option maxHeartbeats 8000000 in
theorem kX12_notFit_85 {d : Nat} {h : Hp} {v0 : Nat} {v2 : Int32} {v4 : Int32} {v5 : Int32} {r : Int32} {x : ((Int32) ⊕ Int32)} (H : MX12_notFit_85 h v0 v2 v4 v5 = some x) (hb0 : ∀ s : Int32, x = .inl s → J (d + 1) YX12_notFit 71 [.ref v0, Value.null, .int v2, Value.null, .int s, Value.null] [] h (oI r) h) (hx : ∀ z : Int32, x = .inr (z) → z = r) : J (d + 1) YX12_notFit 85 [.ref v0, Value.null, .int v2, Value.null, .int v4, .int v5] [] h (oI r) h := by
  unfold MX12_notFit_85 at H
  refine it_J (G := (fun q : Int32 => J (d + 1) YX12_notFit 85 [.ref v0, Value.null, .int v2, Value.null, .int v4, .int q] [] h (oI r) h)) (Q := (fun y : ((Int32) ⊕ Int32) => (∀ s : Int32, y = .inl s → J (d + 1) YX12_notFit 71 [.ref v0, Value.null, .int v2, Value.null, .int s, Value.null] [] h (oI r) h) ∧ (∀ z : Int32, y = .inr (z) → z = r))) (fun q x Hq hm => ?_) H ⟨hb0, hx⟩
  exact bX12_notFit_85 Hq (fun s hs => by subst hs; exact hm) (fun s hs => by subst hs; exact (hm.1) s rfl) (fun z hz => by subst hz; exact (hm.2) z rfl)
noncomputable def BX12_notFit_71 (h : Hp) (v0 : Nat) (v2 : Int32) (v4 : Int32) : Option ((Int32) ⊕ Int32) :=
  gg (β := ((Int32) ⊕ Int32)) (kd h v0 = 11) <|
  gg (β := ((Int32) ⊕ Int32)) (kd h (gP h v0 1) = 20) <|
  gg (β := ((Int32) ⊕ Int32)) (inB (1 : Int32) (ln h (gP h v0 1)) = true) <|
  if (gI h (gP h v0 1) (1 : Int32).toNatClampNeg) ≤ v4 then
    some (.inr ((0 : Int32)))
  else
    MX12_notFit_85 h v0 v2 v4 (0 : Int32)
set_option maxRecDepth 100000 in
set_option maxHeartbeats 8000000 in
theorem bX12_notFit_71 {d : Nat} {h : Hp} {v0 : Nat} {v2 : Int32} {v4 : Int32} {r : Int32} {x : ((Int32) ⊕ Int32)} (H : BX12_notFit_71 h v0 v2 v4 = some x) (hb0 : ∀ s : Int32, x = .inl s → J (d + 1) YX12_notFit 71 [.ref v0, Value.null, .int v2, Value.null, .int s, Value.null] [] h (oI r) h) (hx : ∀ z : Int32, x = .inr (z) → z = r) : J (d + 1) YX12_notFit 71 [.ref v0, Value.null, .int v2, Value.null, .int v4, Value.null] [] h (oI r) h := by
  unfold BX12_notFit_71 at H
  refine J_iload dX12_notFit_71 rfl ?_
  refine J_aload_n 0 dX12_notFit_73 rfl rfl ?_
  obtain ⟨g15, H⟩ := gd H
  refine J_gP 11 1 dX12_notFit_74 g15 flX12_8 rfl rfl ?_
  refine J_iconst (1 : Int32) dX12_notFit_77 kc_1 ?_
  obtain ⟨g16, H⟩ := gd H
  obtain ⟨g17, H⟩ := gd H
  refine J_iald dX12_notFit_78 g16 (inB_ok g17) ?_
  refine J_icmp_ge 144 dX12_notFit_79 rfl (fun q18 => ?_) (fun q18 => ?_)
  · replace H := br1 q18 H
    refine J_iconst (0 : Int32) dX12_notFit_144 kc_0 ?_
    cases H
    cases hx _ rfl
    exact J_iretI dX12_notFit_145 rfl
  · replace H := br0 q18 H
    refine J_iconst (0 : Int32) dX12_notFit_82 kc_0 ?_
    refine J_istore dX12_notFit_83 (by decide) (ls' := [.ref v0, Value.null, .int v2, Value.null, .int v4, .int (0 : Int32)]) rfl ?_
    exact J_dr (kX12_notFit_85 H hb0 hx) ⟨rfl, ⟨rfl, ⟨rfl, ⟨rfl, trivial⟩⟩⟩⟩
noncomputable def MX12_notFit_71 (h : Hp) (v0 : Nat) (v2 : Int32) (v4 : Int32) : Option Int32 := it (fun q : Int32 => BX12_notFit_71 h v0 v2 q) (v4)
set_option maxRecDepth 100000 in
set_option maxHeartbeats 8000000 in
theorem kX12_notFit_71 {d : Nat} {h : Hp} {v0 : Nat} {v2 : Int32} {v4 : Int32} {r : Int32} (H : MX12_notFit_71 h v0 v2 v4 = some r) : J (d + 1) YX12_notFit 71 [.ref v0, Value.null, .int v2, Value.null, .int v4, Value.null] [] h (oI r) h := by
  unfold MX12_notFit_71 at H
  refine it_J (G := (fun q : Int32 => J (d + 1) YX12_notFit 71 [.ref v0, Value.null, .int v2, Value.null, .int q, Value.null] [] h (oI r) h)) (Q := (fun y : Int32 => y = r)) (fun q x Hq hm => ?_) H rfl
  exact bX12_notFit_71 Hq (fun s hs => by subst hs; exact hm) (fun z hz => by subst hz; exact hm)
noncomputable def MX12_notFit_56 (h : Hp) (v0 : Nat) (v2 : Int32) (v3 : Int32) : Option Int32 :=
  if v3 < (1 : Int32) then
    some (2 : Int32)
  else
    if v3 ≤ (4 : Int32) then
      MX12_notFit_71 h v0 v2 (0 : Int32)
    else
      some (2 : Int32)
set_option maxRecDepth 100000 in
set_option maxHeartbeats 8000000 in
theorem kX12_notFit_56 {d : Nat} {h : Hp} {v0 : Nat} {v2 : Int32} {v3 : Int32} {r : Int32} (H : MX12_notFit_56 h v0 v2 v3 = some r) : J (d + 1) YX12_notFit 56 [.ref v0, Value.null, .int v2, .int v3, Value.null, Value.null] [] h (oI r) h := by
  unfold MX12_notFit_56 at H
  refine J_iload_n 3 dX12_notFit_56 rfl rfl ?_
  refine J_iconst (1 : Int32) dX12_notFit_57 kc_1 ?_
  refine J_icmp_lt 66 dX12_notFit_58 rfl (fun q13 => ?_) (fun q13 => ?_)
  · replace H := br1 q13 H
    refine J_iconst (2 : Int32) dX12_notFit_66 kc_2 ?_
    cases H
    exact J_iretI dX12_notFit_67 rfl
  · replace H := br0 q13 H
    refine J_iload_n 3 dX12_notFit_61 rfl rfl ?_
    refine J_iconst (4 : Int32) dX12_notFit_62 kc_4 ?_
    refine J_icmp_le 68 dX12_notFit_63 rfl (fun q14 => ?_) (fun q14 => ?_)
    · replace H := br1 q14 H
      refine J_iconst (0 : Int32) dX12_notFit_68 kc_0 ?_
      refine J_istore dX12_notFit_69 (by decide) (ls' := [.ref v0, Value.null, .int v2, .int v3, .int (0 : Int32), Value.null]) rfl ?_
      exact J_dr (kX12_notFit_71 H ) ⟨rfl, ⟨rfl, ⟨rfl, trivial⟩⟩⟩
    · replace H := br0 q14 H
      refine J_iconst (2 : Int32) dX12_notFit_66 kc_2 ?_
      cases H
      exact J_iretI dX12_notFit_67 rfl
noncomputable def BX12_notFit_30 (h : Hp) (v0 : Nat) (v2 : Int32) (v3 : Int32) (v4 : Int32) : Option ((Int32 × Int32) ⊕ Int32) :=
  gg (β := ((Int32 × Int32) ⊕ Int32)) (kd h v0 = 11) <|
  gg (β := ((Int32 × Int32) ⊕ Int32)) (kd h (gP h v0 1) = 20) <|
  gg (β := ((Int32 × Int32) ⊕ Int32)) (inB (1 : Int32) (ln h (gP h v0 1)) = true) <|
  if (gI h (gP h v0 1) (1 : Int32).toNatClampNeg) ≤ v4 then
    up1 (MX12_notFit_56 h v0 v2 v3)
  else
    some (.inl ((v3 + ((v2 >>> (v4 &&& 31)) &&& (1 : Int32))), (v4 + (1 : Int32))))
set_option maxRecDepth 100000 in
set_option maxHeartbeats 8000000 in
theorem bX12_notFit_30 {d : Nat} {h : Hp} {v0 : Nat} {v2 : Int32} {v3 : Int32} {v4 : Int32} {r : Int32} {x : ((Int32 × Int32) ⊕ Int32)} (H : BX12_notFit_30 h v0 v2 v3 v4 = some x) (hb0 : ∀ s : Int32 × Int32, x = .inl s → J (d + 1) YX12_notFit 30 [.ref v0, Value.null, .int v2, .int s.1, .int s.2, Value.null] [] h (oI r) h) (hx : ∀ z : Int32, x = .inr (z) → z = r) : J (d + 1) YX12_notFit 30 [.ref v0, Value.null, .int v2, .int v3, .int v4, Value.null] [] h (oI r) h := by
  unfold BX12_notFit_30 at H
  refine J_iload dX12_notFit_30 rfl ?_
  refine J_aload_n 0 dX12_notFit_32 rfl rfl ?_
  obtain ⟨g9, H⟩ := gd H
  refine J_gP 11 1 dX12_notFit_33 g9 flX12_8 rfl rfl ?_
  refine J_iconst (1 : Int32) dX12_notFit_36 kc_1 ?_
  obtain ⟨g10, H⟩ := gd H
  obtain ⟨g11, H⟩ := gd H
  refine J_iald dX12_notFit_37 g10 (inB_ok g11) ?_
  refine J_icmp_ge 56 dX12_notFit_38 rfl (fun q12 => ?_) (fun q12 => ?_)
  · replace H := br1 q12 H
    obtain ⟨y0, H90, rfl⟩ := up1_el H
    replace H := H90
    obtain rfl := hx _ rfl
    exact J_dr (kX12_notFit_56 H ) ⟨rfl, ⟨rfl, ⟨rfl, trivial⟩⟩⟩
  · replace H := br0 q12 H
    refine J_iload_n 3 dX12_notFit_41 rfl rfl ?_
    refine J_iload_n 2 dX12_notFit_42 rfl rfl ?_
    refine J_iload dX12_notFit_43 rfl ?_
    refine J_ishr dX12_notFit_45 ?_
    refine J_iconst (1 : Int32) dX12_notFit_46 kc_1 ?_
    refine J_iand dX12_notFit_47 ?_
    refine J_iadd dX12_notFit_48 ?_
    refine J_istore_n 3 dX12_notFit_49 rfl (by decide) (ls' := [.ref v0, Value.null, .int v2, .int (v3 + ((v2 >>> (v4 &&& 31)) &&& (1 : Int32))), .int v4, Value.null]) rfl ?_
    refine J_iinc (v4 + (1 : Int32)) dX12_notFit_50 rfl (congrArg (HAdd.hAdd v4) kc_1) (by decide) (ls' := [.ref v0, Value.null, .int v2, .int (v3 + ((v2 >>> (v4 &&& 31)) &&& (1 : Int32))), .int (v4 + (1 : Int32)), Value.null]) rfl ?_
    refine J_goto 30 dX12_notFit_53 rfl ?_
    cases H
    exact J_dr (hb0 _ rfl) ⟨rfl, ⟨rfl, ⟨rfl, ⟨rfl, trivial⟩⟩⟩⟩
noncomputable def MX12_notFit_30 (h : Hp) (v0 : Nat) (v2 : Int32) (v3 : Int32) (v4 : Int32) : Option Int32 := it (fun q : Int32 × Int32 => BX12_notFit_30 h v0 v2 q.1 q.2) (v3, v4)
set_option maxRecDepth 100000 in
set_option maxHeartbeats 8000000 in
theorem kX12_notFit_30 {d : Nat} {h : Hp} {v0 : Nat} {v2 : Int32} {v3 : Int32} {v4 : Int32} {r : Int32} (H : MX12_notFit_30 h v0 v2 v3 v4 = some r) : J (d + 1) YX12_notFit 30 [.ref v0, Value.null, .int v2, .int v3, .int v4, Value.null] [] h (oI r) h := by
  unfold MX12_notFit_30 at H
  refine it_J (G := (fun q : Int32 × Int32 => J (d + 1) YX12_notFit 30 [.ref v0, Value.null, .int v2, .int q.1, .int q.2, Value.null] [] h (oI r) h)) (Q := (fun y : Int32 => y = r)) (fun q x Hq hm => ?_) H rfl
  exact bX12_notFit_30 Hq (fun s hs => by subst hs; exact hm) (fun z hz => by subst hz; exact hm)
noncomputable def MX12_notFit (h : Hp) (v0 : Nat) (v1 : Int32) (v2 : Int32) : Option Int32 :=
  Option.bind (α := Int32) (β := Int32) (MX12_isPage h v1) fun (t2 : Int32) =>
  if t2 = 0 then
    some (1 : Int32)
  else
    if v2 < 0 then
      some (1 : Int32)
    else
      gg (β := Int32) (kd h v0 = 11) <|
      gg (β := Int32) (kd h (gP h v0 1) = 20) <|
      gg (β := Int32) (inB (1 : Int32) (ln h (gP h v0 1)) = true) <|
      if v2 < ((1 : Int32) <<< ((gI h (gP h v0 1) (1 : Int32).toNatClampNeg) &&& 31)) then
        MX12_notFit_30 h v0 v2 (0 : Int32) (0 : Int32)
      else
        some (1 : Int32)
set_option maxRecDepth 100000 in
set_option maxHeartbeats 8000000 in
theorem eX12_notFit {d : Nat} {h : Hp} {v0 : Nat} {v1 : Int32} {v2 : Int32} {r : Int32} (H : MX12_notFit h v0 v1 v2 = some r) : J (d + 1) YX12_notFit 0 [.ref v0, .int v1, .int v2, Value.null, Value.null, Value.null] [] h (oI r) h := by
  unfold MX12_notFit at H
  refine J_iload_n 1 dX12_notFit_0 rfl rfl ?_
  obtain ⟨t2, e1, H⟩ := bd H
  refine J_cS (as := [.int v1]) YX12_isPage 1 dX12_notFit_1 moX12_isPage msX12_isPage mlX12_418 (okX12_isPage (d := d) e1) rfl rfl [] rfl rfl (st2 := [.int t2]) rfl ?_
  refine J_if_eq 23 dX12_notFit_4 rfl (fun q3 => ?_) (fun q3 => ?_)
  · replace H := br1 q3 H
    refine J_iconst (1 : Int32) dX12_notFit_23 kc_1 ?_
    cases H
    exact J_iretI dX12_notFit_24 rfl
  · replace H := br0 q3 H
    refine J_iload_n 2 dX12_notFit_7 rfl rfl ?_
    refine J_if_lt 23 dX12_notFit_8 rfl (fun q4 => ?_) (fun q4 => ?_)
    · replace H := br1 q4 H
      refine J_iconst (1 : Int32) dX12_notFit_23 kc_1 ?_
      cases H
      exact J_iretI dX12_notFit_24 rfl
    · replace H := br0 q4 H
      refine J_iload_n 2 dX12_notFit_11 rfl rfl ?_
      refine J_iconst (1 : Int32) dX12_notFit_12 kc_1 ?_
      refine J_aload_n 0 dX12_notFit_13 rfl rfl ?_
      obtain ⟨g5, H⟩ := gd H
      refine J_gP 11 1 dX12_notFit_14 g5 flX12_8 rfl rfl ?_
      refine J_iconst (1 : Int32) dX12_notFit_17 kc_1 ?_
      obtain ⟨g6, H⟩ := gd H
      obtain ⟨g7, H⟩ := gd H
      refine J_iald dX12_notFit_18 g6 (inB_ok g7) ?_
      refine J_ishl dX12_notFit_19 ?_
      refine J_icmp_lt 25 dX12_notFit_20 rfl (fun q8 => ?_) (fun q8 => ?_)
      · replace H := br1 q8 H
        refine J_iconst (0 : Int32) dX12_notFit_25 kc_0 ?_
        refine J_istore_n 3 dX12_notFit_26 rfl (by decide) (ls' := [.ref v0, .int v1, .int v2, .int (0 : Int32), Value.null, Value.null]) rfl ?_
        refine J_iconst (0 : Int32) dX12_notFit_27 kc_0 ?_
        refine J_istore dX12_notFit_28 (by decide) (ls' := [.ref v0, .int v1, .int v2, .int (0 : Int32), .int (0 : Int32), Value.null]) rfl ?_
        exact J_dr (kX12_notFit_30 H ) ⟨rfl, ⟨rfl, ⟨rfl, ⟨rfl, trivial⟩⟩⟩⟩
      · replace H := br0 q8 H
        refine J_iconst (1 : Int32) dX12_notFit_23 kc_1 ?_
        cases H
        exact J_iretI dX12_notFit_24 rfl
theorem okX12_notFit {d : Nat} {h : Hp} {v0 : Nat} {v1 : Int32} {v2 : Int32} {r : Int32} (H : MX12_notFit h v0 v1 v2 = some r) : CT (d + 1) YX12_notFit [.ref v0, .int v1, .int v2] h (oI r) h := CT_of (by decide +kernel) (Nat.le_of_ble_eq_true rfl) (eX12_notFit H)
noncomputable def MX12_fit (h : Hp) (v0 : Nat) (v1 : Int32) (v2 : Int32) : Option (Int32 × Hp) :=
  gg (β := (Int32 × Hp)) (kd h v0 = 11) <|
  Option.bind (α := Int32) (β := (Int32 × Hp)) (MX12_notFit h v0 v1 v2) fun (t3 : Int32) =>
  lt (α := Hp) (β := Option (Int32 × Hp)) (sI h v0 0 t3) fun (h4 : Hp) =>
  if (gI h4 v0 0) ≤ 0 then
    Option.bind (α := Hp) (β := (Int32 × Hp)) (MX12_fitting h4 v0 v1 v2) fun (h11 : Hp) =>
    gg (β := (Int32 × Hp)) (kd h11 v0 = 11) <|
    some ((gI h11 v0 52), h11)
  else
    some ((0 : Int32), h4)
set_option maxRecDepth 100000 in
set_option maxHeartbeats 8000000 in
theorem eX12_fit {d : Nat} {h : Hp} {v0 : Nat} {v1 : Int32} {v2 : Int32} {r : Int32} {h9 : Hp} (H : MX12_fit h v0 v1 v2 = some (r, h9)) : J (d + 63) YX12_fit 0 [.ref v0, .int v1, .int v2] [] h (oI r) h9 := by
  unfold MX12_fit at H
  refine J_aload_n 0 dX12_fit_0 rfl rfl ?_
  refine J_aload_n 0 dX12_fit_1 rfl rfl ?_
  refine J_iload_n 1 dX12_fit_2 rfl rfl ?_
  refine J_iload_n 2 dX12_fit_3 rfl rfl ?_
  obtain ⟨g2, H⟩ := gd H
  obtain ⟨t3, e1, H⟩ := bd H
  refine J_cV (as := [.int v1, .int v2]) 11 YX12_notFit 2 dX12_fit_4 moX12_notFit mvX12_notFit mlX12_436 g2 rfl rfl (okX12_notFit (d := d + 61) e1) rfl rfl [.ref v0] rfl rfl (st2 := [.int t3, .ref v0]) rfl ?_
  obtain ⟨h4, e5, H⟩ := lt_el H
  refine J_pI 11 0 dX12_fit_7 g2 flX12_122 rfl rfl e5 ?_
  have c6 := ekI e5
  have c7 := elI e5
  have c8 := epI e5
  refine J_aload_n 0 dX12_fit_10 rfl rfl ?_
  refine J_getI 11 0 dX12_fit_11 (kq c6 g2) flX12_122 rfl ?_
  refine J_if_le 19 dX12_fit_14 rfl (fun q9 => ?_) (fun q9 => ?_)
  · replace H := br1 q9 H
    refine J_aload_n 0 dX12_fit_19 rfl rfl ?_
    refine J_iload_n 1 dX12_fit_20 rfl rfl ?_
    refine J_iload_n 2 dX12_fit_21 rfl rfl ?_
    obtain ⟨h11, e10, H⟩ := bd H
    refine J_cV (as := [.int v1, .int v2]) 11 YX12_fitting 2 dX12_fit_22 moX12_fitting mvX12_fitting mlX12_439 (kq c6 g2) rfl rfl (okX12_fitting (d := d) e10) rfl rfl [] rfl rfl (st2 := []) rfl ?_
    refine J_aload_n 0 dX12_fit_25 rfl rfl ?_
    obtain ⟨g12, H⟩ := gd H
    refine J_getI 11 52 dX12_fit_26 g12 flX12_424 rfl ?_
    cases H
    exact J_iretI dX12_fit_29 rfl
  · replace H := br0 q9 H
    refine J_iconst (0 : Int32) dX12_fit_17 kc_0 ?_
    cases H
    exact J_iretI dX12_fit_18 rfl
theorem okX12_fit {d : Nat} {h : Hp} {v0 : Nat} {v1 : Int32} {v2 : Int32} {r : Int32} {h9 : Hp} (H : MX12_fit h v0 v1 v2 = some (r, h9)) : CT (d + 63) YX12_fit [.ref v0, .int v1, .int v2] h (oI r) h9 := CT_of (by decide +kernel) (Nat.le_of_ble_eq_true rfl) (eX12_fit H)
noncomputable def MX12_fits_76 (h : Hp) (v0 : Nat) (v4 : Int32) (v5 : Int32) : Option (Int32 × Hp) :=
  if v4 = 0 then
    gg (β := (Int32 × Hp)) (kd h v0 = 11) <|
    gg (β := (Int32 × Hp)) (kd h (gP h v0 48) = 20) <|
    gg (β := (Int32 × Hp)) (inB v5 (ln h (gP h v0 48)) = true) <|
    some ((gI h (gP h v0 48) v5.toNatClampNeg), h)
  else
    gg (β := (Int32 × Hp)) (kd h v0 = 11) <|
    gg (β := (Int32 × Hp)) (kd h (gP h v0 49) = 20) <|
    gg (β := (Int32 × Hp)) (inB v5 (ln h (gP h v0 49)) = true) <|
    some ((gI h (gP h v0 49) v5.toNatClampNeg), h)
set_option maxRecDepth 100000 in
set_option maxHeartbeats 8000000 in
theorem kX12_fits_76 {d : Nat} {h : Hp} {v0 : Nat} {v4 : Int32} {v5 : Int32} {r : Int32} {h9 : Hp} (H : MX12_fits_76 h v0 v4 v5 = some (r, h9)) : J (d + 63) YX12_fits 76 [.ref v0, Value.null, Value.null, Value.null, .int v4, .int v5] [] h (oI r) h9 := by
  unfold MX12_fits_76 at H
  refine J_iload dX12_fits_76 rfl ?_
  refine J_if_eq 91 dX12_fits_78 rfl (fun q25 => ?_) (fun q25 => ?_)
  · replace H := br1 q25 H
    refine J_aload_n 0 dX12_fits_91 rfl rfl ?_
    obtain ⟨g26, H⟩ := gd H
    refine J_gP 11 48 dX12_fits_92 g26 flX12_103 rfl rfl ?_
    refine J_iload dX12_fits_95 rfl ?_
    obtain ⟨g27, H⟩ := gd H
    obtain ⟨g28, H⟩ := gd H
    refine J_iald dX12_fits_97 g27 (inB_ok g28) ?_
    cases H
    exact J_iretI dX12_fits_98 rfl
  · replace H := br0 q25 H
    refine J_aload_n 0 dX12_fits_81 rfl rfl ?_
    obtain ⟨g29, H⟩ := gd H
    refine J_gP 11 49 dX12_fits_82 g29 flX12_106 rfl rfl ?_
    refine J_iload dX12_fits_85 rfl ?_
    obtain ⟨g30, H⟩ := gd H
    obtain ⟨g31, H⟩ := gd H
    refine J_iald dX12_fits_87 g30 (inB_ok g31) ?_
    refine J_goto 98 dX12_fits_88 rfl ?_
    cases H
    exact J_iretI dX12_fits_98 rfl
noncomputable def BX12_fits_48 (h : Hp) (v0 : Nat) (v3 : Int32) (v4 : Int32) (v5 : Int32) : Option ((Int32) ⊕ (Int32 × Hp)) :=
  gg (β := ((Int32) ⊕ (Int32 × Hp))) (kd h v0 = 11) <|
  if (gI h v0 51) ≤ v5 then
    some (.inr (((-1 : Int32), h)))
  else
    if (gI h v0 52) = (-1 : Int32) then
      some (.inr (((-1 : Int32), h)))
    else
      gg (β := ((Int32) ⊕ (Int32 × Hp))) (kd h (gP h v0 45) = 20) <|
      gg (β := ((Int32) ⊕ (Int32 × Hp))) (inB v5 (ln h (gP h v0 45)) = true) <|
      if (gI h (gP h v0 45) v5.toNatClampNeg) = v3 then
        up1 (MX12_fits_76 h v0 v4 v5)
      else
        some (.inl (v5 + (1 : Int32)))
set_option maxRecDepth 100000 in
set_option maxHeartbeats 8000000 in
theorem bX12_fits_48 {d : Nat} {h : Hp} {v0 : Nat} {v3 : Int32} {v4 : Int32} {v5 : Int32} {r : Int32} {h9 : Hp} {x : ((Int32) ⊕ (Int32 × Hp))} (H : BX12_fits_48 h v0 v3 v4 v5 = some x) (hb0 : ∀ s : Int32, x = .inl s → J (d + 63) YX12_fits 48 [.ref v0, Value.null, Value.null, .int v3, .int v4, .int s] [] h (oI r) h9) (hx : ∀ z : (Int32 × Hp), x = .inr (z) → z = (r, h9)) : J (d + 63) YX12_fits 48 [.ref v0, Value.null, Value.null, .int v3, .int v4, .int v5] [] h (oI r) h9 := by
  unfold BX12_fits_48 at H
  refine J_iload dX12_fits_48 rfl ?_
  refine J_aload_n 0 dX12_fits_50 rfl rfl ?_
  obtain ⟨g19, H⟩ := gd H
  refine J_getI 11 51 dX12_fits_51 g19 flX12_421 rfl ?_
  refine J_icmp_ge 105 dX12_fits_54 rfl (fun q20 => ?_) (fun q20 => ?_)
  · replace H := br1 q20 H
    refine J_iconst (-1 : Int32) dX12_fits_105 kc_m1 ?_
    cases H
    cases hx _ rfl
    exact J_iretI dX12_fits_106 rfl
  · replace H := br0 q20 H
    refine J_aload_n 0 dX12_fits_57 rfl rfl ?_
    refine J_getI 11 52 dX12_fits_58 g19 flX12_424 rfl ?_
    refine J_iconst (-1 : Int32) dX12_fits_61 kc_m1 ?_
    refine J_icmp_eq 105 dX12_fits_62 rfl (fun q21 => ?_) (fun q21 => ?_)
    · replace H := br1 q21 H
      refine J_iconst (-1 : Int32) dX12_fits_105 kc_m1 ?_
      cases H
      cases hx _ rfl
      exact J_iretI dX12_fits_106 rfl
    · replace H := br0 q21 H
      refine J_aload_n 0 dX12_fits_65 rfl rfl ?_
      refine J_gP 11 45 dX12_fits_66 g19 flX12_94 rfl rfl ?_
      refine J_iload dX12_fits_69 rfl ?_
      obtain ⟨g22, H⟩ := gd H
      obtain ⟨g23, H⟩ := gd H
      refine J_iald dX12_fits_71 g22 (inB_ok g23) ?_
      refine J_iload_n 3 dX12_fits_72 rfl rfl ?_
      refine J_icmp_ne 99 dX12_fits_73 rfl (fun q24 => ?_) (fun q24 => ?_)
      · replace H := br0 q24 H
        refine J_iinc (v5 + (1 : Int32)) dX12_fits_99 rfl (congrArg (HAdd.hAdd v5) kc_1) (by decide) (ls' := [.ref v0, Value.null, Value.null, .int v3, .int v4, .int (v5 + (1 : Int32))]) rfl ?_
        refine J_goto 48 dX12_fits_102 rfl ?_
        cases H
        exact J_dr (hb0 _ rfl) ⟨rfl, ⟨rfl, ⟨rfl, ⟨rfl, trivial⟩⟩⟩⟩
      · replace H := br1 q24 H
        obtain ⟨y0, H90, rfl⟩ := up1_el H
        replace H := H90
        obtain rfl := hx _ rfl
        exact J_dr (kX12_fits_76 H ) ⟨rfl, ⟨rfl, ⟨rfl, trivial⟩⟩⟩
noncomputable def MX12_fits_48 (h : Hp) (v0 : Nat) (v3 : Int32) (v4 : Int32) (v5 : Int32) : Option (Int32 × Hp) := it (fun q : Int32 => BX12_fits_48 h v0 v3 v4 q) (v5)
set_option maxRecDepth 100000 in
set_option maxHeartbeats 8000000 in
theorem kX12_fits_48 {d : Nat} {h : Hp} {v0 : Nat} {v3 : Int32} {v4 : Int32} {v5 : Int32} {r : Int32} {h9 : Hp} (H : MX12_fits_48 h v0 v3 v4 v5 = some (r, h9)) : J (d + 63) YX12_fits 48 [.ref v0, Value.null, Value.null, .int v3, .int v4, .int v5] [] h (oI r) h9 := by
  unfold MX12_fits_48 at H
  refine it_J (G := (fun q : Int32 => J (d + 63) YX12_fits 48 [.ref v0, Value.null, Value.null, .int v3, .int v4, .int q] [] h (oI r) h9)) (Q := (fun y : (Int32 × Hp) => y = (r, h9))) (fun q x Hq hm => ?_) H rfl
  exact bX12_fits_48 Hq (fun s hs => by subst hs; exact hm) (fun z hz => by subst hz; exact hm)
noncomputable def MX12_fits_27 (h : Hp) (v0 : Nat) (v1 : Int32) (v2 : Int32) (v3 : Int32) (v4 : Int32) (s0 : Nat) (s1 : Int32) : Option (Int32 × Hp) :=
  gg (β := (Int32 × Hp)) (kd h s0 = 11) <|
  lt (α := Hp) (β := Option (Int32 × Hp)) (sI h s0 0 s1) fun (h10 : Hp) =>
  gg (β := (Int32 × Hp)) (kd h v0 = 11) <|
  if (gI h10 v0 0) ≤ 0 then
    Option.bind (α := Hp) (β := (Int32 × Hp)) (MX12_fitting h10 v0 v1 v2) fun (h18 : Hp) =>
    MX12_fits_48 h18 v0 v3 v4 (0 : Int32)
  else
    some ((0 : Int32), h10)
set_option maxRecDepth 100000 in
set_option maxHeartbeats 8000000 in
theorem kX12_fits_27 {d : Nat} {h : Hp} {v0 : Nat} {v1 : Int32} {v2 : Int32} {v3 : Int32} {v4 : Int32} {s0 : Nat} {s1 : Int32} {r : Int32} {h9 : Hp} (H : MX12_fits_27 h v0 v1 v2 v3 v4 s0 s1 = some (r, h9)) : J (d + 63) YX12_fits 27 [.ref v0, .int v1, .int v2, .int v3, .int v4, Value.null] [.int s1, .ref s0] h (oI r) h9 := by
  unfold MX12_fits_27 at H
  obtain ⟨g9, H⟩ := gd H
  obtain ⟨h10, e11, H⟩ := lt_el H
  refine J_pI 11 0 dX12_fits_27 g9 flX12_122 rfl rfl e11 ?_
  have c12 := ekI e11
  have c13 := elI e11
  have c14 := epI e11
  refine J_aload_n 0 dX12_fits_30 rfl rfl ?_
  obtain ⟨g15, H⟩ := gd H
  refine J_getI 11 0 dX12_fits_31 (kq c12 g15) flX12_122 rfl ?_
  refine J_if_le 39 dX12_fits_34 rfl (fun q16 => ?_) (fun q16 => ?_)
  · replace H := br1 q16 H
    refine J_aload_n 0 dX12_fits_39 rfl rfl ?_
    refine J_iload_n 1 dX12_fits_40 rfl rfl ?_
    refine J_iload_n 2 dX12_fits_41 rfl rfl ?_
    obtain ⟨h18, e17, H⟩ := bd H
    refine J_cV (as := [.int v1, .int v2]) 11 YX12_fitting 2 dX12_fits_42 moX12_fitting mvX12_fitting mlX12_439 (kq c12 g15) rfl rfl (okX12_fitting (d := d) e17) rfl rfl [] rfl rfl (st2 := []) rfl ?_
    refine J_iconst (0 : Int32) dX12_fits_45 kc_0 ?_
    refine J_istore dX12_fits_46 (by decide) (ls' := [.ref v0, .int v1, .int v2, .int v3, .int v4, .int (0 : Int32)]) rfl ?_
    exact J_dr (kX12_fits_48 H ) ⟨rfl, ⟨rfl, ⟨rfl, ⟨rfl, trivial⟩⟩⟩⟩
  · replace H := br0 q16 H
    refine J_iconst (0 : Int32) dX12_fits_37 kc_0 ?_
    cases H
    exact J_iretI dX12_fits_38 rfl
noncomputable def MX12_fits (h : Hp) (v0 : Nat) (v1 : Int32) (v2 : Int32) (v3 : Int32) (v4 : Int32) : Option (Int32 × Hp) :=
  gg (β := (Int32 × Hp)) (kd h v0 = 11) <|
  gg (β := (Int32 × Hp)) (kd h (gP h v0 1) = 20) <|
  gg (β := (Int32 × Hp)) (inB (1 : Int32) (ln h (gP h v0 1)) = true) <|
  Option.bind (α := Int32) (β := (Int32 × Hp)) (MX12_isIn h v3 (0 : Int32) ((gI h (gP h v0 1) (1 : Int32).toNatClampNeg) - (1 : Int32))) fun (t5 : Int32) =>
  if t5 = 0 then
    MX12_fits_27 h v0 v1 v2 v3 v4 v0 (1 : Int32)
  else
    Option.bind (α := Int32) (β := (Int32 × Hp)) (MX12_notFit h v0 v1 v2) fun (t8 : Int32) =>
    MX12_fits_27 h v0 v1 v2 v3 v4 v0 t8
set_option maxRecDepth 100000 in
set_option maxHeartbeats 8000000 in
theorem eX12_fits {d : Nat} {h : Hp} {v0 : Nat} {v1 : Int32} {v2 : Int32} {v3 : Int32} {v4 : Int32} {r : Int32} {h9 : Hp} (H : MX12_fits h v0 v1 v2 v3 v4 = some (r, h9)) : J (d + 63) YX12_fits 0 [.ref v0, .int v1, .int v2, .int v3, .int v4, Value.null] [] h (oI r) h9 := by
  unfold MX12_fits at H
  refine J_aload_n 0 dX12_fits_0 rfl rfl ?_
  refine J_iload_n 3 dX12_fits_1 rfl rfl ?_
  refine J_iconst (0 : Int32) dX12_fits_2 kc_0 ?_
  refine J_aload_n 0 dX12_fits_3 rfl rfl ?_
  obtain ⟨g1, H⟩ := gd H
  refine J_gP 11 1 dX12_fits_4 g1 flX12_8 rfl rfl ?_
  refine J_iconst (1 : Int32) dX12_fits_7 kc_1 ?_
  obtain ⟨g2, H⟩ := gd H
  obtain ⟨g3, H⟩ := gd H
  refine J_iald dX12_fits_8 g2 (inB_ok g3) ?_
  refine J_iconst (1 : Int32) dX12_fits_9 kc_1 ?_
  refine J_isub dX12_fits_10 ?_
  obtain ⟨t5, e4, H⟩ := bd H
  refine J_cS (as := [.int v3, .int (0 : Int32), .int ((gI h (gP h v0 1) (1 : Int32).toNatClampNeg) - (1 : Int32))]) YX12_isIn 3 dX12_fits_11 moX12_isIn msX12_isIn mlX12_157 (okX12_isIn (d := d + 62) e4) rfl rfl [.ref v0] rfl rfl (st2 := [.int t5, .ref v0]) rfl ?_
  refine J_if_ne 21 dX12_fits_14 rfl (fun q6 => ?_) (fun q6 => ?_)
  · replace H := br0 q6 H
    refine J_aload_n 0 dX12_fits_21 rfl rfl ?_
    refine J_iload_n 1 dX12_fits_22 rfl rfl ?_
    refine J_iload_n 2 dX12_fits_23 rfl rfl ?_
    obtain ⟨t8, e7, H⟩ := bd H
    refine J_cV (as := [.int v1, .int v2]) 11 YX12_notFit 2 dX12_fits_24 moX12_notFit mvX12_notFit mlX12_436 g1 rfl rfl (okX12_notFit (d := d + 61) e7) rfl rfl [.ref v0] rfl rfl (st2 := [.int t8, .ref v0]) rfl ?_
    exact J_dr (kX12_fits_27 H ) ⟨rfl, ⟨rfl, ⟨rfl, ⟨rfl, ⟨rfl, trivial⟩⟩⟩⟩⟩
  · replace H := br1 q6 H
    refine J_iconst (1 : Int32) dX12_fits_17 kc_1 ?_
    refine J_goto 27 dX12_fits_18 rfl ?_
    exact J_dr (kX12_fits_27 H ) ⟨rfl, ⟨rfl, ⟨rfl, ⟨rfl, ⟨rfl, trivial⟩⟩⟩⟩⟩
theorem okX12_fits {d : Nat} {h : Hp} {v0 : Nat} {v1 : Int32} {v2 : Int32} {v3 : Int32} {v4 : Int32} {r : Int32} {h9 : Hp} (H : MX12_fits h v0 v1 v2 v3 v4 = some (r, h9)) : CT (d + 63) YX12_fits [.ref v0, .int v1, .int v2, .int v3, .int v4] h (oI r) h9 := CT_of (by decide +kernel) (Nat.le_of_ble_eq_true rfl) (eX12_fits H)
noncomputable def MX12_give_93 (h : Hp) (v0 : Nat) (v1 : Int32) (v2 : Int32) (v3 : Int32) (v4 : Int32) (s0 : Nat) (s1 : Int32) : Option (Int32 × Hp) :=
  gg (β := (Int32 × Hp)) (kd h s0 = 11) <|
  lt (α := Hp) (β := Option (Int32 × Hp)) (sI h s0 0 s1) fun (h26 : Hp) =>
  gg (β := (Int32 × Hp)) (kd h v0 = 11) <|
  if (gI h26 v0 0) ≤ 0 then
    if v4 = 0 then
      gg (β := (Int32 × Hp)) (kd h (gP h v0 1) = 20) <|
      gg (β := (Int32 × Hp)) (inB (v3 + (2 : Int32)) (ln h (gP h v0 1)) = true) <|
      lt (α := Hp) (β := Option (Int32 × Hp)) (sI h26 (gP h v0 1) (v3 + (2 : Int32)).toNatClampNeg (1 : Int32)) fun (h36 : Hp) =>
      b2 (α := Int32) (β := Hp) (γ := (Int32 × Hp)) (MX12_queues h36 v0 v2 v1 (0 : Int32) (0 : Int32) (0 : Int32) (1 : Int32)) fun (t43 : Int32) (h42 : Hp) =>
      some (t43, h42)
    else
      some ((-1 : Int32), h26)
  else
    some ((0 : Int32), h26)
set_option maxRecDepth 100000 in
set_option maxHeartbeats 8000000 in
theorem kX12_give_93 {d : Nat} {h : Hp} {v0 : Nat} {v1 : Int32} {v2 : Int32} {v3 : Int32} {v4 : Int32} {s0 : Nat} {s1 : Int32} {r : Int32} {h9 : Hp} (H : MX12_give_93 h v0 v1 v2 v3 v4 s0 s1 = some (r, h9)) : J (d + 2) YX12_give 93 [.ref v0, .int v1, .int v2, .int v3, .int v4, Value.null] [.int s1, .ref s0] h (oI r) h9 := by
  unfold MX12_give_93 at H
  obtain ⟨g25, H⟩ := gd H
  obtain ⟨h26, e27, H⟩ := lt_el H
  refine J_pI 11 0 dX12_give_93 g25 flX12_122 rfl rfl e27 ?_
  have c28 := ekI e27
  have c29 := elI e27
  have c30 := epI e27
  refine J_aload_n 0 dX12_give_96 rfl rfl ?_
  obtain ⟨g31, H⟩ := gd H
  refine J_getI 11 0 dX12_give_97 (kq c28 g31) flX12_122 rfl ?_
  refine J_if_le 105 dX12_give_100 rfl (fun q32 => ?_) (fun q32 => ?_)
  · replace H := br1 q32 H
    refine J_iload dX12_give_105 rfl ?_
    refine J_if_eq 112 dX12_give_107 rfl (fun q33 => ?_) (fun q33 => ?_)
    · replace H := br1 q33 H
      refine J_aload_n 0 dX12_give_112 rfl rfl ?_
      refine J_gP 11 1 dX12_give_113 (kq c28 g31) flX12_8 rfl (congrFun (congrFun c30 v0) 1) ?_
      refine J_iload_n 3 dX12_give_116 rfl rfl ?_
      refine J_iconst (2 : Int32) dX12_give_117 kc_2 ?_
      refine J_iadd dX12_give_118 ?_
      refine J_iconst (1 : Int32) dX12_give_119 kc_1 ?_
      obtain ⟨g34, H⟩ := gd H
      obtain ⟨g35, H⟩ := gd H
      obtain ⟨h36, e37, H⟩ := lt_el H
      refine J_sI dX12_give_120 (kq c28 g34) (lq c29 g35) e37 ?_
      have c38 := (ekI e37).trans c28
      have c39 := (elI e37).trans c29
      have c40 := (epI e37).trans c30
      refine J_aload_n 0 dX12_give_121 rfl rfl ?_
      refine J_iload_n 2 dX12_give_122 rfl rfl ?_
      refine J_iload_n 1 dX12_give_123 rfl rfl ?_
      refine J_iconst (0 : Int32) dX12_give_124 kc_0 ?_
      refine J_iconst (0 : Int32) dX12_give_125 kc_0 ?_
      refine J_iconst (0 : Int32) dX12_give_126 kc_0 ?_
      refine J_iconst (1 : Int32) dX12_give_127 kc_1 ?_
      obtain ⟨t43, h42, e41, H⟩ := b2_el H
      refine J_cV (as := [.int v2, .int v1, .int (0 : Int32), .int (0 : Int32), .int (0 : Int32), .int (1 : Int32)]) 11 YX12_queues 6 dX12_give_128 moX12_queues mvX12_queues mlX12_369 (kq c38 g31) rfl rfl (okX12_queues (d := d) e41) rfl rfl [] rfl rfl (st2 := [.int t43]) rfl ?_
      cases H
      exact J_iretI dX12_give_131 rfl
    · replace H := br0 q33 H
      refine J_iconst (-1 : Int32) dX12_give_110 kc_m1 ?_
      cases H
      exact J_iretI dX12_give_111 rfl
  · replace H := br0 q32 H
    refine J_iconst (0 : Int32) dX12_give_103 kc_0 ?_
    cases H
    exact J_iretI dX12_give_104 rfl
noncomputable def MX12_give_80 (h : Hp) (v0 : Nat) (v1 : Int32) (v2 : Int32) (v3 : Int32) (v4 : Int32) (s0 : Int32) : Option (Int32 × Hp) :=
  if s0 = 0 then
    MX12_give_93 h v0 v1 v2 v3 v4 v0 (2 : Int32)
  else
    MX12_give_93 h v0 v1 v2 v3 v4 v0 (0 : Int32)
set_option maxRecDepth 100000 in
set_option maxHeartbeats 8000000 in
theorem kX12_give_80 {d : Nat} {h : Hp} {v0 : Nat} {v1 : Int32} {v2 : Int32} {v3 : Int32} {v4 : Int32} {s0 : Int32} {r : Int32} {h9 : Hp} (H : MX12_give_80 h v0 v1 v2 v3 v4 s0 = some (r, h9)) : J (d + 2) YX12_give 80 [.ref v0, .int v1, .int v2, .int v3, .int v4, Value.null] [.int s0] h (oI r) h9 := by
  unfold MX12_give_80 at H
  refine J_istore dX12_give_80 (by decide) (ls' := [.ref v0, .int v1, .int v2, .int v3, .int v4, .int s0]) rfl ?_
  refine J_aload_n 0 dX12_give_82 rfl rfl ?_
  refine J_iload dX12_give_83 rfl ?_
  refine J_if_ne 92 dX12_give_85 rfl (fun q24 => ?_) (fun q24 => ?_)
  · replace H := br0 q24 H
    refine J_iconst (0 : Int32) dX12_give_92 kc_0 ?_
    exact J_dr (kX12_give_93 H ) ⟨rfl, ⟨rfl, ⟨rfl, ⟨rfl, ⟨rfl, trivial⟩⟩⟩⟩⟩
  · replace H := br1 q24 H
    refine J_iconst (2 : Int32) dX12_give_88 kc_2 ?_
    refine J_goto 93 dX12_give_89 rfl ?_
    exact J_dr (kX12_give_93 H ) ⟨rfl, ⟨rfl, ⟨rfl, ⟨rfl, ⟨rfl, trivial⟩⟩⟩⟩⟩
noncomputable def MX12_give_56 (h : Hp) (v0 : Nat) (v1 : Int32) (v2 : Int32) (v3 : Int32) (s0 : Int32) : Option (Int32 × Hp) :=
  gg (β := (Int32 × Hp)) (kd h v0 = 11) <|
  Option.bind (α := Int32) (β := (Int32 × Hp)) (MX12_machine0 h v2) fun (t20 : Int32) =>
  gg (β := (Int32 × Hp)) (kd h (gP h v0 1) = 20) <|
  gg (β := (Int32 × Hp)) (inB (t20 + (29 : Int32)) (ln h (gP h v0 1)) = true) <|
  if (30 : Int32) ≤ (gI h (gP h v0 1) (t20 + (29 : Int32)).toNatClampNeg) then
    MX12_give_80 h v0 v1 v2 v3 s0 (0 : Int32)
  else
    MX12_give_80 h v0 v1 v2 v3 s0 (1 : Int32)
set_option maxRecDepth 100000 in
set_option maxHeartbeats 8000000 in
theorem kX12_give_56 {d : Nat} {h : Hp} {v0 : Nat} {v1 : Int32} {v2 : Int32} {v3 : Int32} {s0 : Int32} {r : Int32} {h9 : Hp} (H : MX12_give_56 h v0 v1 v2 v3 s0 = some (r, h9)) : J (d + 2) YX12_give 56 [.ref v0, .int v1, .int v2, .int v3, Value.null, Value.null] [.int s0] h (oI r) h9 := by
  unfold MX12_give_56 at H
  refine J_istore dX12_give_56 (by decide) (ls' := [.ref v0, .int v1, .int v2, .int v3, .int s0, Value.null]) rfl ?_
  refine J_aload_n 0 dX12_give_58 rfl rfl ?_
  obtain ⟨g18, H⟩ := gd H
  refine J_gP 11 1 dX12_give_59 g18 flX12_8 rfl rfl ?_
  refine J_iload_n 2 dX12_give_62 rfl rfl ?_
  obtain ⟨t20, e19, H⟩ := bd H
  refine J_cS (as := [.int v2]) YX12_machine0 1 dX12_give_63 moX12_machine0 msX12_machine0 mlX12_360 (okX12_machine0 (d := d + 1) e19) rfl rfl [.ref (gP h v0 1)] rfl rfl (st2 := [.int t20, .ref (gP h v0 1)]) rfl ?_
  refine J_bipush (29 : Int32) dX12_give_66 kb_29 ?_
  refine J_iadd dX12_give_68 ?_
  obtain ⟨g21, H⟩ := gd H
  obtain ⟨g22, H⟩ := gd H
  refine J_iald dX12_give_69 g21 (inB_ok g22) ?_
  refine J_bipush (30 : Int32) dX12_give_70 kb_30 ?_
  refine J_icmp_ge 79 dX12_give_72 rfl (fun q23 => ?_) (fun q23 => ?_)
  · replace H := br1 q23 H
    refine J_iconst (0 : Int32) dX12_give_79 kc_0 ?_
    exact J_dr (kX12_give_80 H ) ⟨rfl, ⟨rfl, ⟨rfl, ⟨rfl, ⟨rfl, trivial⟩⟩⟩⟩⟩
  · replace H := br0 q23 H
    refine J_iconst (1 : Int32) dX12_give_75 kc_1 ?_
    refine J_goto 80 dX12_give_76 rfl ?_
    exact J_dr (kX12_give_80 H ) ⟨rfl, ⟨rfl, ⟨rfl, ⟨rfl, ⟨rfl, trivial⟩⟩⟩⟩⟩
noncomputable def MX12_give_22 (h : Hp) (v0 : Nat) (v1 : Int32) (v2 : Int32) (s0 : Nat) (s1 : Int32) : Option (Int32 × Hp) :=
  gg (β := (Int32 × Hp)) (kd h s0 = 11) <|
  lt (α := Hp) (β := Option (Int32 × Hp)) (sI h s0 0 s1) fun (h6 : Hp) =>
  gg (β := (Int32 × Hp)) (kd h v0 = 11) <|
  if (gI h6 v0 0) ≤ 0 then
    Option.bind (α := Int32) (β := (Int32 × Hp)) (MX12_part0 h6 v1) fun (t14 : Int32) =>
    gg (β := (Int32 × Hp)) (kd h (gP h v0 1) = 20) <|
    gg (β := (Int32 × Hp)) (inB (t14 + (2 : Int32)) (ln h (gP h v0 1)) = true) <|
    if (gI h6 (gP h v0 1) (t14 + (2 : Int32)).toNatClampNeg) = (1 : Int32) then
      MX12_give_56 h6 v0 v1 v2 t14 (1 : Int32)
    else
      MX12_give_56 h6 v0 v1 v2 t14 (0 : Int32)
  else
    some ((0 : Int32), h6)
set_option maxRecDepth 100000 in
set_option maxHeartbeats 8000000 in
theorem kX12_give_22 {d : Nat} {h : Hp} {v0 : Nat} {v1 : Int32} {v2 : Int32} {s0 : Nat} {s1 : Int32} {r : Int32} {h9 : Hp} (H : MX12_give_22 h v0 v1 v2 s0 s1 = some (r, h9)) : J (d + 2) YX12_give 22 [.ref v0, .int v1, .int v2, Value.null, Value.null, Value.null] [.int s1, .ref s0] h (oI r) h9 := by
  unfold MX12_give_22 at H
  obtain ⟨g5, H⟩ := gd H
  obtain ⟨h6, e7, H⟩ := lt_el H
  refine J_pI 11 0 dX12_give_22 g5 flX12_122 rfl rfl e7 ?_
  have c8 := ekI e7
  have c9 := elI e7
  have c10 := epI e7
  refine J_aload_n 0 dX12_give_25 rfl rfl ?_
  obtain ⟨g11, H⟩ := gd H
  refine J_getI 11 0 dX12_give_26 (kq c8 g11) flX12_122 rfl ?_
  refine J_if_le 34 dX12_give_29 rfl (fun q12 => ?_) (fun q12 => ?_)
  · replace H := br1 q12 H
    refine J_iload_n 1 dX12_give_34 rfl rfl ?_
    obtain ⟨t14, e13, H⟩ := bd H
    refine J_cS (as := [.int v1]) YX12_part0 1 dX12_give_35 moX12_part0 msX12_part0 mlX12_164 (okX12_part0 (d := d + 1) e13) rfl rfl [] rfl rfl (st2 := [.int t14]) rfl ?_
    refine J_istore_n 3 dX12_give_38 rfl (by decide) (ls' := [.ref v0, .int v1, .int v2, .int t14, Value.null, Value.null]) rfl ?_
    refine J_aload_n 0 dX12_give_39 rfl rfl ?_
    refine J_gP 11 1 dX12_give_40 (kq c8 g11) flX12_8 rfl (congrFun (congrFun c10 v0) 1) ?_
    refine J_iload_n 3 dX12_give_43 rfl rfl ?_
    refine J_iconst (2 : Int32) dX12_give_44 kc_2 ?_
    refine J_iadd dX12_give_45 ?_
    obtain ⟨g15, H⟩ := gd H
    obtain ⟨g16, H⟩ := gd H
    refine J_iald dX12_give_46 (kq c8 g15) (lq c9 g16) ?_
    refine J_iconst (1 : Int32) dX12_give_47 kc_1 ?_
    refine J_icmp_ne 55 dX12_give_48 rfl (fun q17 => ?_) (fun q17 => ?_)
    · replace H := br0 q17 H
      refine J_iconst (0 : Int32) dX12_give_55 kc_0 ?_
      exact J_dr (kX12_give_56 H ) ⟨rfl, ⟨rfl, ⟨rfl, ⟨rfl, trivial⟩⟩⟩⟩
    · replace H := br1 q17 H
      refine J_iconst (1 : Int32) dX12_give_51 kc_1 ?_
      refine J_goto 56 dX12_give_52 rfl ?_
      exact J_dr (kX12_give_56 H ) ⟨rfl, ⟨rfl, ⟨rfl, ⟨rfl, trivial⟩⟩⟩⟩
  · replace H := br0 q12 H
    refine J_iconst (0 : Int32) dX12_give_32 kc_0 ?_
    cases H
    exact J_iretI dX12_give_33 rfl
noncomputable def MX12_give_17 (h : Hp) (v0 : Nat) (v1 : Int32) (v2 : Int32) (s0 : Nat) : Option (Int32 × Hp) :=
  MX12_give_22 h v0 v1 v2 s0 (1 : Int32)
set_option maxRecDepth 100000 in
set_option maxHeartbeats 8000000 in
theorem kX12_give_17 {d : Nat} {h : Hp} {v0 : Nat} {v1 : Int32} {v2 : Int32} {s0 : Nat} {r : Int32} {h9 : Hp} (H : MX12_give_17 h v0 v1 v2 s0 = some (r, h9)) : J (d + 2) YX12_give 17 [.ref v0, .int v1, .int v2, Value.null, Value.null, Value.null] [.ref s0] h (oI r) h9 := by
  unfold MX12_give_17 at H
  refine J_iconst (1 : Int32) dX12_give_17 kc_1 ?_
  refine J_goto 22 dX12_give_18 rfl ?_
  exact J_dr (kX12_give_22 H ) ⟨rfl, ⟨rfl, ⟨rfl, trivial⟩⟩⟩
noncomputable def MX12_give (h : Hp) (v0 : Nat) (v1 : Int32) (v2 : Int32) : Option (Int32 × Hp) :=
  gg (β := (Int32 × Hp)) (kd h v0 = 11) <|
  Option.bind (α := Int32) (β := (Int32 × Hp)) (MX12_isPart h v0 v1) fun (t3 : Int32) =>
  if t3 = 0 then
    MX12_give_17 h v0 v1 v2 v0
  else
    Option.bind (α := Int32) (β := (Int32 × Hp)) (MX12_isMachine h v0 v2) fun (t45 : Int32) =>
    if t45 = 0 then
      MX12_give_17 h v0 v1 v2 v0
    else
      MX12_give_22 h v0 v1 v2 v0 (0 : Int32)
set_option maxRecDepth 100000 in
set_option maxHeartbeats 8000000 in
theorem eX12_give {d : Nat} {h : Hp} {v0 : Nat} {v1 : Int32} {v2 : Int32} {r : Int32} {h9 : Hp} (H : MX12_give h v0 v1 v2 = some (r, h9)) : J (d + 2) YX12_give 0 [.ref v0, .int v1, .int v2, Value.null, Value.null, Value.null] [] h (oI r) h9 := by
  unfold MX12_give at H
  refine J_aload_n 0 dX12_give_0 rfl rfl ?_
  refine J_aload_n 0 dX12_give_1 rfl rfl ?_
  refine J_iload_n 1 dX12_give_2 rfl rfl ?_
  obtain ⟨g2, H⟩ := gd H
  obtain ⟨t3, e1, H⟩ := bd H
  refine J_cV (as := [.int v1]) 11 YX12_isPart 1 dX12_give_3 moX12_isPart mvX12_isPart mlX12_311 g2 rfl rfl (okX12_isPart (d := d + 1) e1) rfl rfl [.ref v0] rfl rfl (st2 := [.int t3, .ref v0]) rfl ?_
  refine J_if_eq 17 dX12_give_6 rfl (fun q4 => ?_) (fun q4 => ?_)
  · replace H := br1 q4 H
    exact J_dr (kX12_give_17 H ) ⟨rfl, ⟨rfl, ⟨rfl, trivial⟩⟩⟩
  · replace H := br0 q4 H
    refine J_aload_n 0 dX12_give_9 rfl rfl ?_
    refine J_iload_n 2 dX12_give_10 rfl rfl ?_
    obtain ⟨t45, e44, H⟩ := bd H
    refine J_cV (as := [.int v2]) 11 YX12_isMachine 1 dX12_give_11 moX12_isMachine mvX12_isMachine mlX12_363 g2 rfl rfl (okX12_isMachine (d := d + 1) e44) rfl rfl [.ref v0] rfl rfl (st2 := [.int t45, .ref v0]) rfl ?_
    refine J_if_ne 21 dX12_give_14 rfl (fun q46 => ?_) (fun q46 => ?_)
    · replace H := br0 q46 H
      refine J_iconst (0 : Int32) dX12_give_21 kc_0 ?_
      exact J_dr (kX12_give_22 H ) ⟨rfl, ⟨rfl, ⟨rfl, trivial⟩⟩⟩
    · replace H := br1 q46 H
      exact J_dr (kX12_give_17 H ) ⟨rfl, ⟨rfl, ⟨rfl, trivial⟩⟩⟩
theorem okX12_give {d : Nat} {h : Hp} {v0 : Nat} {v1 : Int32} {v2 : Int32} {r : Int32} {h9 : Hp} (H : MX12_give h v0 v1 v2 = some (r, h9)) : CT (d + 2) YX12_give [.ref v0, .int v1, .int v2] h (oI r) h9 := CT_of (by decide +kernel) (Nat.le_of_ble_eq_true rfl) (eX12_give H)
noncomputable def MX12_hand_145 (h : Hp) (v2 : Int32) (v5 : Int32) (v6 : Int32) : Option (Int32 × Hp) :=
  if v2 = 0 then
    some (v5, h)
  else
    some (v6, h)
set_option maxRecDepth 100000 in
set_option maxHeartbeats 8000000 in
theorem kX12_hand_145 {d : Nat} {h : Hp} {v2 : Int32} {v5 : Int32} {v6 : Int32} {r : Int32} {h9 : Hp} (H : MX12_hand_145 h v2 v5 v6 = some (r, h9)) : J (d + 4) YX12_hand 145 [Value.null, Value.null, .int v2, Value.null, Value.null, .int v5, .int v6, Value.null, Value.null] [] h (oI r) h9 := by
  unfold MX12_hand_145 at H
  refine J_iload_n 2 dX12_hand_145 rfl rfl ?_
  refine J_if_eq 154 dX12_hand_146 rfl (fun q23 => ?_) (fun q23 => ?_)
  · replace H := br1 q23 H
    refine J_iload dX12_hand_154 rfl ?_
    cases H
    exact J_iretI dX12_hand_156 rfl
  · replace H := br0 q23 H
    refine J_iload dX12_hand_149 rfl ?_
    refine J_goto 156 dX12_hand_151 rfl ?_
    cases H
    exact J_iretI dX12_hand_156 rfl
noncomputable def MX12_hand_133 (h : Hp) (v0 : Nat) (v1 : Int32) (v2 : Int32) (v3 : Int32) (v5 : Int32) (v7 : Int32) (s0 : Int32) (s1 : Int32) : Option ((Int32 × Int32 × Int32) ⊕ (Int32 × Hp)) :=
  some (.inl ((v7 + (1 : Int32)), v5, (s0 + s1)))
set_option maxRecDepth 100000 in
set_option maxHeartbeats 8000000 in
theorem kX12_hand_133 {d : Nat} {h : Hp} {v0 : Nat} {v1 : Int32} {v2 : Int32} {v3 : Int32} {v5 : Int32} {v7 : Int32} {s0 : Int32} {s1 : Int32} {r : Int32} {h9 : Hp} {x : ((Int32 × Int32 × Int32) ⊕ (Int32 × Hp))} (H : MX12_hand_133 h v0 v1 v2 v3 v5 v7 s0 s1 = some x) (hb0 : ∀ s : Int32 × Int32 × Int32, x = .inl s → J (d + 4) YX12_hand 58 [.ref v0, .int v1, .int v2, .int v3, .int s.1, .int s.2.1, .int s.2.2, Value.null, Value.null] [] h (oI r) h9) (hx : ∀ z : (Int32 × Hp), x = .inr (z) → z = (r, h9)) : J (d + 4) YX12_hand 133 [.ref v0, .int v1, .int v2, .int v3, Value.null, .int v5, Value.null, .int v7, Value.null] [.int s1, .int s0] h (oI r) h9 := by
  unfold MX12_hand_133 at H
  refine J_iadd dX12_hand_133 ?_
  refine J_istore dX12_hand_134 (by decide) (ls' := [.ref v0, .int v1, .int v2, .int v3, Value.null, .int v5, .int (s0 + s1), .int v7, Value.null]) rfl ?_
  refine J_iload dX12_hand_136 rfl ?_
  refine J_iconst (1 : Int32) dX12_hand_138 kc_1 ?_
  refine J_iadd dX12_hand_139 ?_
  refine J_istore dX12_hand_140 (by decide) (ls' := [.ref v0, .int v1, .int v2, .int v3, .int (v7 + (1 : Int32)), .int v5, .int (s0 + s1), .int v7, Value.null]) rfl ?_
  refine J_goto 58 dX12_hand_142 rfl ?_
  cases H
  exact J_dr (hb0 _ rfl) ⟨rfl, ⟨rfl, ⟨rfl, ⟨rfl, ⟨rfl, ⟨rfl, ⟨rfl, trivial⟩⟩⟩⟩⟩⟩⟩
noncomputable def MX12_hand_103 (h : Hp) (v0 : Nat) (v1 : Int32) (v2 : Int32) (v3 : Int32) (v4 : Int32) (v5 : Int32) (v6 : Int32) (v7 : Int32) : Option ((Int32 × Int32 × Int32) ⊕ (Int32 × Hp)) :=
  if v7 = (-1 : Int32) then
    some (.inr (((-1 : Int32), h)))
  else
    gg (β := ((Int32 × Int32 × Int32) ⊕ (Int32 × Hp))) (kd h v0 = 11) <|
    Option.bind (α := Int32) (β := ((Int32 × Int32 × Int32) ⊕ (Int32 × Hp))) (MX12_isStanding h v0 v1 v4 v7) fun (t28 : Int32) =>
    if t28 = 0 then
      MX12_hand_133 h v0 v1 v2 v3 (v5 + (1 : Int32)) v7 v6 (1 : Int32)
    else
      MX12_hand_133 h v0 v1 v2 v3 (v5 + (1 : Int32)) v7 v6 (0 : Int32)
set_option maxRecDepth 100000 in
set_option maxHeartbeats 8000000 in
theorem kX12_hand_103 {d : Nat} {h : Hp} {v0 : Nat} {v1 : Int32} {v2 : Int32} {v3 : Int32} {v4 : Int32} {v5 : Int32} {v6 : Int32} {v7 : Int32} {r : Int32} {h9 : Hp} {x : ((Int32 × Int32 × Int32) ⊕ (Int32 × Hp))} (H : MX12_hand_103 h v0 v1 v2 v3 v4 v5 v6 v7 = some x) (hb0 : ∀ s : Int32 × Int32 × Int32, x = .inl s → J (d + 4) YX12_hand 58 [.ref v0, .int v1, .int v2, .int v3, .int s.1, .int s.2.1, .int s.2.2, Value.null, Value.null] [] h (oI r) h9) (hx : ∀ z : (Int32 × Hp), x = .inr (z) → z = (r, h9)) : J (d + 4) YX12_hand 103 [.ref v0, .int v1, .int v2, .int v3, .int v4, .int v5, .int v6, .int v7, Value.null] [] h (oI r) h9 := by
  unfold MX12_hand_103 at H
  refine J_iload dX12_hand_103 rfl ?_
  refine J_iconst (-1 : Int32) dX12_hand_105 kc_m1 ?_
  refine J_icmp_ne 111 dX12_hand_106 rfl (fun q25 => ?_) (fun q25 => ?_)
  · replace H := br0 q25 H
    refine J_iinc (v5 + (1 : Int32)) dX12_hand_111 rfl (congrArg (HAdd.hAdd v5) kc_1) (by decide) (ls' := [.ref v0, .int v1, .int v2, .int v3, .int v4, .int (v5 + (1 : Int32)), .int v6, .int v7, Value.null]) rfl ?_
    refine J_iload dX12_hand_114 rfl ?_
    refine J_aload_n 0 dX12_hand_116 rfl rfl ?_
    refine J_iload_n 1 dX12_hand_117 rfl rfl ?_
    refine J_iload dX12_hand_118 rfl ?_
    refine J_iload dX12_hand_120 rfl ?_
    obtain ⟨g27, H⟩ := gd H
    obtain ⟨t28, e26, H⟩ := bd H
    refine J_cV (as := [.int v1, .int v4, .int v7]) 11 YX12_isStanding 3 dX12_hand_122 moX12_isStanding mvX12_isStanding mlX12_333 g27 rfl rfl (okX12_isStanding (d := d) e26) rfl rfl [.int v6] rfl rfl (st2 := [.int t28, .int v6]) rfl ?_
    refine J_if_eq 132 dX12_hand_125 rfl (fun q29 => ?_) (fun q29 => ?_)
    · replace H := br1 q29 H
      refine J_iconst (1 : Int32) dX12_hand_132 kc_1 ?_
      exact J_dr (kX12_hand_133 H hb0 hx) ⟨rfl, ⟨rfl, ⟨rfl, ⟨rfl, ⟨rfl, ⟨rfl, trivial⟩⟩⟩⟩⟩⟩
    · replace H := br0 q29 H
      refine J_iconst (0 : Int32) dX12_hand_128 kc_0 ?_
      refine J_goto 133 dX12_hand_129 rfl ?_
      exact J_dr (kX12_hand_133 H hb0 hx) ⟨rfl, ⟨rfl, ⟨rfl, ⟨rfl, ⟨rfl, ⟨rfl, trivial⟩⟩⟩⟩⟩⟩
  · replace H := br1 q25 H
    refine J_iconst (-1 : Int32) dX12_hand_109 kc_m1 ?_
    cases H
    cases hx _ rfl
    exact J_iretI dX12_hand_110 rfl
noncomputable def BX12_hand_71 (h : Hp) (v0 : Nat) (v1 : Int32) (v2 : Int32) (v3 : Int32) (v4 : Int32) (v5 : Int32) (v6 : Int32) (v7 : Int32) (v8 : Int32) : Option ((Int32 × Int32) ⊕ ((Int32 × Int32 × Int32) ⊕ (Int32 × Hp))) :=
  if v3 ≤ v8 then
    up1 (MX12_hand_103 h v0 v1 v2 v3 v4 v5 v6 v7)
  else
    gg (β := ((Int32 × Int32) ⊕ ((Int32 × Int32 × Int32) ⊕ (Int32 × Hp)))) (kd h v0 = 11) <|
    Option.bind (α := Int32) (β := ((Int32 × Int32) ⊕ ((Int32 × Int32 × Int32) ⊕ (Int32 × Hp)))) (MX12_tight h v0 v1 v4 v8) fun (t32 : Int32) =>
    if (gI h v0 25) < t32 then
      some (.inl (v7, (v8 + (1 : Int32))))
    else
      some (.inl (v8, (v8 + (1 : Int32))))
set_option maxRecDepth 100000 in
set_option maxHeartbeats 8000000 in
theorem bX12_hand_71 {d : Nat} {h : Hp} {v0 : Nat} {v1 : Int32} {v2 : Int32} {v3 : Int32} {v4 : Int32} {v5 : Int32} {v6 : Int32} {v7 : Int32} {v8 : Int32} {r : Int32} {h9 : Hp} {x : ((Int32 × Int32) ⊕ ((Int32 × Int32 × Int32) ⊕ (Int32 × Hp)))} (H : BX12_hand_71 h v0 v1 v2 v3 v4 v5 v6 v7 v8 = some x) (hb0 : ∀ s : Int32 × Int32, x = .inl s → J (d + 4) YX12_hand 71 [.ref v0, .int v1, .int v2, .int v3, .int v4, .int v5, .int v6, .int s.1, .int s.2] [] h (oI r) h9) (hb1 : ∀ s : Int32 × Int32 × Int32, x = .inr (.inl s) → J (d + 4) YX12_hand 58 [.ref v0, .int v1, .int v2, .int v3, .int s.1, .int s.2.1, .int s.2.2, Value.null, Value.null] [] h (oI r) h9) (hx : ∀ z : (Int32 × Hp), x = .inr (.inr (z)) → z = (r, h9)) : J (d + 4) YX12_hand 71 [.ref v0, .int v1, .int v2, .int v3, .int v4, .int v5, .int v6, .int v7, .int v8] [] h (oI r) h9 := by
  unfold BX12_hand_71 at H
  refine J_iload dX12_hand_71 rfl ?_
  refine J_iload_n 3 dX12_hand_73 rfl rfl ?_
  refine J_icmp_ge 103 dX12_hand_74 rfl (fun q24 => ?_) (fun q24 => ?_)
  · replace H := br1 q24 H
    obtain ⟨y0, H90, rfl⟩ := up1_el H
    replace H := H90
    exact J_dr (kX12_hand_103 H (fun s hs => hb1 s (congrArg Sum.inr hs)) (fun s hs => hx s (congrArg Sum.inr hs))) ⟨rfl, ⟨rfl, ⟨rfl, ⟨rfl, ⟨rfl, ⟨rfl, ⟨rfl, ⟨rfl, trivial⟩⟩⟩⟩⟩⟩⟩⟩
  · replace H := br0 q24 H
    refine J_aload_n 0 dX12_hand_77 rfl rfl ?_
    refine J_iload_n 1 dX12_hand_78 rfl rfl ?_
    refine J_iload dX12_hand_79 rfl ?_
    refine J_iload dX12_hand_81 rfl ?_
    obtain ⟨g31, H⟩ := gd H
    obtain ⟨t32, e30, H⟩ := bd H
    refine J_cV (as := [.int v1, .int v4, .int v8]) 11 YX12_tight 3 dX12_hand_83 moX12_tight mvX12_tight mlX12_327 g31 rfl rfl (okX12_tight (d := d + 1) e30) rfl rfl [] rfl rfl (st2 := [.int t32]) rfl ?_
    refine J_aload_n 0 dX12_hand_86 rfl rfl ?_
    refine J_getI 11 25 dX12_hand_87 g31 flX12_298 rfl ?_
    refine J_icmp_gt 97 dX12_hand_90 rfl (fun q33 => ?_) (fun q33 => ?_)
    · replace H := br1 q33 H
      refine J_iinc (v8 + (1 : Int32)) dX12_hand_97 rfl (congrArg (HAdd.hAdd v8) kc_1) (by decide) (ls' := [.ref v0, .int v1, .int v2, .int v3, .int v4, .int v5, .int v6, .int v7, .int (v8 + (1 : Int32))]) rfl ?_
      refine J_goto 71 dX12_hand_100 rfl ?_
      cases H
      exact J_dr (hb0 _ rfl) ⟨rfl, ⟨rfl, ⟨rfl, ⟨rfl, ⟨rfl, ⟨rfl, ⟨rfl, ⟨rfl, ⟨rfl, trivial⟩⟩⟩⟩⟩⟩⟩⟩⟩
    · replace H := br0 q33 H
      refine J_iload dX12_hand_93 rfl ?_
      refine J_istore dX12_hand_95 (by decide) (ls' := [.ref v0, .int v1, .int v2, .int v3, .int v4, .int v5, .int v6, .int v8, .int v8]) rfl ?_
      refine J_iinc (v8 + (1 : Int32)) dX12_hand_97 rfl (congrArg (HAdd.hAdd v8) kc_1) (by decide) (ls' := [.ref v0, .int v1, .int v2, .int v3, .int v4, .int v5, .int v6, .int v8, .int (v8 + (1 : Int32))]) rfl ?_
      refine J_goto 71 dX12_hand_100 rfl ?_
      cases H
      exact J_dr (hb0 _ rfl) ⟨rfl, ⟨rfl, ⟨rfl, ⟨rfl, ⟨rfl, ⟨rfl, ⟨rfl, ⟨rfl, ⟨rfl, trivial⟩⟩⟩⟩⟩⟩⟩⟩⟩
noncomputable def MX12_hand_71 (h : Hp) (v0 : Nat) (v1 : Int32) (v2 : Int32) (v3 : Int32) (v4 : Int32) (v5 : Int32) (v6 : Int32) (v7 : Int32) (v8 : Int32) : Option ((Int32 × Int32 × Int32) ⊕ (Int32 × Hp)) := it (fun q : Int32 × Int32 => BX12_hand_71 h v0 v1 v2 v3 v4 v5 v6 q.1 q.2) (v7, v8)
set_option maxRecDepth 100000 in
set_option maxHeartbeats 8000000 in
theorem kX12_hand_71 {d : Nat} {h : Hp} {v0 : Nat} {v1 : Int32} {v2 : Int32} {v3 : Int32} {v4 : Int32} {v5 : Int32} {v6 : Int32} {v7 : Int32} {v8 : Int32} {r : Int32} {h9 : Hp} {x : ((Int32 × Int32 × Int32) ⊕ (Int32 × Hp))} (H : MX12_hand_71 h v0 v1 v2 v3 v4 v5 v6 v7 v8 = some x) (hb0 : ∀ s : Int32 × Int32 × Int32, x = .inl s → J (d + 4) YX12_hand 58 [.ref v0, .int v1, .int v2, .int v3, .int s.1, .int s.2.1, .int s.2.2, Value.null, Value.null] [] h (oI r) h9) (hx : ∀ z : (Int32 × Hp), x = .inr (z) → z = (r, h9)) : J (d + 4) YX12_hand 71 [.ref v0, .int v1, .int v2, .int v3, .int v4, .int v5, .int v6, .int v7, .int v8] [] h (oI r) h9 := by
  unfold MX12_hand_71 at H
  refine it_J (G := (fun q : Int32 × Int32 => J (d + 4) YX12_hand 71 [.ref v0, .int v1, .int v2, .int v3, .int v4, .int v5, .int v6, .int q.1, .int q.2] [] h (oI r) h9)) (Q := (fun y : ((Int32 × Int32 × Int32) ⊕ (Int32 × Hp)) => (∀ s : Int32 × Int32 × Int32, y = .inl s → J (d + 4) YX12_hand 58 [.ref v0, .int v1, .int v2, .int v3, .int s.1, .int s.2.1, .int s.2.2, Value.null, Value.null] [] h (oI r) h9) ∧ (∀ z : (Int32 × Hp), y = .inr (z) → z = (r, h9)))) (fun q x Hq hm => ?_) H ⟨hb0, hx⟩
  exact bX12_hand_71 Hq (fun s hs => by subst hs; exact hm) (fun s hs => by subst hs; exact (hm.1) s rfl) (fun z hz => by subst hz; exact (hm.2) z rfl)
noncomputable def BX12_hand_58 (h : Hp) (v0 : Nat) (v1 : Int32) (v2 : Int32) (v3 : Int32) (v4 : Int32) (v5 : Int32) (v6 : Int32) : Option ((Int32 × Int32 × Int32) ⊕ (Int32 × Hp)) :=
  if v3 ≤ v4 then
    up1 (MX12_hand_145 h v2 v5 v6)
  else
    MX12_hand_71 h v0 v1 v2 v3 v4 v5 v6 (-1 : Int32) v4
set_option maxRecDepth 100000 in
set_option maxHeartbeats 8000000 in
theorem bX12_hand_58 {d : Nat} {h : Hp} {v0 : Nat} {v1 : Int32} {v2 : Int32} {v3 : Int32} {v4 : Int32} {v5 : Int32} {v6 : Int32} {r : Int32} {h9 : Hp} {x : ((Int32 × Int32 × Int32) ⊕ (Int32 × Hp))} (H : BX12_hand_58 h v0 v1 v2 v3 v4 v5 v6 = some x) (hb0 : ∀ s : Int32 × Int32 × Int32, x = .inl s → J (d + 4) YX12_hand 58 [.ref v0, .int v1, .int v2, .int v3, .int s.1, .int s.2.1, .int s.2.2, Value.null, Value.null] [] h (oI r) h9) (hx : ∀ z : (Int32 × Hp), x = .inr (z) → z = (r, h9)) : J (d + 4) YX12_hand 58 [.ref v0, .int v1, .int v2, .int v3, .int v4, .int v5, .int v6, Value.null, Value.null] [] h (oI r) h9 := by
  unfold BX12_hand_58 at H
  refine J_iload dX12_hand_58 rfl ?_
  refine J_iload_n 3 dX12_hand_60 rfl rfl ?_
  refine J_icmp_ge 145 dX12_hand_61 rfl (fun q22 => ?_) (fun q22 => ?_)
  · replace H := br1 q22 H
    obtain ⟨y0, H90, rfl⟩ := up1_el H
    replace H := H90
    obtain rfl := hx _ rfl
    exact J_dr (kX12_hand_145 H ) ⟨rfl, ⟨rfl, ⟨rfl, trivial⟩⟩⟩
  · replace H := br0 q22 H
    refine J_iconst (-1 : Int32) dX12_hand_64 kc_m1 ?_
    refine J_istore dX12_hand_65 (by decide) (ls' := [.ref v0, .int v1, .int v2, .int v3, .int v4, .int v5, .int v6, .int (-1 : Int32), Value.null]) rfl ?_
    refine J_iload dX12_hand_67 rfl ?_
    refine J_istore dX12_hand_69 (by decide) (ls' := [.ref v0, .int v1, .int v2, .int v3, .int v4, .int v5, .int v6, .int (-1 : Int32), .int v4]) rfl ?_
    exact J_dr (kX12_hand_71 H hb0 hx) ⟨rfl, ⟨rfl, ⟨rfl, ⟨rfl, ⟨rfl, ⟨rfl, ⟨rfl, ⟨rfl, ⟨rfl, trivial⟩⟩⟩⟩⟩⟩⟩⟩⟩
noncomputable def MX12_hand_58 (h : Hp) (v0 : Nat) (v1 : Int32) (v2 : Int32) (v3 : Int32) (v4 : Int32) (v5 : Int32) (v6 : Int32) : Option (Int32 × Hp) := it (fun q : Int32 × Int32 × Int32 => BX12_hand_58 h v0 v1 v2 v3 q.1 q.2.1 q.2.2) (v4, v5, v6)
set_option maxRecDepth 100000 in
set_option maxHeartbeats 8000000 in
theorem kX12_hand_58 {d : Nat} {h : Hp} {v0 : Nat} {v1 : Int32} {v2 : Int32} {v3 : Int32} {v4 : Int32} {v5 : Int32} {v6 : Int32} {r : Int32} {h9 : Hp} (H : MX12_hand_58 h v0 v1 v2 v3 v4 v5 v6 = some (r, h9)) : J (d + 4) YX12_hand 58 [.ref v0, .int v1, .int v2, .int v3, .int v4, .int v5, .int v6, Value.null, Value.null] [] h (oI r) h9 := by
  unfold MX12_hand_58 at H
  refine it_J (G := (fun q : Int32 × Int32 × Int32 => J (d + 4) YX12_hand 58 [.ref v0, .int v1, .int v2, .int v3, .int q.1, .int q.2.1, .int q.2.2, Value.null, Value.null] [] h (oI r) h9)) (Q := (fun y : (Int32 × Hp) => y = (r, h9))) (fun q x Hq hm => ?_) H rfl
  exact bX12_hand_58 Hq (fun s hs => by subst hs; exact hm) (fun z hz => by subst hz; exact hm)
noncomputable def MX12_hand_14 (h : Hp) (v0 : Nat) (v1 : Int32) (v2 : Int32) (s0 : Nat) (s1 : Int32) : Option (Int32 × Hp) :=
  gg (β := (Int32 × Hp)) (kd h s0 = 11) <|
  lt (α := Hp) (β := Option (Int32 × Hp)) (sI h s0 0 s1) fun (h6 : Hp) =>
  gg (β := (Int32 × Hp)) (kd h v0 = 11) <|
  if (gI h6 v0 0) ≤ 0 then
    gg (β := (Int32 × Hp)) (kd h (gP h v0 1) = 20) <|
    gg (β := (Int32 × Hp)) (inB (0 : Int32) (ln h (gP h v0 1)) = true) <|
    Option.bind (α := Hp) (β := (Int32 × Hp)) (MX12_tells h6 v0 v1 (gI h6 (gP h v0 1) (0 : Int32).toNatClampNeg)) fun (h16 : Hp) =>
    gg (β := (Int32 × Hp)) (kd h16 v0 = 11) <|
    Option.bind (α := Int32) (β := (Int32 × Hp)) (MX12_part0 h16 v1) fun (t19 : Int32) =>
    gg (β := (Int32 × Hp)) (kd h16 (gP h16 v0 1) = 20) <|
    gg (β := (Int32 × Hp)) (inB (t19 + (1 : Int32)) (ln h16 (gP h16 v0 1)) = true) <|
    MX12_hand_58 h16 v0 v1 v2 (gI h16 (gP h16 v0 1) (t19 + (1 : Int32)).toNatClampNeg) (0 : Int32) (0 : Int32) (0 : Int32)
  else
    some ((0 : Int32), h6)
set_option maxRecDepth 100000 in
set_option maxHeartbeats 8000000 in
theorem kX12_hand_14 {d : Nat} {h : Hp} {v0 : Nat} {v1 : Int32} {v2 : Int32} {s0 : Nat} {s1 : Int32} {r : Int32} {h9 : Hp} (H : MX12_hand_14 h v0 v1 v2 s0 s1 = some (r, h9)) : J (d + 4) YX12_hand 14 [.ref v0, .int v1, .int v2, Value.null, Value.null, Value.null, Value.null, Value.null, Value.null] [.int s1, .ref s0] h (oI r) h9 := by
  unfold MX12_hand_14 at H
  obtain ⟨g5, H⟩ := gd H
  obtain ⟨h6, e7, H⟩ := lt_el H
  refine J_pI 11 0 dX12_hand_14 g5 flX12_122 rfl rfl e7 ?_
  have c8 := ekI e7
  have c9 := elI e7
  have c10 := epI e7
  refine J_aload_n 0 dX12_hand_17 rfl rfl ?_
  obtain ⟨g11, H⟩ := gd H
  refine J_getI 11 0 dX12_hand_18 (kq c8 g11) flX12_122 rfl ?_
  refine J_if_le 26 dX12_hand_21 rfl (fun q12 => ?_) (fun q12 => ?_)
  · replace H := br1 q12 H
    refine J_aload_n 0 dX12_hand_26 rfl rfl ?_
    refine J_iload_n 1 dX12_hand_27 rfl rfl ?_
    refine J_aload_n 0 dX12_hand_28 rfl rfl ?_
    refine J_gP 11 1 dX12_hand_29 (kq c8 g11) flX12_8 rfl (congrFun (congrFun c10 v0) 1) ?_
    refine J_iconst (0 : Int32) dX12_hand_32 kc_0 ?_
    obtain ⟨g13, H⟩ := gd H
    obtain ⟨g14, H⟩ := gd H
    refine J_iald dX12_hand_33 (kq c8 g13) (lq c9 g14) ?_
    obtain ⟨h16, e15, H⟩ := bd H
    refine J_cV (as := [.int v1, .int (gI h6 (gP h v0 1) (0 : Int32).toNatClampNeg)]) 11 YX12_tells 2 dX12_hand_34 moX12_tells mvX12_tells mlX12_314 (kq c8 g11) rfl rfl (okX12_tells (d := d + 1) e15) rfl rfl [] rfl rfl (st2 := []) rfl ?_
    refine J_aload_n 0 dX12_hand_37 rfl rfl ?_
    obtain ⟨g17, H⟩ := gd H
    refine J_gP 11 1 dX12_hand_38 g17 flX12_8 rfl rfl ?_
    refine J_iload_n 1 dX12_hand_41 rfl rfl ?_
    obtain ⟨t19, e18, H⟩ := bd H
    refine J_cS (as := [.int v1]) YX12_part0 1 dX12_hand_42 moX12_part0 msX12_part0 mlX12_164 (okX12_part0 (d := d + 3) e18) rfl rfl [.ref (gP h16 v0 1)] rfl rfl (st2 := [.int t19, .ref (gP h16 v0 1)]) rfl ?_
    refine J_iconst (1 : Int32) dX12_hand_45 kc_1 ?_
    refine J_iadd dX12_hand_46 ?_
    obtain ⟨g20, H⟩ := gd H
    obtain ⟨g21, H⟩ := gd H
    refine J_iald dX12_hand_47 g20 (inB_ok g21) ?_
    refine J_istore_n 3 dX12_hand_48 rfl (by decide) (ls' := [.ref v0, .int v1, .int v2, .int (gI h16 (gP h16 v0 1) (t19 + (1 : Int32)).toNatClampNeg), Value.null, Value.null, Value.null, Value.null, Value.null]) rfl ?_
    refine J_iconst (0 : Int32) dX12_hand_49 kc_0 ?_
    refine J_istore dX12_hand_50 (by decide) (ls' := [.ref v0, .int v1, .int v2, .int (gI h16 (gP h16 v0 1) (t19 + (1 : Int32)).toNatClampNeg), .int (0 : Int32), Value.null, Value.null, Value.null, Value.null]) rfl ?_
    refine J_iconst (0 : Int32) dX12_hand_52 kc_0 ?_
    refine J_istore dX12_hand_53 (by decide) (ls' := [.ref v0, .int v1, .int v2, .int (gI h16 (gP h16 v0 1) (t19 + (1 : Int32)).toNatClampNeg), .int (0 : Int32), .int (0 : Int32), Value.null, Value.null, Value.null]) rfl ?_
    refine J_iconst (0 : Int32) dX12_hand_55 kc_0 ?_
    refine J_istore dX12_hand_56 (by decide) (ls' := [.ref v0, .int v1, .int v2, .int (gI h16 (gP h16 v0 1) (t19 + (1 : Int32)).toNatClampNeg), .int (0 : Int32), .int (0 : Int32), .int (0 : Int32), Value.null, Value.null]) rfl ?_
    exact J_dr (kX12_hand_58 H ) ⟨rfl, ⟨rfl, ⟨rfl, ⟨rfl, ⟨rfl, ⟨rfl, ⟨rfl, trivial⟩⟩⟩⟩⟩⟩⟩
  · replace H := br0 q12 H
    refine J_iconst (0 : Int32) dX12_hand_24 kc_0 ?_
    cases H
    exact J_iretI dX12_hand_25 rfl
noncomputable def MX12_hand (h : Hp) (v0 : Nat) (v1 : Int32) (v2 : Int32) : Option (Int32 × Hp) :=
  gg (β := (Int32 × Hp)) (kd h v0 = 11) <|
  Option.bind (α := Int32) (β := (Int32 × Hp)) (MX12_isPart h v0 v1) fun (t3 : Int32) =>
  if t3 = 0 then
    MX12_hand_14 h v0 v1 v2 v0 (1 : Int32)
  else
    MX12_hand_14 h v0 v1 v2 v0 (0 : Int32)
set_option maxRecDepth 100000 in
set_option maxHeartbeats 8000000 in
theorem eX12_hand {d : Nat} {h : Hp} {v0 : Nat} {v1 : Int32} {v2 : Int32} {r : Int32} {h9 : Hp} (H : MX12_hand h v0 v1 v2 = some (r, h9)) : J (d + 4) YX12_hand 0 [.ref v0, .int v1, .int v2, Value.null, Value.null, Value.null, Value.null, Value.null, Value.null] [] h (oI r) h9 := by
  unfold MX12_hand at H
  refine J_aload_n 0 dX12_hand_0 rfl rfl ?_
  refine J_aload_n 0 dX12_hand_1 rfl rfl ?_
  refine J_iload_n 1 dX12_hand_2 rfl rfl ?_
  obtain ⟨g2, H⟩ := gd H
  obtain ⟨t3, e1, H⟩ := bd H
  refine J_cV (as := [.int v1]) 11 YX12_isPart 1 dX12_hand_3 moX12_isPart mvX12_isPart mlX12_311 g2 rfl rfl (okX12_isPart (d := d + 3) e1) rfl rfl [.ref v0] rfl rfl (st2 := [.int t3, .ref v0]) rfl ?_
  refine J_if_ne 13 dX12_hand_6 rfl (fun q4 => ?_) (fun q4 => ?_)
  · replace H := br0 q4 H
    refine J_iconst (0 : Int32) dX12_hand_13 kc_0 ?_
    exact J_dr (kX12_hand_14 H ) ⟨rfl, ⟨rfl, ⟨rfl, trivial⟩⟩⟩
  · replace H := br1 q4 H
    refine J_iconst (1 : Int32) dX12_hand_9 kc_1 ?_
    refine J_goto 14 dX12_hand_10 rfl ?_
    exact J_dr (kX12_hand_14 H ) ⟨rfl, ⟨rfl, ⟨rfl, trivial⟩⟩⟩
theorem okX12_hand {d : Nat} {h : Hp} {v0 : Nat} {v1 : Int32} {v2 : Int32} {r : Int32} {h9 : Hp} (H : MX12_hand h v0 v1 v2 = some (r, h9)) : CT (d + 4) YX12_hand [.ref v0, .int v1, .int v2] h (oI r) h9 := CT_of (by decide +kernel) (Nat.le_of_ble_eq_true rfl) (eX12_hand H)
noncomputable def MX12_image (h : Hp) (v0 : Nat) : Option Hp :=
  gg (β := Hp) (kd h v0 = 11) <|
  lt (α := Hp) (β := Option Hp) (sI h v0 0 (0 : Int32)) fun (h2 : Hp) =>
  gg (β := Hp) (kd h (gP h v0 1) = 20) <|
  gg (β := Hp) (kd h (gP h v0 2) = 20) <|
  gg (β := Hp) (cpB (0 : Int32) (0 : Int32) (337220 : Int32) (ln h2 (gP h v0 1)) (ln h2 (gP h v0 2)) = true) <|
  lt (α := Hp) (β := Option Hp) (rI h2 (gP h v0 2) (va_cpy (gI h2 (gP h v0 1)) (gI h2 (gP h v0 2)) (0 : Int32).toNatClampNeg (0 : Int32).toNatClampNeg (337220 : Int32).toNatClampNeg)) fun (h10 : Hp) =>
  lt (α := Hp) (β := Option Hp) (sI h10 v0 4 (1 : Int32)) fun (h15 : Hp) =>
  some h15
set_option maxRecDepth 100000 in
set_option maxHeartbeats 8000000 in
theorem eX12_image {d : Nat} {h : Hp} {v0 : Nat} {h9 : Hp} (H : MX12_image h v0 = some h9) : J (d) YX12_image 0 [.ref v0] [] h oV h9 := by
  unfold MX12_image at H
  refine J_aload_n 0 dX12_image_0 rfl rfl ?_
  refine J_iconst (0 : Int32) dX12_image_1 kc_0 ?_
  obtain ⟨g1, H⟩ := gd H
  obtain ⟨h2, e3, H⟩ := lt_el H
  refine J_pI 11 0 dX12_image_2 g1 flX12_122 rfl rfl e3 ?_
  have c4 := ekI e3
  have c5 := elI e3
  have c6 := epI e3
  refine J_aload_n 0 dX12_image_5 rfl rfl ?_
  refine J_gP 11 1 dX12_image_6 (kq c4 g1) flX12_8 rfl (congrFun (congrFun c6 v0) 1) ?_
  refine J_iconst (0 : Int32) dX12_image_9 kc_0 ?_
  refine J_aload_n 0 dX12_image_10 rfl rfl ?_
  refine J_gP 11 2 dX12_image_11 (kq c4 g1) flX12_14 rfl (congrFun (congrFun c6 v0) 2) ?_
  refine J_iconst (0 : Int32) dX12_image_14 kc_0 ?_
  refine J_ldc (337220 : Int32) coX12_7 dX12_image_15 ?_
  obtain ⟨g7, H⟩ := gd H
  obtain ⟨g8, H⟩ := gd H
  obtain ⟨g9, H⟩ := gd H
  obtain ⟨h10, e11, H⟩ := lt_el H
  refine J_cp 20 dX12_image_17 mlX12_467 (Or.inl rfl) (kq c4 g7) (kq c4 g8) g9 rfl e11 ?_
  have c12 := (ekR e11).trans c4
  have c13 := (elR e11).trans c5
  have c14 := (epR e11).trans c6
  refine J_aload_n 0 dX12_image_20 rfl rfl ?_
  refine J_iconst (1 : Int32) dX12_image_21 kc_1 ?_
  obtain ⟨h15, e16, H⟩ := lt_el H
  refine J_pZ 11 4 dX12_image_22 (kq c12 g1) flX12_484 rfl rfl rfl e16 ?_
  have c17 := (ekI e16).trans c12
  have c18 := (elI e16).trans c13
  have c19 := (epI e16).trans c14
  cases H
  exact J_ret dX12_image_25 rfl
theorem okX12_image {d : Nat} {h : Hp} {v0 : Nat} {h9 : Hp} (H : MX12_image h v0 = some h9) : CT (d) YX12_image [.ref v0] h oV h9 := CT_of (by decide +kernel) (Nat.le_of_ble_eq_true rfl) (eX12_image H)
noncomputable def MX12_isRight_139 (h : Hp) (v0 : Nat) (v4 : Int32) (v6 : Int32) (s0 : Int32) : Option ((Int32 × Int32) ⊕ (Int32 × Hp)) :=
  some (.inl (s0, (v6 + (1 : Int32))))
set_option maxRecDepth 100000 in
set_option maxHeartbeats 8000000 in
theorem kX12_isRight_139 {d : Nat} {h : Hp} {v0 : Nat} {v4 : Int32} {v6 : Int32} {s0 : Int32} {r : Int32} {h9 : Hp} {x : ((Int32 × Int32) ⊕ (Int32 × Hp))} (H : MX12_isRight_139 h v0 v4 v6 s0 = some x) (hb0 : ∀ s : Int32 × Int32, x = .inl s → J (d + 2) YX12_isRight 96 [.ref v0, Value.null, Value.null, Value.null, .int v4, .int s.1, .int s.2] [] h (oI r) h9) (hx : ∀ z : (Int32 × Hp), x = .inr (z) → z = (r, h9)) : J (d + 2) YX12_isRight 139 [.ref v0, Value.null, Value.null, Value.null, .int v4, Value.null, .int v6] [.int s0] h (oI r) h9 := by
  unfold MX12_isRight_139 at H
  refine J_istore dX12_isRight_139 (by decide) (ls' := [.ref v0, Value.null, Value.null, Value.null, .int v4, .int s0, .int v6]) rfl ?_
  refine J_iinc (v6 + (1 : Int32)) dX12_isRight_141 rfl (congrArg (HAdd.hAdd v6) kc_1) (by decide) (ls' := [.ref v0, Value.null, Value.null, Value.null, .int v4, .int s0, .int (v6 + (1 : Int32))]) rfl ?_
  refine J_goto 96 dX12_isRight_144 rfl ?_
  cases H
  exact J_dr (hb0 _ rfl) ⟨rfl, ⟨rfl, ⟨rfl, ⟨rfl, trivial⟩⟩⟩⟩
noncomputable def BX12_isRight_96 (h : Hp) (v0 : Nat) (v4 : Int32) (v5 : Int32) (v6 : Int32) : Option ((Int32 × Int32) ⊕ (Int32 × Hp)) :=
  gg (β := ((Int32 × Int32) ⊕ (Int32 × Hp))) (kd h v0 = 11) <|
  if (gI h v0 35) ≤ v6 then
    gg (β := ((Int32 × Int32) ⊕ (Int32 × Hp))) (zOk v5 = true) <|
    some (.inr ((v5, h)))
  else
    if v5 = 0 then
      gg (β := ((Int32 × Int32) ⊕ (Int32 × Hp))) (zOk v5 = true) <|
      some (.inr ((v5, h)))
    else
      gg (β := ((Int32 × Int32) ⊕ (Int32 × Hp))) (kd h (gP h v0 1) = 20) <|
      gg (β := ((Int32 × Int32) ⊕ (Int32 × Hp))) (inB ((v4 + (432 : Int32)) + v6) (ln h (gP h v0 1)) = true) <|
      gg (β := ((Int32 × Int32) ⊕ (Int32 × Hp))) (kd h (gP h v0 34) = 20) <|
      gg (β := ((Int32 × Int32) ⊕ (Int32 × Hp))) (inB v6 (ln h (gP h v0 34)) = true) <|
      if (gI h (gP h v0 1) ((v4 + (432 : Int32)) + v6).toNatClampNeg) = (gI h (gP h v0 34) v6.toNatClampNeg) then
        MX12_isRight_139 h v0 v4 v6 (1 : Int32)
      else
        MX12_isRight_139 h v0 v4 v6 (0 : Int32)
set_option maxRecDepth 100000 in
set_option maxHeartbeats 8000000 in
theorem bX12_isRight_96 {d : Nat} {h : Hp} {v0 : Nat} {v4 : Int32} {v5 : Int32} {v6 : Int32} {r : Int32} {h9 : Hp} {x : ((Int32 × Int32) ⊕ (Int32 × Hp))} (H : BX12_isRight_96 h v0 v4 v5 v6 = some x) (hb0 : ∀ s : Int32 × Int32, x = .inl s → J (d + 2) YX12_isRight 96 [.ref v0, Value.null, Value.null, Value.null, .int v4, .int s.1, .int s.2] [] h (oI r) h9) (hx : ∀ z : (Int32 × Hp), x = .inr (z) → z = (r, h9)) : J (d + 2) YX12_isRight 96 [.ref v0, Value.null, Value.null, Value.null, .int v4, .int v5, .int v6] [] h (oI r) h9 := by
  unfold BX12_isRight_96 at H
  refine J_iload dX12_isRight_96 rfl ?_
  refine J_aload_n 0 dX12_isRight_98 rfl rfl ?_
  obtain ⟨g17, H⟩ := gd H
  refine J_getI 11 35 dX12_isRight_99 g17 flX12_351 rfl ?_
  refine J_icmp_ge 147 dX12_isRight_102 rfl (fun q18 => ?_) (fun q18 => ?_)
  · replace H := br1 q18 H
    refine J_iload dX12_isRight_147 rfl ?_
    obtain ⟨g19, H⟩ := gd H
    cases H
    cases hx _ rfl
    exact J_rZ dX12_isRight_149 rfl g19
  · replace H := br0 q18 H
    refine J_iload dX12_isRight_105 rfl ?_
    refine J_if_eq 147 dX12_isRight_107 rfl (fun q20 => ?_) (fun q20 => ?_)
    · replace H := br1 q20 H
      refine J_iload dX12_isRight_147 rfl ?_
      obtain ⟨g21, H⟩ := gd H
      cases H
      cases hx _ rfl
      exact J_rZ dX12_isRight_149 rfl g21
    · replace H := br0 q20 H
      refine J_aload_n 0 dX12_isRight_110 rfl rfl ?_
      refine J_gP 11 1 dX12_isRight_111 g17 flX12_8 rfl rfl ?_
      refine J_iload dX12_isRight_114 rfl ?_
      refine J_sipush (432 : Int32) dX12_isRight_116 ks_432 ?_
      refine J_iadd dX12_isRight_119 ?_
      refine J_iload dX12_isRight_120 rfl ?_
      refine J_iadd dX12_isRight_122 ?_
      obtain ⟨g22, H⟩ := gd H
      obtain ⟨g23, H⟩ := gd H
      refine J_iald dX12_isRight_123 g22 (inB_ok g23) ?_
      refine J_aload_n 0 dX12_isRight_124 rfl rfl ?_
      refine J_gP 11 34 dX12_isRight_125 g17 flX12_64 rfl rfl ?_
      refine J_iload dX12_isRight_128 rfl ?_
      obtain ⟨g24, H⟩ := gd H
      obtain ⟨g25, H⟩ := gd H
      refine J_iald dX12_isRight_130 g24 (inB_ok g25) ?_
      refine J_icmp_ne 138 dX12_isRight_131 rfl (fun q26 => ?_) (fun q26 => ?_)
      · replace H := br0 q26 H
        refine J_iconst (0 : Int32) dX12_isRight_138 kc_0 ?_
        exact J_dr (kX12_isRight_139 H hb0 hx) ⟨rfl, ⟨rfl, ⟨rfl, trivial⟩⟩⟩
      · replace H := br1 q26 H
        refine J_iconst (1 : Int32) dX12_isRight_134 kc_1 ?_
        refine J_goto 139 dX12_isRight_135 rfl ?_
        exact J_dr (kX12_isRight_139 H hb0 hx) ⟨rfl, ⟨rfl, ⟨rfl, trivial⟩⟩⟩
noncomputable def MX12_isRight_96 (h : Hp) (v0 : Nat) (v4 : Int32) (v5 : Int32) (v6 : Int32) : Option (Int32 × Hp) := it (fun q : Int32 × Int32 => BX12_isRight_96 h v0 v4 q.1 q.2) (v5, v6)
set_option maxRecDepth 100000 in
set_option maxHeartbeats 8000000 in
theorem kX12_isRight_96 {d : Nat} {h : Hp} {v0 : Nat} {v4 : Int32} {v5 : Int32} {v6 : Int32} {r : Int32} {h9 : Hp} (H : MX12_isRight_96 h v0 v4 v5 v6 = some (r, h9)) : J (d + 2) YX12_isRight 96 [.ref v0, Value.null, Value.null, Value.null, .int v4, .int v5, .int v6] [] h (oI r) h9 := by
  unfold MX12_isRight_96 at H
  refine it_J (G := (fun q : Int32 × Int32 => J (d + 2) YX12_isRight 96 [.ref v0, Value.null, Value.null, Value.null, .int v4, .int q.1, .int q.2] [] h (oI r) h9)) (Q := (fun y : (Int32 × Hp) => y = (r, h9))) (fun q x Hq hm => ?_) H rfl
  exact bX12_isRight_96 Hq (fun s hs => by subst hs; exact hm) (fun z hz => by subst hz; exact hm)
noncomputable def MX12_isRight_91 (h : Hp) (v0 : Nat) (v4 : Int32) (s0 : Int32) : Option (Int32 × Hp) :=
  MX12_isRight_96 h v0 v4 s0 (0 : Int32)
set_option maxRecDepth 100000 in
set_option maxHeartbeats 8000000 in
theorem kX12_isRight_91 {d : Nat} {h : Hp} {v0 : Nat} {v4 : Int32} {s0 : Int32} {r : Int32} {h9 : Hp} (H : MX12_isRight_91 h v0 v4 s0 = some (r, h9)) : J (d + 2) YX12_isRight 91 [.ref v0, Value.null, Value.null, Value.null, .int v4, Value.null, Value.null] [.int s0] h (oI r) h9 := by
  unfold MX12_isRight_91 at H
  refine J_istore dX12_isRight_91 (by decide) (ls' := [.ref v0, Value.null, Value.null, Value.null, .int v4, .int s0, Value.null]) rfl ?_
  refine J_iconst (0 : Int32) dX12_isRight_93 kc_0 ?_
  refine J_istore dX12_isRight_94 (by decide) (ls' := [.ref v0, Value.null, Value.null, Value.null, .int v4, .int s0, .int (0 : Int32)]) rfl ?_
  exact J_dr (kX12_isRight_96 H ) ⟨rfl, ⟨rfl, ⟨rfl, ⟨rfl, trivial⟩⟩⟩⟩
noncomputable def MX12_isRight_90 (h : Hp) (v0 : Nat) (v4 : Int32) : Option (Int32 × Hp) :=
  MX12_isRight_91 h v0 v4 (0 : Int32)
set_option maxRecDepth 100000 in
set_option maxHeartbeats 8000000 in
theorem kX12_isRight_90 {d : Nat} {h : Hp} {v0 : Nat} {v4 : Int32} {r : Int32} {h9 : Hp} (H : MX12_isRight_90 h v0 v4 = some (r, h9)) : J (d + 2) YX12_isRight 90 [.ref v0, Value.null, Value.null, Value.null, .int v4, Value.null, Value.null] [] h (oI r) h9 := by
  unfold MX12_isRight_90 at H
  refine J_iconst (0 : Int32) dX12_isRight_90 kc_0 ?_
  exact J_dr (kX12_isRight_91 H ) ⟨rfl, ⟨rfl, trivial⟩⟩
noncomputable def MX12_isRight (h : Hp) (v0 : Nat) (v1 : Int32) (v2 : Int32) : Option (Int32 × Hp) :=
  gg (β := (Int32 × Hp)) (kd h v0 = 11) <|
  Option.bind (α := Int32) (β := (Int32 × Hp)) (MX12_part0 h v1) fun (t3 : Int32) =>
  gg (β := (Int32 × Hp)) (kd h (gP h v0 1) = 20) <|
  gg (β := (Int32 × Hp)) (inB ((t3 + (45 : Int32)) + v2) (ln h (gP h v0 1)) = true) <|
  lt (α := Int32) (β := Option (Int32 × Hp)) ((gI h (gP h v0 1) ((t3 + (45 : Int32)) + v2).toNatClampNeg) - (1 : Int32)) fun (w6 : Int32) =>
  if w6 = (-1 : Int32) then
    some ((0 : Int32), h)
  else
    Option.bind (α := Int32) (β := (Int32 × Hp)) (MX12_slug0 h w6) fun (t10 : Int32) =>
    Option.bind (α := Hp) (β := (Int32 × Hp)) (MX12_write h v0 v1 v2) fun (h12 : Hp) =>
    gg (β := (Int32 × Hp)) (kd h12 v0 = 11) <|
    gg (β := (Int32 × Hp)) (kd h12 (gP h12 v0 1) = 20) <|
    gg (β := (Int32 × Hp)) (inB (t10 + (9 : Int32)) (ln h12 (gP h12 v0 1)) = true) <|
    if (gI h12 (gP h12 v0 1) (t10 + (9 : Int32)).toNatClampNeg) = (gI h12 v0 35) then
      gg (β := (Int32 × Hp)) (inB (t10 + (0 : Int32)) (ln h12 (gP h12 v0 1)) = true) <|
      gg (β := (Int32 × Hp)) (inB ((70 : Int32) + ((gI h12 (gP h12 v0 1) (t10 + (0 : Int32)).toNatClampNeg) / (5 : Int32))) (ln h12 (gP h12 v0 1)) = true) <|
      gg (β := (Int32 × Hp)) (inB ((70 : Int32) + (v1 / (5 : Int32))) (ln h12 (gP h12 v0 1)) = true) <|
      if (gI h12 (gP h12 v0 1) ((70 : Int32) + ((gI h12 (gP h12 v0 1) (t10 + (0 : Int32)).toNatClampNeg) / (5 : Int32))).toNatClampNeg) = (gI h12 (gP h12 v0 1) ((70 : Int32) + (v1 / (5 : Int32))).toNatClampNeg) then
        MX12_isRight_91 h12 v0 t10 (1 : Int32)
      else
        MX12_isRight_90 h12 v0 t10
    else
      MX12_isRight_90 h12 v0 t10
set_option maxRecDepth 100000 in
set_option maxHeartbeats 8000000 in
theorem eX12_isRight {d : Nat} {h : Hp} {v0 : Nat} {v1 : Int32} {v2 : Int32} {r : Int32} {h9 : Hp} (H : MX12_isRight h v0 v1 v2 = some (r, h9)) : J (d + 2) YX12_isRight 0 [.ref v0, .int v1, .int v2, Value.null, Value.null, Value.null, Value.null] [] h (oI r) h9 := by
  unfold MX12_isRight at H
  refine J_aload_n 0 dX12_isRight_0 rfl rfl ?_
  obtain ⟨g1, H⟩ := gd H
  refine J_gP 11 1 dX12_isRight_1 g1 flX12_8 rfl rfl ?_
  refine J_iload_n 1 dX12_isRight_4 rfl rfl ?_
  obtain ⟨t3, e2, H⟩ := bd H
  refine J_cS (as := [.int v1]) YX12_part0 1 dX12_isRight_5 moX12_part0 msX12_part0 mlX12_164 (okX12_part0 (d := d + 1) e2) rfl rfl [.ref (gP h v0 1)] rfl rfl (st2 := [.int t3, .ref (gP h v0 1)]) rfl ?_
  refine J_bipush (45 : Int32) dX12_isRight_8 kb_45 ?_
  refine J_iadd dX12_isRight_10 ?_
  refine J_iload_n 2 dX12_isRight_11 rfl rfl ?_
  refine J_iadd dX12_isRight_12 ?_
  obtain ⟨g4, H⟩ := gd H
  obtain ⟨g5, H⟩ := gd H
  refine J_iald dX12_isRight_13 g4 (inB_ok g5) ?_
  refine J_iconst (1 : Int32) dX12_isRight_14 kc_1 ?_
  refine J_isub dX12_isRight_15 ?_
  obtain ⟨w6, e7, H⟩ := lt_el H
  refine J_nmI e7 ?_
  refine J_istore_n 3 dX12_isRight_16 rfl (by decide) (ls' := [.ref v0, .int v1, .int v2, .int w6, Value.null, Value.null, Value.null]) rfl ?_
  refine J_iload_n 3 dX12_isRight_17 rfl rfl ?_
  refine J_iconst (-1 : Int32) dX12_isRight_18 kc_m1 ?_
  refine J_icmp_ne 24 dX12_isRight_19 rfl (fun q8 => ?_) (fun q8 => ?_)
  · replace H := br0 q8 H
    refine J_iload_n 3 dX12_isRight_24 rfl rfl ?_
    obtain ⟨t10, e9, H⟩ := bd H
    refine J_cS (as := [.int w6]) YX12_slug0 1 dX12_isRight_25 moX12_slug0 msX12_slug0 mlX12_342 (okX12_slug0 (d := d + 1) e9) rfl rfl [] rfl rfl (st2 := [.int t10]) rfl ?_
    refine J_istore dX12_isRight_28 (by decide) (ls' := [.ref v0, .int v1, .int v2, .int w6, .int t10, Value.null, Value.null]) rfl ?_
    refine J_aload_n 0 dX12_isRight_30 rfl rfl ?_
    refine J_iload_n 1 dX12_isRight_31 rfl rfl ?_
    refine J_iload_n 2 dX12_isRight_32 rfl rfl ?_
    obtain ⟨h12, e11, H⟩ := bd H
    refine J_cV (as := [.int v1, .int v2]) 11 YX12_write 2 dX12_isRight_33 moX12_write mvX12_write mlX12_357 g1 rfl rfl (okX12_write (d := d) e11) rfl rfl [] rfl rfl (st2 := []) rfl ?_
    refine J_aload_n 0 dX12_isRight_36 rfl rfl ?_
    obtain ⟨g13, H⟩ := gd H
    refine J_gP 11 1 dX12_isRight_37 g13 flX12_8 rfl rfl ?_
    refine J_iload dX12_isRight_40 rfl ?_
    refine J_bipush (9 : Int32) dX12_isRight_42 kb_9 ?_
    refine J_iadd dX12_isRight_44 ?_
    obtain ⟨g14, H⟩ := gd H
    obtain ⟨g15, H⟩ := gd H
    refine J_iald dX12_isRight_45 g14 (inB_ok g15) ?_
    refine J_aload_n 0 dX12_isRight_46 rfl rfl ?_
    refine J_getI 11 35 dX12_isRight_47 g13 flX12_351 rfl ?_
    refine J_icmp_ne 90 dX12_isRight_50 rfl (fun q16 => ?_) (fun q16 => ?_)
    · replace H := br0 q16 H
      exact J_dr (kX12_isRight_90 H ) ⟨rfl, ⟨rfl, trivial⟩⟩
    · replace H := br1 q16 H
      refine J_aload_n 0 dX12_isRight_53 rfl rfl ?_
      refine J_gP 11 1 dX12_isRight_54 g13 flX12_8 rfl rfl ?_
      refine J_bipush (70 : Int32) dX12_isRight_57 kb_70 ?_
      refine J_aload_n 0 dX12_isRight_59 rfl rfl ?_
      refine J_gP 11 1 dX12_isRight_60 g13 flX12_8 rfl rfl ?_
      refine J_iload dX12_isRight_63 rfl ?_
      refine J_iconst (0 : Int32) dX12_isRight_65 kc_0 ?_
      refine J_iadd dX12_isRight_66 ?_
      obtain ⟨g27, H⟩ := gd H
      refine J_iald dX12_isRight_67 g14 (inB_ok g27) ?_
      refine J_iconst (5 : Int32) dX12_isRight_68 kc_5 ?_
      refine J_idiv dX12_isRight_69 (by decide) ?_
      refine J_iadd dX12_isRight_70 ?_
      obtain ⟨g28, H⟩ := gd H
      refine J_iald dX12_isRight_71 g14 (inB_ok g28) ?_
      refine J_aload_n 0 dX12_isRight_72 rfl rfl ?_
      refine J_gP 11 1 dX12_isRight_73 g13 flX12_8 rfl rfl ?_
      refine J_bipush (70 : Int32) dX12_isRight_76 kb_70 ?_
      refine J_iload_n 1 dX12_isRight_78 rfl rfl ?_
      refine J_iconst (5 : Int32) dX12_isRight_79 kc_5 ?_
      refine J_idiv dX12_isRight_80 (by decide) ?_
      refine J_iadd dX12_isRight_81 ?_
      obtain ⟨g29, H⟩ := gd H
      refine J_iald dX12_isRight_82 g14 (inB_ok g29) ?_
      refine J_icmp_ne 90 dX12_isRight_83 rfl (fun q30 => ?_) (fun q30 => ?_)
      · replace H := br0 q30 H
        exact J_dr (kX12_isRight_90 H ) ⟨rfl, ⟨rfl, trivial⟩⟩
      · replace H := br1 q30 H
        refine J_iconst (1 : Int32) dX12_isRight_86 kc_1 ?_
        refine J_goto 91 dX12_isRight_87 rfl ?_
        exact J_dr (kX12_isRight_91 H ) ⟨rfl, ⟨rfl, trivial⟩⟩
  · replace H := br1 q8 H
    refine J_iconst (0 : Int32) dX12_isRight_22 kc_0 ?_
    cases H
    exact J_rZ dX12_isRight_23 rfl rfl
theorem okX12_isRight {d : Nat} {h : Hp} {v0 : Nat} {v1 : Int32} {v2 : Int32} {r : Int32} {h9 : Hp} (H : MX12_isRight h v0 v1 v2 = some (r, h9)) : CT (d + 2) YX12_isRight [.ref v0, .int v1, .int v2] h (oI r) h9 := CT_of (by decide +kernel) (Nat.le_of_ble_eq_true rfl) (eX12_isRight H)
noncomputable def MX12_isRow (h : Hp) (v0 : Nat) (v1 : Int32) (v2 : Int32) : Option Int32 :=
  gg (β := Int32) (kd h v0 = 11) <|
  gg (β := Int32) (kd h (gP h v0 1) = 20) <|
  gg (β := Int32) (inB (7 : Int32) (ln h (gP h v0 1)) = true) <|
  Option.bind (α := Int32) (β := Int32) (MX12_isIn h v1 (0 : Int32) ((gI h (gP h v0 1) (7 : Int32).toNatClampNeg) - (1 : Int32))) fun (t5 : Int32) =>
  if t5 = 0 then
    some (0 : Int32)
  else
    Option.bind (α := Int32) (β := Int32) (MX12_isIn h v2 (0 : Int32) (3 : Int32)) fun (t8 : Int32) =>
    if t8 = 0 then
      some (0 : Int32)
    else
      some (1 : Int32)
set_option maxRecDepth 100000 in
set_option maxHeartbeats 8000000 in
theorem eX12_isRow {d : Nat} {h : Hp} {v0 : Nat} {v1 : Int32} {v2 : Int32} {r : Int32} (H : MX12_isRow h v0 v1 v2 = some r) : J (d + 1) YX12_isRow 0 [.ref v0, .int v1, .int v2] [] h (oI r) h := by
  unfold MX12_isRow at H
  refine J_iload_n 1 dX12_isRow_0 rfl rfl ?_
  refine J_iconst (0 : Int32) dX12_isRow_1 kc_0 ?_
  refine J_aload_n 0 dX12_isRow_2 rfl rfl ?_
  obtain ⟨g1, H⟩ := gd H
  refine J_gP 11 1 dX12_isRow_3 g1 flX12_8 rfl rfl ?_
  refine J_bipush (7 : Int32) dX12_isRow_6 kb_7 ?_
  obtain ⟨g2, H⟩ := gd H
  obtain ⟨g3, H⟩ := gd H
  refine J_iald dX12_isRow_8 g2 (inB_ok g3) ?_
  refine J_iconst (1 : Int32) dX12_isRow_9 kc_1 ?_
  refine J_isub dX12_isRow_10 ?_
  obtain ⟨t5, e4, H⟩ := bd H
  refine J_cS (as := [.int v1, .int (0 : Int32), .int ((gI h (gP h v0 1) (7 : Int32).toNatClampNeg) - (1 : Int32))]) YX12_isIn 3 dX12_isRow_11 moX12_isIn msX12_isIn mlX12_157 (okX12_isIn (d := d) e4) rfl rfl [] rfl rfl (st2 := [.int t5]) rfl ?_
  refine J_if_eq 30 dX12_isRow_14 rfl (fun q6 => ?_) (fun q6 => ?_)
  · replace H := br1 q6 H
    refine J_iconst (0 : Int32) dX12_isRow_30 kc_0 ?_
    cases H
    exact J_rZ dX12_isRow_31 rfl rfl
  · replace H := br0 q6 H
    refine J_iload_n 2 dX12_isRow_17 rfl rfl ?_
    refine J_iconst (0 : Int32) dX12_isRow_18 kc_0 ?_
    refine J_iconst (3 : Int32) dX12_isRow_19 kc_3 ?_
    obtain ⟨t8, e7, H⟩ := bd H
    refine J_cS (as := [.int v2, .int (0 : Int32), .int (3 : Int32)]) YX12_isIn 3 dX12_isRow_20 moX12_isIn msX12_isIn mlX12_157 (okX12_isIn (d := d) e7) rfl rfl [] rfl rfl (st2 := [.int t8]) rfl ?_
    refine J_if_eq 30 dX12_isRow_23 rfl (fun q9 => ?_) (fun q9 => ?_)
    · replace H := br1 q9 H
      refine J_iconst (0 : Int32) dX12_isRow_30 kc_0 ?_
      cases H
      exact J_rZ dX12_isRow_31 rfl rfl
    · replace H := br0 q9 H
      refine J_iconst (1 : Int32) dX12_isRow_26 kc_1 ?_
      refine J_goto 31 dX12_isRow_27 rfl ?_
      cases H
      exact J_rZ dX12_isRow_31 rfl rfl
theorem okX12_isRow {d : Nat} {h : Hp} {v0 : Nat} {v1 : Int32} {v2 : Int32} {r : Int32} (H : MX12_isRow h v0 v1 v2 = some r) : CT (d + 1) YX12_isRow [.ref v0, .int v1, .int v2] h (oI r) h := CT_of (by decide +kernel) (Nat.le_of_ble_eq_true rfl) (eX12_isRow H)
noncomputable def BX12_judge_46 (h : Hp) (v0 : Nat) (v1 : Int32) (v2 : Int32) : Option ((Int32 × Hp) ⊕ (Int32 × Hp)) :=
  gg (β := ((Int32 × Hp) ⊕ (Int32 × Hp))) (kd h v0 = 11) <|
  Option.bind (α := Int32) (β := ((Int32 × Hp) ⊕ (Int32 × Hp))) (MX12_part0 h v1) fun (t20 : Int32) =>
  gg (β := ((Int32 × Hp) ⊕ (Int32 × Hp))) (kd h (gP h v0 1) = 20) <|
  gg (β := ((Int32 × Hp) ⊕ (Int32 × Hp))) (inB (t20 + (4 : Int32)) (ln h (gP h v0 1)) = true) <|
  if (gI h (gP h v0 1) (t20 + (4 : Int32)).toNatClampNeg) ≤ v2 then
    some (.inr (((-1 : Int32), h)))
  else
    b2 (α := Int32) (β := Hp) (γ := ((Int32 × Hp) ⊕ (Int32 × Hp))) (MX12_isRight h v0 v1 v2) fun (t26 : Int32) (h25 : Hp) =>
    if t26 = 0 then
      some (.inr ((v2, h25)))
    else
      some (.inl ((v2 + (1 : Int32)), h25))
set_option maxRecDepth 100000 in
set_option maxHeartbeats 8000000 in
theorem bX12_judge_46 {d : Nat} {h : Hp} {v0 : Nat} {v1 : Int32} {v2 : Int32} {r : Int32} {h9 : Hp} {x : ((Int32 × Hp) ⊕ (Int32 × Hp))} (H : BX12_judge_46 h v0 v1 v2 = some x) (hb0 : ∀ s : Int32 × Hp, x = .inl s → J (d + 3) YX12_judge 46 [.ref v0, .int v1, .int s.1] [] s.2 (oI r) h9) (hx : ∀ z : (Int32 × Hp), x = .inr (z) → z = (r, h9)) : J (d + 3) YX12_judge 46 [.ref v0, .int v1, .int v2] [] h (oI r) h9 := by
  unfold BX12_judge_46 at H
  refine J_iload_n 2 dX12_judge_46 rfl rfl ?_
  refine J_aload_n 0 dX12_judge_47 rfl rfl ?_
  obtain ⟨g18, H⟩ := gd H
  refine J_gP 11 1 dX12_judge_48 g18 flX12_8 rfl rfl ?_
  refine J_iload_n 1 dX12_judge_51 rfl rfl ?_
  obtain ⟨t20, e19, H⟩ := bd H
  refine J_cS (as := [.int v1]) YX12_part0 1 dX12_judge_52 moX12_part0 msX12_part0 mlX12_164 (okX12_part0 (d := d + 2) e19) rfl rfl [.ref (gP h v0 1), .int v2] rfl rfl (st2 := [.int t20, .ref (gP h v0 1), .int v2]) rfl ?_
  refine J_iconst (4 : Int32) dX12_judge_55 kc_4 ?_
  refine J_iadd dX12_judge_56 ?_
  obtain ⟨g21, H⟩ := gd H
  obtain ⟨g22, H⟩ := gd H
  refine J_iald dX12_judge_57 g21 (inB_ok g22) ?_
  refine J_icmp_ge 78 dX12_judge_58 rfl (fun q23 => ?_) (fun q23 => ?_)
  · replace H := br1 q23 H
    refine J_iconst (-1 : Int32) dX12_judge_78 kc_m1 ?_
    cases H
    cases hx _ rfl
    exact J_iretI dX12_judge_79 rfl
  · replace H := br0 q23 H
    refine J_aload_n 0 dX12_judge_61 rfl rfl ?_
    refine J_iload_n 1 dX12_judge_62 rfl rfl ?_
    refine J_iload_n 2 dX12_judge_63 rfl rfl ?_
    obtain ⟨t26, h25, e24, H⟩ := b2_el H
    refine J_cV (as := [.int v1, .int v2]) 11 YX12_isRight 2 dX12_judge_64 moX12_isRight mvX12_isRight mlX12_339 g18 rfl rfl (okX12_isRight (d := d) e24) rfl rfl [] rfl rfl (st2 := [.int t26]) rfl ?_
    refine J_if_ne 72 dX12_judge_67 rfl (fun q27 => ?_) (fun q27 => ?_)
    · replace H := br0 q27 H
      refine J_iinc (v2 + (1 : Int32)) dX12_judge_72 rfl (congrArg (HAdd.hAdd v2) kc_1) (by decide) (ls' := [.ref v0, .int v1, .int (v2 + (1 : Int32))]) rfl ?_
      refine J_goto 46 dX12_judge_75 rfl ?_
      cases H
      exact J_dr (hb0 _ rfl) ⟨rfl, ⟨rfl, ⟨rfl, trivial⟩⟩⟩
    · replace H := br1 q27 H
      refine J_iload_n 2 dX12_judge_70 rfl rfl ?_
      cases H
      cases hx _ rfl
      exact J_iretI dX12_judge_71 rfl
noncomputable def MX12_judge_46 (h : Hp) (v0 : Nat) (v1 : Int32) (v2 : Int32) : Option (Int32 × Hp) := it (fun q : Int32 × Hp => BX12_judge_46 q.2 v0 v1 q.1) (v2, h)
set_option maxRecDepth 100000 in
set_option maxHeartbeats 8000000 in
theorem kX12_judge_46 {d : Nat} {h : Hp} {v0 : Nat} {v1 : Int32} {v2 : Int32} {r : Int32} {h9 : Hp} (H : MX12_judge_46 h v0 v1 v2 = some (r, h9)) : J (d + 3) YX12_judge 46 [.ref v0, .int v1, .int v2] [] h (oI r) h9 := by
  unfold MX12_judge_46 at H
  refine it_J (G := (fun q : Int32 × Hp => J (d + 3) YX12_judge 46 [.ref v0, .int v1, .int q.1] [] q.2 (oI r) h9)) (Q := (fun y : (Int32 × Hp) => y = (r, h9))) (fun q x Hq hm => ?_) H rfl
  exact bX12_judge_46 Hq (fun s hs => by subst hs; exact hm) (fun z hz => by subst hz; exact hm)
noncomputable def MX12_judge_32 (h : Hp) (v0 : Nat) (v1 : Int32) (s0 : Nat) (s1 : Int32) : Option (Int32 × Hp) :=
  gg (β := (Int32 × Hp)) (kd h s0 = 11) <|
  lt (α := Hp) (β := Option (Int32 × Hp)) (sI h s0 0 s1) fun (h11 : Hp) =>
  gg (β := (Int32 × Hp)) (kd h v0 = 11) <|
  if (gI h11 v0 0) ≤ 0 then
    MX12_judge_46 h11 v0 v1 (0 : Int32)
  else
    some ((0 : Int32), h11)
set_option maxRecDepth 100000 in
set_option maxHeartbeats 8000000 in
theorem kX12_judge_32 {d : Nat} {h : Hp} {v0 : Nat} {v1 : Int32} {s0 : Nat} {s1 : Int32} {r : Int32} {h9 : Hp} (H : MX12_judge_32 h v0 v1 s0 s1 = some (r, h9)) : J (d + 3) YX12_judge 32 [.ref v0, .int v1, Value.null] [.int s1, .ref s0] h (oI r) h9 := by
  unfold MX12_judge_32 at H
  obtain ⟨g10, H⟩ := gd H
  obtain ⟨h11, e12, H⟩ := lt_el H
  refine J_pI 11 0 dX12_judge_32 g10 flX12_122 rfl rfl e12 ?_
  have c13 := ekI e12
  have c14 := elI e12
  have c15 := epI e12
  refine J_aload_n 0 dX12_judge_35 rfl rfl ?_
  obtain ⟨g16, H⟩ := gd H
  refine J_getI 11 0 dX12_judge_36 (kq c13 g16) flX12_122 rfl ?_
  refine J_if_le 44 dX12_judge_39 rfl (fun q17 => ?_) (fun q17 => ?_)
  · replace H := br1 q17 H
    refine J_iconst (0 : Int32) dX12_judge_44 kc_0 ?_
    refine J_istore_n 2 dX12_judge_45 rfl (by decide) (ls' := [.ref v0, .int v1, .int (0 : Int32)]) rfl ?_
    exact J_dr (kX12_judge_46 H ) ⟨rfl, ⟨rfl, ⟨rfl, trivial⟩⟩⟩
  · replace H := br0 q17 H
    refine J_iconst (0 : Int32) dX12_judge_42 kc_0 ?_
    cases H
    exact J_iretI dX12_judge_43 rfl
noncomputable def MX12_judge (h : Hp) (v0 : Nat) (v1 : Int32) : Option (Int32 × Hp) :=
  gg (β := (Int32 × Hp)) (kd h v0 = 11) <|
  Option.bind (α := Int32) (β := (Int32 × Hp)) (MX12_isPart h v0 v1) fun (t3 : Int32) =>
  if t3 = 0 then
    MX12_judge_32 h v0 v1 v0 (1 : Int32)
  else
    Option.bind (α := Int32) (β := (Int32 × Hp)) (MX12_part0 h v1) fun (t6 : Int32) =>
    gg (β := (Int32 × Hp)) (kd h (gP h v0 1) = 20) <|
    gg (β := (Int32 × Hp)) (inB (t6 + (3 : Int32)) (ln h (gP h v0 1)) = true) <|
    if (gI h (gP h v0 1) (t6 + (3 : Int32)).toNatClampNeg) = 0 then
      MX12_judge_32 h v0 v1 v0 (2 : Int32)
    else
      MX12_judge_32 h v0 v1 v0 (0 : Int32)
set_option maxRecDepth 100000 in
set_option maxHeartbeats 8000000 in
theorem eX12_judge {d : Nat} {h : Hp} {v0 : Nat} {v1 : Int32} {r : Int32} {h9 : Hp} (H : MX12_judge h v0 v1 = some (r, h9)) : J (d + 3) YX12_judge 0 [.ref v0, .int v1, Value.null] [] h (oI r) h9 := by
  unfold MX12_judge at H
  refine J_aload_n 0 dX12_judge_0 rfl rfl ?_
  refine J_aload_n 0 dX12_judge_1 rfl rfl ?_
  refine J_iload_n 1 dX12_judge_2 rfl rfl ?_
  obtain ⟨g2, H⟩ := gd H
  obtain ⟨t3, e1, H⟩ := bd H
  refine J_cV (as := [.int v1]) 11 YX12_isPart 1 dX12_judge_3 moX12_isPart mvX12_isPart mlX12_311 g2 rfl rfl (okX12_isPart (d := d + 2) e1) rfl rfl [.ref v0] rfl rfl (st2 := [.int t3, .ref v0]) rfl ?_
  refine J_if_ne 13 dX12_judge_6 rfl (fun q4 => ?_) (fun q4 => ?_)
  · replace H := br0 q4 H
    refine J_aload_n 0 dX12_judge_13 rfl rfl ?_
    refine J_gP 11 1 dX12_judge_14 g2 flX12_8 rfl rfl ?_
    refine J_iload_n 1 dX12_judge_17 rfl rfl ?_
    obtain ⟨t6, e5, H⟩ := bd H
    refine J_cS (as := [.int v1]) YX12_part0 1 dX12_judge_18 moX12_part0 msX12_part0 mlX12_164 (okX12_part0 (d := d + 2) e5) rfl rfl [.ref (gP h v0 1), .ref v0] rfl rfl (st2 := [.int t6, .ref (gP h v0 1), .ref v0]) rfl ?_
    refine J_iconst (3 : Int32) dX12_judge_21 kc_3 ?_
    refine J_iadd dX12_judge_22 ?_
    obtain ⟨g7, H⟩ := gd H
    obtain ⟨g8, H⟩ := gd H
    refine J_iald dX12_judge_23 g7 (inB_ok g8) ?_
    refine J_if_ne 31 dX12_judge_24 rfl (fun q9 => ?_) (fun q9 => ?_)
    · replace H := br0 q9 H
      refine J_iconst (0 : Int32) dX12_judge_31 kc_0 ?_
      exact J_dr (kX12_judge_32 H ) ⟨rfl, ⟨rfl, trivial⟩⟩
    · replace H := br1 q9 H
      refine J_iconst (2 : Int32) dX12_judge_27 kc_2 ?_
      refine J_goto 32 dX12_judge_28 rfl ?_
      exact J_dr (kX12_judge_32 H ) ⟨rfl, ⟨rfl, trivial⟩⟩
  · replace H := br1 q4 H
    refine J_iconst (1 : Int32) dX12_judge_9 kc_1 ?_
    refine J_goto 32 dX12_judge_10 rfl ?_
    exact J_dr (kX12_judge_32 H ) ⟨rfl, ⟨rfl, trivial⟩⟩
theorem okX12_judge {d : Nat} {h : Hp} {v0 : Nat} {v1 : Int32} {r : Int32} {h9 : Hp} (H : MX12_judge h v0 v1 = some (r, h9)) : CT (d + 3) YX12_judge [.ref v0, .int v1] h (oI r) h9 := CT_of (by decide +kernel) (Nat.le_of_ble_eq_true rfl) (eX12_judge H)
noncomputable def MX12_place_156 (rc : Nat → Hp → Nat → Int32 → Int32 → Int32 → Option Hp) (h : Hp) (v0 : Nat) (v1 : Int32) (v2 : Int32) (v3 : Int32) (v4 : Int32) (v5 : Int32) (s0 : Nat) (s1 : Int32) (s2 : Int32) (s3 : Int32) (s4 : Int32) : Option ((Int32 × Hp) ⊕ ((Int32 × Hp) ⊕ Hp)) :=
  gg (β := ((Int32 × Hp) ⊕ ((Int32 × Hp) ⊕ Hp))) (kd h s0 = 11) <|
  Option.bind (α := Hp) (β := ((Int32 × Hp) ⊕ ((Int32 × Hp) ⊕ Hp))) (rc 0 h s0 s1 s2 (s3 + s4)) fun (h33 : Hp) =>
  gg (β := ((Int32 × Hp) ⊕ ((Int32 × Hp) ⊕ Hp))) (kd h33 v0 = 11) <|
  gg (β := ((Int32 × Hp) ⊕ ((Int32 × Hp) ⊕ Hp))) (kd h33 (gP h33 v0 55) = 20) <|
  gg (β := ((Int32 × Hp) ⊕ ((Int32 × Hp) ⊕ Hp))) (inB v5 (ln h33 (gP h33 v0 55)) = true) <|
  gg (β := ((Int32 × Hp) ⊕ ((Int32 × Hp) ⊕ Hp))) (kd h33 (gP h33 v0 54) = 20) <|
  gg (β := ((Int32 × Hp) ⊕ ((Int32 × Hp) ⊕ Hp))) (inB v4 (ln h33 (gP h33 v0 54)) = true) <|
  lt (α := Hp) (β := Option ((Int32 × Hp) ⊕ ((Int32 × Hp) ⊕ Hp))) (sI h33 (gP h33 v0 55) v5.toNatClampNeg ((gI h33 (gP h33 v0 55) v5.toNatClampNeg) - (gI h33 (gP h33 v0 54) v4.toNatClampNeg))) fun (h39 : Hp) =>
  some (.inl ((v5 + (1 : Int32)), h39))
set_option maxRecDepth 100000 in
set_option maxHeartbeats 8000000 in
theorem kX12_place_156 {d u : Nat} {rc : Nat → Hp → Nat → Int32 → Int32 → Int32 → Option Hp} {h : Hp} {v0 : Nat} {v1 : Int32} {v2 : Int32} {v3 : Int32} {v4 : Int32} {v5 : Int32} {s0 : Nat} {s1 : Int32} {s2 : Int32} {s3 : Int32} {s4 : Int32} {h9 : Hp} {x : ((Int32 × Hp) ⊕ ((Int32 × Hp) ⊕ Hp))} (hrc : ∀ (t : Nat) (h : Hp) (a0 : Nat) (a1 : Int32) (a2 : Int32) (a3 : Int32) (h1 : Hp), rc t h a0 a1 a2 a3 = some h1 → CT (d + u + 0) ((fun _ => YX12_place) t) [.ref a0, .int a1, .int a2, .int a3] h (oV) h1) (H : MX12_place_156 rc h v0 v1 v2 v3 v4 v5 s0 s1 s2 s3 s4 = some x) (hb0 : ∀ s : Int32 × Hp, x = .inl s → J (d + u + 0 + 1) YX12_place 59 [.ref v0, .int v1, .int v2, .int v3, .int v4, .int s.1, Value.null] [] s.2 oV h9) (hb1 : ∀ s : Int32 × Hp, x = .inr (.inl s) → J (d + u + 0 + 1) YX12_place 34 [.ref v0, .int v1, .int v2, .int v3, .int s.1, Value.null, Value.null] [] s.2 oV h9) (hx : ∀ z : Hp, x = .inr (.inr (z)) → z = h9) : J (d + u + 0 + 1) YX12_place 156 [.ref v0, .int v1, .int v2, .int v3, .int v4, .int v5, Value.null] [.int s4, .int s3, .int s2, .int s1, .ref s0] h oV h9 := by
  unfold MX12_place_156 at H
  refine J_iadd dX12_place_156 ?_
  obtain ⟨g32, H⟩ := gd H
  obtain ⟨h33, e31, H⟩ := bd H
  refine J_cV (as := [.int s1, .int s2, .int (s3 + s4)]) 11 YX12_place 3 dX12_place_157 moX12_place mvX12_place mlX12_464 g32 rfl rfl (hrc 0 _ _ _ _ _ _ e31) rfl rfl [] rfl rfl (st2 := []) rfl ?_
  refine J_aload_n 0 dX12_place_160 rfl rfl ?_
  obtain ⟨g34, H⟩ := gd H
  refine J_gP 11 55 dX12_place_161 g34 flX12_118 rfl rfl ?_
  refine J_iload dX12_place_164 rfl ?_
  refine J_dup2 dX12_place_166 rfl rfl ?_
  obtain ⟨g35, H⟩ := gd H
  obtain ⟨g36, H⟩ := gd H
  refine J_iald dX12_place_167 g35 (inB_ok g36) ?_
  refine J_aload_n 0 dX12_place_168 rfl rfl ?_
  refine J_gP 11 54 dX12_place_169 g34 flX12_115 rfl rfl ?_
  refine J_iload dX12_place_172 rfl ?_
  obtain ⟨g37, H⟩ := gd H
  obtain ⟨g38, H⟩ := gd H
  refine J_iald dX12_place_174 g37 (inB_ok g38) ?_
  refine J_isub dX12_place_175 ?_
  obtain ⟨h39, e40, H⟩ := lt_el H
  refine J_sI dX12_place_176 g35 (inB_ok g36) e40 ?_
  have c41 := ekI e40
  have c42 := elI e40
  have c43 := epI e40
  refine J_iinc (v5 + (1 : Int32)) dX12_place_177 rfl (congrArg (HAdd.hAdd v5) kc_1) (by decide) (ls' := [.ref v0, .int v1, .int v2, .int v3, .int v4, .int (v5 + (1 : Int32)), Value.null]) rfl ?_
  refine J_goto 59 dX12_place_180 rfl ?_
  cases H
  exact J_dr (hb0 _ rfl) ⟨rfl, ⟨rfl, ⟨rfl, ⟨rfl, ⟨rfl, ⟨rfl, trivial⟩⟩⟩⟩⟩⟩
noncomputable def BX12_place_59 (rc : Nat → Hp → Nat → Int32 → Int32 → Int32 → Option Hp) (h : Hp) (v0 : Nat) (v1 : Int32) (v2 : Int32) (v3 : Int32) (v4 : Int32) (v5 : Int32) : Option ((Int32 × Hp) ⊕ ((Int32 × Hp) ⊕ Hp)) :=
  gg (β := ((Int32 × Hp) ⊕ ((Int32 × Hp) ⊕ Hp))) (kd h v0 = 11) <|
  gg (β := ((Int32 × Hp) ⊕ ((Int32 × Hp) ⊕ Hp))) (kd h (gP h v0 1) = 20) <|
  gg (β := ((Int32 × Hp) ⊕ ((Int32 × Hp) ⊕ Hp))) (inB (3 : Int32) (ln h (gP h v0 1)) = true) <|
  if (gI h (gP h v0 1) (3 : Int32).toNatClampNeg) ≤ v5 then
    some (.inr (.inl ((v4 + (1 : Int32)), h)))
  else
    Option.bind (α := Int32) (β := ((Int32 × Hp) ⊕ ((Int32 × Hp) ⊕ Hp))) (MX12_machine0 h v5) fun (t13 : Int32) =>
    gg (β := ((Int32 × Hp) ⊕ ((Int32 × Hp) ⊕ Hp))) (inB (t13 + (28 : Int32)) (ln h (gP h v0 1)) = true) <|
    if (gI h (gP h v0 1) (t13 + (28 : Int32)).toNatClampNeg) = (1 : Int32) then
      some (.inl ((v5 + (1 : Int32)), h))
    else
      gg (β := ((Int32 × Hp) ⊕ ((Int32 × Hp) ⊕ Hp))) (kd h (gP h v0 55) = 20) <|
      gg (β := ((Int32 × Hp) ⊕ ((Int32 × Hp) ⊕ Hp))) (inB v5 (ln h (gP h v0 55)) = true) <|
      gg (β := ((Int32 × Hp) ⊕ ((Int32 × Hp) ⊕ Hp))) (kd h (gP h v0 54) = 20) <|
      gg (β := ((Int32 × Hp) ⊕ ((Int32 × Hp) ⊕ Hp))) (inB v4 (ln h (gP h v0 54)) = true) <|
      lt (α := Hp) (β := Option ((Int32 × Hp) ⊕ ((Int32 × Hp) ⊕ Hp))) (sI h (gP h v0 55) v5.toNatClampNeg ((gI h (gP h v0 55) v5.toNatClampNeg) + (gI h (gP h v0 54) v4.toNatClampNeg))) fun (h20 : Hp) =>
      gg (β := ((Int32 × Hp) ⊕ ((Int32 × Hp) ⊕ Hp))) (kd h (gP h v0 53) = 20) <|
      gg (β := ((Int32 × Hp) ⊕ ((Int32 × Hp) ⊕ Hp))) (inB v4 (ln h (gP h v0 53)) = true) <|
      gg (β := ((Int32 × Hp) ⊕ ((Int32 × Hp) ⊕ Hp))) (inB ((90 : Int32) + ((gI h20 (gP h v0 53) v4.toNatClampNeg) / (5 : Int32))) (ln h (gP h v0 1)) = true) <|
      lt (α := Int32) (β := Option ((Int32 × Hp) ⊕ ((Int32 × Hp) ⊕ Hp))) ((gI h20 (gP h v0 55) v5.toNatClampNeg) - (gI h20 (gP h v0 1) ((90 : Int32) + ((gI h20 (gP h v0 53) v4.toNatClampNeg) / (5 : Int32))).toNatClampNeg)) fun (w28 : Int32) =>
      if w28 ≤ 0 then
        MX12_place_156 rc h20 v0 v1 v2 v3 v4 v5 v0 (v1 ||| ((1 : Int32) <<< (v4 &&& 31))) (v2 + (1 : Int32)) v3 (0 : Int32)
      else
        MX12_place_156 rc h20 v0 v1 v2 v3 v4 v5 v0 (v1 ||| ((1 : Int32) <<< (v4 &&& 31))) (v2 + (1 : Int32)) v3 w28
set_option maxRecDepth 100000 in
set_option maxHeartbeats 8000000 in
theorem bX12_place_59 {d u : Nat} {rc : Nat → Hp → Nat → Int32 → Int32 → Int32 → Option Hp} {h : Hp} {v0 : Nat} {v1 : Int32} {v2 : Int32} {v3 : Int32} {v4 : Int32} {v5 : Int32} {h9 : Hp} {x : ((Int32 × Hp) ⊕ ((Int32 × Hp) ⊕ Hp))} (hrc : ∀ (t : Nat) (h : Hp) (a0 : Nat) (a1 : Int32) (a2 : Int32) (a3 : Int32) (h1 : Hp), rc t h a0 a1 a2 a3 = some h1 → CT (d + u + 0) ((fun _ => YX12_place) t) [.ref a0, .int a1, .int a2, .int a3] h (oV) h1) (H : BX12_place_59 rc h v0 v1 v2 v3 v4 v5 = some x) (hb0 : ∀ s : Int32 × Hp, x = .inl s → J (d + u + 0 + 1) YX12_place 59 [.ref v0, .int v1, .int v2, .int v3, .int v4, .int s.1, Value.null] [] s.2 oV h9) (hb1 : ∀ s : Int32 × Hp, x = .inr (.inl s) → J (d + u + 0 + 1) YX12_place 34 [.ref v0, .int v1, .int v2, .int v3, .int s.1, Value.null, Value.null] [] s.2 oV h9) (hx : ∀ z : Hp, x = .inr (.inr (z)) → z = h9) : J (d + u + 0 + 1) YX12_place 59 [.ref v0, .int v1, .int v2, .int v3, .int v4, .int v5, Value.null] [] h oV h9 := by
  unfold BX12_place_59 at H
  refine J_iload dX12_place_59 rfl ?_
  refine J_aload_n 0 dX12_place_61 rfl rfl ?_
  obtain ⟨g8, H⟩ := gd H
  refine J_gP 11 1 dX12_place_62 g8 flX12_8 rfl rfl ?_
  refine J_iconst (3 : Int32) dX12_place_65 kc_3 ?_
  obtain ⟨g9, H⟩ := gd H
  obtain ⟨g10, H⟩ := gd H
  refine J_iald dX12_place_66 g9 (inB_ok g10) ?_
  refine J_icmp_ge 183 dX12_place_67 rfl (fun q11 => ?_) (fun q11 => ?_)
  · replace H := br1 q11 H
    refine J_iinc (v4 + (1 : Int32)) dX12_place_183 rfl (congrArg (HAdd.hAdd v4) kc_1) (by decide) (ls' := [.ref v0, .int v1, .int v2, .int v3, .int (v4 + (1 : Int32)), .int v5, Value.null]) rfl ?_
    refine J_goto 34 dX12_place_186 rfl ?_
    cases H
    exact J_dr (hb1 _ rfl) ⟨rfl, ⟨rfl, ⟨rfl, ⟨rfl, ⟨rfl, trivial⟩⟩⟩⟩⟩
  · replace H := br0 q11 H
    refine J_aload_n 0 dX12_place_70 rfl rfl ?_
    refine J_gP 11 1 dX12_place_71 g8 flX12_8 rfl rfl ?_
    refine J_iload dX12_place_74 rfl ?_
    obtain ⟨t13, e12, H⟩ := bd H
    refine J_cS (as := [.int v5]) YX12_machine0 1 dX12_place_76 moX12_machine0 msX12_machine0 mlX12_360 (okX12_machine0 (d := d + u) e12) rfl rfl [.ref (gP h v0 1)] rfl rfl (st2 := [.int t13, .ref (gP h v0 1)]) rfl ?_
    refine J_bipush (28 : Int32) dX12_place_79 kb_28 ?_
    refine J_iadd dX12_place_81 ?_
    obtain ⟨g14, H⟩ := gd H
    refine J_iald dX12_place_82 g9 (inB_ok g14) ?_
    refine J_iconst (1 : Int32) dX12_place_83 kc_1 ?_
    refine J_icmp_ne 90 dX12_place_84 rfl (fun q15 => ?_) (fun q15 => ?_)
    · replace H := br0 q15 H
      refine J_aload_n 0 dX12_place_90 rfl rfl ?_
      refine J_gP 11 55 dX12_place_91 g8 flX12_118 rfl rfl ?_
      refine J_iload dX12_place_94 rfl ?_
      refine J_dup2 dX12_place_96 rfl rfl ?_
      obtain ⟨g16, H⟩ := gd H
      obtain ⟨g17, H⟩ := gd H
      refine J_iald dX12_place_97 g16 (inB_ok g17) ?_
      refine J_aload_n 0 dX12_place_98 rfl rfl ?_
      refine J_gP 11 54 dX12_place_99 g8 flX12_115 rfl rfl ?_
      refine J_iload dX12_place_102 rfl ?_
      obtain ⟨g18, H⟩ := gd H
      obtain ⟨g19, H⟩ := gd H
      refine J_iald dX12_place_104 g18 (inB_ok g19) ?_
      refine J_iadd dX12_place_105 ?_
      obtain ⟨h20, e21, H⟩ := lt_el H
      refine J_sI dX12_place_106 g16 (inB_ok g17) e21 ?_
      have c22 := ekI e21
      have c23 := elI e21
      have c24 := epI e21
      refine J_aload_n 0 dX12_place_107 rfl rfl ?_
      refine J_gP 11 55 dX12_place_108 (kq c22 g8) flX12_118 rfl (congrFun (congrFun c24 v0) 55) ?_
      refine J_iload dX12_place_111 rfl ?_
      refine J_iald dX12_place_113 (kq c22 g16) (lq c23 g17) ?_
      refine J_aload_n 0 dX12_place_114 rfl rfl ?_
      refine J_gP 11 1 dX12_place_115 (kq c22 g8) flX12_8 rfl (congrFun (congrFun c24 v0) 1) ?_
      refine J_bipush (90 : Int32) dX12_place_118 kb_90 ?_
      refine J_aload_n 0 dX12_place_120 rfl rfl ?_
      refine J_gP 11 53 dX12_place_121 (kq c22 g8) flX12_112 rfl (congrFun (congrFun c24 v0) 53) ?_
      refine J_iload dX12_place_124 rfl ?_
      obtain ⟨g25, H⟩ := gd H
      obtain ⟨g26, H⟩ := gd H
      refine J_iald dX12_place_126 (kq c22 g25) (lq c23 g26) ?_
      refine J_iconst (5 : Int32) dX12_place_127 kc_5 ?_
      refine J_idiv dX12_place_128 (by decide) ?_
      refine J_iadd dX12_place_129 ?_
      obtain ⟨g27, H⟩ := gd H
      refine J_iald dX12_place_130 (kq c22 g9) (lq c23 g27) ?_
      refine J_isub dX12_place_131 ?_
      obtain ⟨w28, e29, H⟩ := lt_el H
      refine J_nmI e29 ?_
      refine J_istore dX12_place_132 (by decide) (ls' := [.ref v0, .int v1, .int v2, .int v3, .int v4, .int v5, .int w28]) rfl ?_
      refine J_aload_n 0 dX12_place_134 rfl rfl ?_
      refine J_iload_n 1 dX12_place_135 rfl rfl ?_
      refine J_iconst (1 : Int32) dX12_place_136 kc_1 ?_
      refine J_iload dX12_place_137 rfl ?_
      refine J_ishl dX12_place_139 ?_
      refine J_ior dX12_place_140 ?_
      refine J_iload_n 2 dX12_place_141 rfl rfl ?_
      refine J_iconst (1 : Int32) dX12_place_142 kc_1 ?_
      refine J_iadd dX12_place_143 ?_
      refine J_iload_n 3 dX12_place_144 rfl rfl ?_
      refine J_iload dX12_place_145 rfl ?_
      refine J_if_le 155 dX12_place_147 rfl (fun q30 => ?_) (fun q30 => ?_)
      · replace H := br1 q30 H
        refine J_iconst (0 : Int32) dX12_place_155 kc_0 ?_
        exact J_dr (kX12_place_156 hrc H hb0 hb1 hx) ⟨rfl, ⟨rfl, ⟨rfl, ⟨rfl, ⟨rfl, ⟨rfl, trivial⟩⟩⟩⟩⟩⟩
      · replace H := br0 q30 H
        refine J_iload dX12_place_150 rfl ?_
        refine J_goto 156 dX12_place_152 rfl ?_
        exact J_dr (kX12_place_156 hrc H hb0 hb1 hx) ⟨rfl, ⟨rfl, ⟨rfl, ⟨rfl, ⟨rfl, ⟨rfl, trivial⟩⟩⟩⟩⟩⟩
    · replace H := br1 q15 H
      refine J_goto 177 dX12_place_87 rfl ?_
      refine J_iinc (v5 + (1 : Int32)) dX12_place_177 rfl (congrArg (HAdd.hAdd v5) kc_1) (by decide) (ls' := [.ref v0, .int v1, .int v2, .int v3, .int v4, .int (v5 + (1 : Int32)), Value.null]) rfl ?_
      refine J_goto 59 dX12_place_180 rfl ?_
      cases H
      exact J_dr (hb0 _ rfl) ⟨rfl, ⟨rfl, ⟨rfl, ⟨rfl, ⟨rfl, ⟨rfl, trivial⟩⟩⟩⟩⟩⟩
noncomputable def MX12_place_59 (rc : Nat → Hp → Nat → Int32 → Int32 → Int32 → Option Hp) (h : Hp) (v0 : Nat) (v1 : Int32) (v2 : Int32) (v3 : Int32) (v4 : Int32) (v5 : Int32) : Option ((Int32 × Hp) ⊕ Hp) := it (fun q : Int32 × Hp => BX12_place_59 rc q.2 v0 v1 v2 v3 v4 q.1) (v5, h)
set_option maxRecDepth 100000 in
set_option maxHeartbeats 8000000 in
theorem kX12_place_59 {d u : Nat} {rc : Nat → Hp → Nat → Int32 → Int32 → Int32 → Option Hp} {h : Hp} {v0 : Nat} {v1 : Int32} {v2 : Int32} {v3 : Int32} {v4 : Int32} {v5 : Int32} {h9 : Hp} {x : ((Int32 × Hp) ⊕ Hp)} (hrc : ∀ (t : Nat) (h : Hp) (a0 : Nat) (a1 : Int32) (a2 : Int32) (a3 : Int32) (h1 : Hp), rc t h a0 a1 a2 a3 = some h1 → CT (d + u + 0) ((fun _ => YX12_place) t) [.ref a0, .int a1, .int a2, .int a3] h (oV) h1) (H : MX12_place_59 rc h v0 v1 v2 v3 v4 v5 = some x) (hb0 : ∀ s : Int32 × Hp, x = .inl s → J (d + u + 0 + 1) YX12_place 34 [.ref v0, .int v1, .int v2, .int v3, .int s.1, Value.null, Value.null] [] s.2 oV h9) (hx : ∀ z : Hp, x = .inr (z) → z = h9) : J (d + u + 0 + 1) YX12_place 59 [.ref v0, .int v1, .int v2, .int v3, .int v4, .int v5, Value.null] [] h oV h9 := by
  unfold MX12_place_59 at H
  refine it_J (G := (fun q : Int32 × Hp => J (d + u + 0 + 1) YX12_place 59 [.ref v0, .int v1, .int v2, .int v3, .int v4, .int q.1, Value.null] [] q.2 oV h9)) (Q := (fun y : ((Int32 × Hp) ⊕ Hp) => (∀ s : Int32 × Hp, y = .inl s → J (d + u + 0 + 1) YX12_place 34 [.ref v0, .int v1, .int v2, .int v3, .int s.1, Value.null, Value.null] [] s.2 oV h9) ∧ (∀ z : Hp, y = .inr (z) → z = h9))) (fun q x Hq hm => ?_) H ⟨hb0, hx⟩
  exact bX12_place_59 hrc Hq (fun s hs => by subst hs; exact hm) (fun s hs => by subst hs; exact (hm.1) s rfl) (fun z hz => by subst hz; exact (hm.2) z rfl)
noncomputable def BX12_place_34 (rc : Nat → Hp → Nat → Int32 → Int32 → Int32 → Option Hp) (h : Hp) (v0 : Nat) (v1 : Int32) (v2 : Int32) (v3 : Int32) (v4 : Int32) : Option ((Int32 × Hp) ⊕ Hp) :=
  gg (β := ((Int32 × Hp) ⊕ Hp)) (kd h v0 = 11) <|
  if (gI h v0 56) ≤ v4 then
    some (.inr (h))
  else
    if ((v1 >>> (v4 &&& 31)) &&& (1 : Int32)) = (1 : Int32) then
      some (.inl ((v4 + (1 : Int32)), h))
    else
      MX12_place_59 rc h v0 v1 v2 v3 v4 (0 : Int32)
set_option maxRecDepth 100000 in
set_option maxHeartbeats 8000000 in
theorem bX12_place_34 {d u : Nat} {rc : Nat → Hp → Nat → Int32 → Int32 → Int32 → Option Hp} {h : Hp} {v0 : Nat} {v1 : Int32} {v2 : Int32} {v3 : Int32} {v4 : Int32} {h9 : Hp} {x : ((Int32 × Hp) ⊕ Hp)} (hrc : ∀ (t : Nat) (h : Hp) (a0 : Nat) (a1 : Int32) (a2 : Int32) (a3 : Int32) (h1 : Hp), rc t h a0 a1 a2 a3 = some h1 → CT (d + u + 0) ((fun _ => YX12_place) t) [.ref a0, .int a1, .int a2, .int a3] h (oV) h1) (H : BX12_place_34 rc h v0 v1 v2 v3 v4 = some x) (hb0 : ∀ s : Int32 × Hp, x = .inl s → J (d + u + 0 + 1) YX12_place 34 [.ref v0, .int v1, .int v2, .int v3, .int s.1, Value.null, Value.null] [] s.2 oV h9) (hx : ∀ z : Hp, x = .inr (z) → z = h9) : J (d + u + 0 + 1) YX12_place 34 [.ref v0, .int v1, .int v2, .int v3, .int v4, Value.null, Value.null] [] h oV h9 := by
  unfold BX12_place_34 at H
  refine J_iload dX12_place_34 rfl ?_
  refine J_aload_n 0 dX12_place_36 rfl rfl ?_
  obtain ⟨g5, H⟩ := gd H
  refine J_getI 11 56 dX12_place_37 g5 flX12_455 rfl ?_
  refine J_icmp_ge 189 dX12_place_40 rfl (fun q6 => ?_) (fun q6 => ?_)
  · replace H := br1 q6 H
    cases H
    cases hx _ rfl
    exact J_ret dX12_place_189 rfl
  · replace H := br0 q6 H
    refine J_iload_n 1 dX12_place_43 rfl rfl ?_
    refine J_iload dX12_place_44 rfl ?_
    refine J_ishr dX12_place_46 ?_
    refine J_iconst (1 : Int32) dX12_place_47 kc_1 ?_
    refine J_iand dX12_place_48 ?_
    refine J_iconst (1 : Int32) dX12_place_49 kc_1 ?_
    refine J_icmp_ne 56 dX12_place_50 rfl (fun q7 => ?_) (fun q7 => ?_)
    · replace H := br0 q7 H
      refine J_iconst (0 : Int32) dX12_place_56 kc_0 ?_
      refine J_istore dX12_place_57 (by decide) (ls' := [.ref v0, .int v1, .int v2, .int v3, .int v4, .int (0 : Int32), Value.null]) rfl ?_
      exact J_dr (kX12_place_59 hrc H hb0 hx) ⟨rfl, ⟨rfl, ⟨rfl, ⟨rfl, ⟨rfl, ⟨rfl, trivial⟩⟩⟩⟩⟩⟩
    · replace H := br1 q7 H
      refine J_goto 183 dX12_place_53 rfl ?_
      refine J_iinc (v4 + (1 : Int32)) dX12_place_183 rfl (congrArg (HAdd.hAdd v4) kc_1) (by decide) (ls' := [.ref v0, .int v1, .int v2, .int v3, .int (v4 + (1 : Int32)), Value.null, Value.null]) rfl ?_
      refine J_goto 34 dX12_place_186 rfl ?_
      cases H
      exact J_dr (hb0 _ rfl) ⟨rfl, ⟨rfl, ⟨rfl, ⟨rfl, ⟨rfl, trivial⟩⟩⟩⟩⟩
noncomputable def MX12_place_34 (rc : Nat → Hp → Nat → Int32 → Int32 → Int32 → Option Hp) (h : Hp) (v0 : Nat) (v1 : Int32) (v2 : Int32) (v3 : Int32) (v4 : Int32) : Option Hp := it (fun q : Int32 × Hp => BX12_place_34 rc q.2 v0 v1 v2 v3 q.1) (v4, h)
set_option maxRecDepth 100000 in
set_option maxHeartbeats 8000000 in
theorem kX12_place_34 {d u : Nat} {rc : Nat → Hp → Nat → Int32 → Int32 → Int32 → Option Hp} {h : Hp} {v0 : Nat} {v1 : Int32} {v2 : Int32} {v3 : Int32} {v4 : Int32} {h9 : Hp} (hrc : ∀ (t : Nat) (h : Hp) (a0 : Nat) (a1 : Int32) (a2 : Int32) (a3 : Int32) (h1 : Hp), rc t h a0 a1 a2 a3 = some h1 → CT (d + u + 0) ((fun _ => YX12_place) t) [.ref a0, .int a1, .int a2, .int a3] h (oV) h1) (H : MX12_place_34 rc h v0 v1 v2 v3 v4 = some h9) : J (d + u + 0 + 1) YX12_place 34 [.ref v0, .int v1, .int v2, .int v3, .int v4, Value.null, Value.null] [] h oV h9 := by
  unfold MX12_place_34 at H
  refine it_J (G := (fun q : Int32 × Hp => J (d + u + 0 + 1) YX12_place 34 [.ref v0, .int v1, .int v2, .int v3, .int q.1, Value.null, Value.null] [] q.2 oV h9)) (Q := (fun y : Hp => y = h9)) (fun q x Hq hm => ?_) H rfl
  exact bX12_place_34 hrc Hq (fun s hs => by subst hs; exact hm) (fun z hz => by subst hz; exact hm)
noncomputable def MX12_place_17 (rc : Nat → Hp → Nat → Int32 → Int32 → Int32 → Option Hp) (h : Hp) (v0 : Nat) (v1 : Int32) (v2 : Int32) (v3 : Int32) : Option Hp :=
  gg (β := Hp) (kd h v0 = 11) <|
  if v2 = (gI h v0 56) then
    lt (α := Hp) (β := Option Hp) (sI h v0 57 v3) fun (h44 : Hp) =>
    some h44
  else
    MX12_place_34 rc h v0 v1 v2 v3 (0 : Int32)
set_option maxRecDepth 100000 in
set_option maxHeartbeats 8000000 in
theorem kX12_place_17 {d u : Nat} {rc : Nat → Hp → Nat → Int32 → Int32 → Int32 → Option Hp} {h : Hp} {v0 : Nat} {v1 : Int32} {v2 : Int32} {v3 : Int32} {h9 : Hp} (hrc : ∀ (t : Nat) (h : Hp) (a0 : Nat) (a1 : Int32) (a2 : Int32) (a3 : Int32) (h1 : Hp), rc t h a0 a1 a2 a3 = some h1 → CT (d + u + 0) ((fun _ => YX12_place) t) [.ref a0, .int a1, .int a2, .int a3] h (oV) h1) (H : MX12_place_17 rc h v0 v1 v2 v3 = some h9) : J (d + u + 0 + 1) YX12_place 17 [.ref v0, .int v1, .int v2, .int v3, Value.null, Value.null, Value.null] [] h oV h9 := by
  unfold MX12_place_17 at H
  refine J_iload_n 2 dX12_place_17 rfl rfl ?_
  refine J_aload_n 0 dX12_place_18 rfl rfl ?_
  obtain ⟨g3, H⟩ := gd H
  refine J_getI 11 56 dX12_place_19 g3 flX12_455 rfl ?_
  refine J_icmp_ne 31 dX12_place_22 rfl (fun q4 => ?_) (fun q4 => ?_)
  · replace H := br0 q4 H
    refine J_iconst (0 : Int32) dX12_place_31 kc_0 ?_
    refine J_istore dX12_place_32 (by decide) (ls' := [.ref v0, .int v1, .int v2, .int v3, .int (0 : Int32), Value.null, Value.null]) rfl ?_
    exact J_dr (kX12_place_34 hrc H ) ⟨rfl, ⟨rfl, ⟨rfl, ⟨rfl, ⟨rfl, trivial⟩⟩⟩⟩⟩
  · replace H := br1 q4 H
    refine J_aload_n 0 dX12_place_25 rfl rfl ?_
    refine J_iload_n 3 dX12_place_26 rfl rfl ?_
    obtain ⟨h44, e45, H⟩ := lt_el H
    refine J_pI 11 57 dX12_place_27 g3 flX12_461 rfl rfl e45 ?_
    have c46 := ekI e45
    have c47 := elI e45
    have c48 := epI e45
    cases H
    exact J_ret dX12_place_30 rfl
noncomputable def BX12_place (rc : Nat → Hp → Nat → Int32 → Int32 → Int32 → Option Hp) (h : Hp) (v0 : Nat) (v1 : Int32) (v2 : Int32) (v3 : Int32) : Option Hp :=
  gg (β := Hp) (kd h v0 = 11) <|
  if (gI h v0 57) = (-1 : Int32) then
    MX12_place_17 rc h v0 v1 v2 v3
  else
    if v3 < (gI h v0 57) then
      MX12_place_17 rc h v0 v1 v2 v3
    else
      some h
set_option maxRecDepth 100000 in
set_option maxHeartbeats 8000000 in
theorem eX12_place {d u : Nat} {rc : Nat → Hp → Nat → Int32 → Int32 → Int32 → Option Hp} {h : Hp} {v0 : Nat} {v1 : Int32} {v2 : Int32} {v3 : Int32} {h9 : Hp} (hrc : ∀ (t : Nat) (h : Hp) (a0 : Nat) (a1 : Int32) (a2 : Int32) (a3 : Int32) (h1 : Hp), rc t h a0 a1 a2 a3 = some h1 → CT (d + u + 0) ((fun _ => YX12_place) t) [.ref a0, .int a1, .int a2, .int a3] h (oV) h1) (H : BX12_place rc h v0 v1 v2 v3 = some h9) : J (d + u + 0 + 1) YX12_place 0 [.ref v0, .int v1, .int v2, .int v3, Value.null, Value.null, Value.null] [] h oV h9 := by
  unfold BX12_place at H
  refine J_aload_n 0 dX12_place_0 rfl rfl ?_
  obtain ⟨g1, H⟩ := gd H
  refine J_getI 11 57 dX12_place_1 g1 flX12_461 rfl ?_
  refine J_iconst (-1 : Int32) dX12_place_4 kc_m1 ?_
  refine J_icmp_eq 17 dX12_place_5 rfl (fun q2 => ?_) (fun q2 => ?_)
  · replace H := br1 q2 H
    exact J_dr (kX12_place_17 hrc H ) ⟨rfl, ⟨rfl, ⟨rfl, ⟨rfl, trivial⟩⟩⟩⟩
  · replace H := br0 q2 H
    refine J_iload_n 3 dX12_place_8 rfl rfl ?_
    refine J_aload_n 0 dX12_place_9 rfl rfl ?_
    refine J_getI 11 57 dX12_place_10 g1 flX12_461 rfl ?_
    refine J_icmp_lt 17 dX12_place_13 rfl (fun q49 => ?_) (fun q49 => ?_)
    · replace H := br1 q49 H
      exact J_dr (kX12_place_17 hrc H ) ⟨rfl, ⟨rfl, ⟨rfl, ⟨rfl, trivial⟩⟩⟩⟩
    · replace H := br0 q49 H
      cases H
      exact J_ret dX12_place_16 rfl
noncomputable def RX12_place : Nat → Nat → Hp → Nat → Int32 → Int32 → Int32 → Option Hp
  | 0 => fun _ _ _ _ _ _ => none
  | u + 1 => fun t h a0 a1 a2 a3 => BX12_place (RX12_place u) h a0 a1 a2 a3
theorem okRX12_place (d : Nat) : ∀ (u t : Nat) (h : Hp) (a0 : Nat) (a1 : Int32) (a2 : Int32) (a3 : Int32) (h1 : Hp), RX12_place u t h a0 a1 a2 a3 = some h1 → CT (d + u + 0) (YX12_place) [.ref a0, .int a1, .int a2, .int a3] h (oV) h1 := by
  intro u
  induction u with
  | zero => intro t h a0 a1 a2 a3 h1 H; cases H
  | succ u ih =>
    intro t h a0 a1 a2 a3 h1 H
    simp only [RX12_place] at H
    exact CT_of (by decide +kernel) (Nat.le_of_ble_eq_true rfl) (eX12_place (d := d) (u := u) ih H)
noncomputable def MX12_place (u : Nat) (h : Hp) (v0 : Nat) (v1 : Int32) (v2 : Int32) (v3 : Int32) : Option Hp := RX12_place u 0 h v0 v1 v2 v3
theorem okX12_place {d : Nat} {h : Hp} {v0 : Nat} {v1 : Int32} {v2 : Int32} {v3 : Int32} {h9 : Hp} (H : MX12_place 30 h v0 v1 v2 v3 = some h9) : CT (d + 30) YX12_place [.ref v0, .int v1, .int v2, .int v3] h oV h9 := okRX12_place d 30 0 _ _ _ _ _ _ H
noncomputable def MX12_queueLines_160 (h : Hp) (v0 : Nat) (v2 : Int32) (v4 : Int32) (s0 : Int32) (s1 : Int32) : Option ((Int32 × Int32 × Hp) ⊕ (Int32 × Hp)) :=
  some (.inl ((s0 + s1), (v4 + (1 : Int32)), h))
set_option maxRecDepth 100000 in
set_option maxHeartbeats 8000000 in
theorem kX12_queueLines_160 {d : Nat} {h : Hp} {v0 : Nat} {v2 : Int32} {v4 : Int32} {s0 : Int32} {s1 : Int32} {r : Int32} {h9 : Hp} {x : ((Int32 × Int32 × Hp) ⊕ (Int32 × Hp))} (H : MX12_queueLines_160 h v0 v2 v4 s0 s1 = some x) (hb0 : ∀ s : Int32 × Int32 × Hp, x = .inl s → J (d + 5) YX12_queueLines 10 [.ref v0, Value.null, .int v2, .int s.1, .int s.2.1, Value.null, Value.null] [] s.2.2 (oI r) h9) (hx : ∀ z : (Int32 × Hp), x = .inr (z) → z = (r, h9)) : J (d + 5) YX12_queueLines 160 [.ref v0, Value.null, .int v2, Value.null, .int v4, Value.null, Value.null] [.int s1, .int s0] h (oI r) h9 := by
  unfold MX12_queueLines_160 at H
  refine J_iadd dX12_queueLines_160 ?_
  refine J_istore_n 3 dX12_queueLines_161 rfl (by decide) (ls' := [.ref v0, Value.null, .int v2, .int (s0 + s1), .int v4, Value.null, Value.null]) rfl ?_
  refine J_iinc (v4 + (1 : Int32)) dX12_queueLines_162 rfl (congrArg (HAdd.hAdd v4) kc_1) (by decide) (ls' := [.ref v0, Value.null, .int v2, .int (s0 + s1), .int (v4 + (1 : Int32)), Value.null, Value.null]) rfl ?_
  refine J_goto 10 dX12_queueLines_165 rfl ?_
  cases H
  exact J_dr (hb0 _ rfl) ⟨rfl, ⟨rfl, ⟨rfl, ⟨rfl, trivial⟩⟩⟩⟩
noncomputable def BX12_queueLines_10 (h : Hp) (v0 : Nat) (v2 : Int32) (v3 : Int32) (v4 : Int32) : Option ((Int32 × Int32 × Hp) ⊕ (Int32 × Hp)) :=
  gg (β := ((Int32 × Int32 × Hp) ⊕ (Int32 × Hp))) (kd h v0 = 11) <|
  gg (β := ((Int32 × Int32 × Hp) ⊕ (Int32 × Hp))) (kd h (gP h v0 1) = 20) <|
  gg (β := ((Int32 × Int32 × Hp) ⊕ (Int32 × Hp))) (inB (v2 + (29 : Int32)) (ln h (gP h v0 1)) = true) <|
  if (gI h (gP h v0 1) (v2 + (29 : Int32)).toNatClampNeg) ≤ v4 then
    some (.inr ((v3, h)))
  else
    gg (β := ((Int32 × Int32 × Hp) ⊕ (Int32 × Hp))) (inB ((v2 + (33 : Int32)) + ((5 : Int32) * v4)) (ln h (gP h v0 1)) = true) <|
    Option.bind (α := Int32) (β := ((Int32 × Int32 × Hp) ⊕ (Int32 × Hp))) (MX12_part0 h (gI h (gP h v0 1) ((v2 + (33 : Int32)) + ((5 : Int32) * v4)).toNatClampNeg)) fun (t9 : Int32) =>
    gg (β := ((Int32 × Int32 × Hp) ⊕ (Int32 × Hp))) (inB (((v2 + (33 : Int32)) + ((5 : Int32) * v4)) + (4 : Int32)) (ln h (gP h v0 1)) = true) <|
    if (gI h (gP h v0 1) (((v2 + (33 : Int32)) + ((5 : Int32) * v4)) + (4 : Int32)).toNatClampNeg) = 0 then
      gg (β := ((Int32 × Int32 × Hp) ⊕ (Int32 × Hp))) (inB (((v2 + (33 : Int32)) + ((5 : Int32) * v4)) + (2 : Int32)) (ln h (gP h v0 1)) = true) <|
      gg (β := ((Int32 × Int32 × Hp) ⊕ (Int32 × Hp))) (inB (((v2 + (33 : Int32)) + ((5 : Int32) * v4)) + (1 : Int32)) (ln h (gP h v0 1)) = true) <|
      lt (α := Int32) (β := Option ((Int32 × Int32 × Hp) ⊕ (Int32 × Hp))) (v3 + ((gI h (gP h v0 1) (((v2 + (33 : Int32)) + ((5 : Int32) * v4)) + (2 : Int32)).toNatClampNeg) - (gI h (gP h v0 1) (((v2 + (33 : Int32)) + ((5 : Int32) * v4)) + (1 : Int32)).toNatClampNeg))) fun (w29 : Int32) =>
      some (.inl (w29, (v4 + (1 : Int32)), h))
    else
      gg (β := ((Int32 × Int32 × Hp) ⊕ (Int32 × Hp))) (inB (t9 + (3 : Int32)) (ln h (gP h v0 1)) = true) <|
      if (gI h (gP h v0 1) (t9 + (3 : Int32)).toNatClampNeg) = (1 : Int32) then
        gg (β := ((Int32 × Int32 × Hp) ⊕ (Int32 × Hp))) (inB (t9 + (4 : Int32)) (ln h (gP h v0 1)) = true) <|
        gg (β := ((Int32 × Int32 × Hp) ⊕ (Int32 × Hp))) (inB (((v2 + (33 : Int32)) + ((5 : Int32) * v4)) + (1 : Int32)) (ln h (gP h v0 1)) = true) <|
        lt (α := Int32) (β := Option ((Int32 × Int32 × Hp) ⊕ (Int32 × Hp))) (v3 + ((gI h (gP h v0 1) (t9 + (4 : Int32)).toNatClampNeg) - (gI h (gP h v0 1) (((v2 + (33 : Int32)) + ((5 : Int32) * v4)) + (1 : Int32)).toNatClampNeg))) fun (w25 : Int32) =>
        some (.inl (w25, (v4 + (1 : Int32)), h))
      else
        gg (β := ((Int32 × Int32 × Hp) ⊕ (Int32 × Hp))) (inB (0 : Int32) (ln h (gP h v0 1)) = true) <|
        Option.bind (α := Hp) (β := ((Int32 × Int32 × Hp) ⊕ (Int32 × Hp))) (MX12_work h v0 (gI h (gP h v0 1) ((v2 + (33 : Int32)) + ((5 : Int32) * v4)).toNatClampNeg) (gI h (gP h v0 1) (0 : Int32).toNatClampNeg)) fun (h16 : Hp) =>
        gg (β := ((Int32 × Int32 × Hp) ⊕ (Int32 × Hp))) (kd h16 v0 = 11) <|
        gg (β := ((Int32 × Int32 × Hp) ⊕ (Int32 × Hp))) (kd h16 (gP h16 v0 31) = 20) <|
        gg (β := ((Int32 × Int32 × Hp) ⊕ (Int32 × Hp))) (inB (0 : Int32) (ln h16 (gP h16 v0 31)) = true) <|
        if (gI h16 (gP h16 v0 31) (0 : Int32).toNatClampNeg) = (-1 : Int32) then
          MX12_queueLines_160 h16 v0 v2 v4 v3 (0 : Int32)
        else
          gg (β := ((Int32 × Int32 × Hp) ⊕ (Int32 × Hp))) (kd h16 (gP h16 v0 32) = 20) <|
          gg (β := ((Int32 × Int32 × Hp) ⊕ (Int32 × Hp))) (inB (0 : Int32) (ln h16 (gP h16 v0 32)) = true) <|
          MX12_queueLines_160 h16 v0 v2 v4 v3 (gI h16 (gP h16 v0 32) (0 : Int32).toNatClampNeg)
set_option maxRecDepth 100000 in
set_option maxHeartbeats 8000000 in
theorem bX12_queueLines_10 {d : Nat} {h : Hp} {v0 : Nat} {v2 : Int32} {v3 : Int32} {v4 : Int32} {r : Int32} {h9 : Hp} {x : ((Int32 × Int32 × Hp) ⊕ (Int32 × Hp))} (H : BX12_queueLines_10 h v0 v2 v3 v4 = some x) (hb0 : ∀ s : Int32 × Int32 × Hp, x = .inl s → J (d + 5) YX12_queueLines 10 [.ref v0, Value.null, .int v2, .int s.1, .int s.2.1, Value.null, Value.null] [] s.2.2 (oI r) h9) (hx : ∀ z : (Int32 × Hp), x = .inr (z) → z = (r, h9)) : J (d + 5) YX12_queueLines 10 [.ref v0, Value.null, .int v2, .int v3, .int v4, Value.null, Value.null] [] h (oI r) h9 := by
  unfold BX12_queueLines_10 at H
  refine J_iload dX12_queueLines_10 rfl ?_
  refine J_aload_n 0 dX12_queueLines_12 rfl rfl ?_
  obtain ⟨g3, H⟩ := gd H
  refine J_gP 11 1 dX12_queueLines_13 g3 flX12_8 rfl rfl ?_
  refine J_iload_n 2 dX12_queueLines_16 rfl rfl ?_
  refine J_bipush (29 : Int32) dX12_queueLines_17 kb_29 ?_
  refine J_iadd dX12_queueLines_19 ?_
  obtain ⟨g4, H⟩ := gd H
  obtain ⟨g5, H⟩ := gd H
  refine J_iald dX12_queueLines_20 g4 (inB_ok g5) ?_
  refine J_icmp_ge 168 dX12_queueLines_21 rfl (fun q6 => ?_) (fun q6 => ?_)
  · replace H := br1 q6 H
    refine J_iload_n 3 dX12_queueLines_168 rfl rfl ?_
    cases H
    cases hx _ rfl
    exact J_iretI dX12_queueLines_169 rfl
  · replace H := br0 q6 H
    refine J_iload_n 2 dX12_queueLines_24 rfl rfl ?_
    refine J_bipush (33 : Int32) dX12_queueLines_25 kb_33 ?_
    refine J_iadd dX12_queueLines_27 ?_
    refine J_iconst (5 : Int32) dX12_queueLines_28 kc_5 ?_
    refine J_iload dX12_queueLines_29 rfl ?_
    refine J_imul dX12_queueLines_31 ?_
    refine J_iadd dX12_queueLines_32 ?_
    refine J_istore dX12_queueLines_33 (by decide) (ls' := [.ref v0, Value.null, .int v2, .int v3, .int v4, .int ((v2 + (33 : Int32)) + ((5 : Int32) * v4)), Value.null]) rfl ?_
    refine J_aload_n 0 dX12_queueLines_35 rfl rfl ?_
    refine J_gP 11 1 dX12_queueLines_36 g3 flX12_8 rfl rfl ?_
    refine J_iload dX12_queueLines_39 rfl ?_
    obtain ⟨g7, H⟩ := gd H
    refine J_iald dX12_queueLines_41 g4 (inB_ok g7) ?_
    obtain ⟨t9, e8, H⟩ := bd H
    refine J_cS (as := [.int (gI h (gP h v0 1) ((v2 + (33 : Int32)) + ((5 : Int32) * v4)).toNatClampNeg)]) YX12_part0 1 dX12_queueLines_42 moX12_part0 msX12_part0 mlX12_164 (okX12_part0 (d := d + 4) e8) rfl rfl [] rfl rfl (st2 := [.int t9]) rfl ?_
    refine J_istore dX12_queueLines_45 (by decide) (ls' := [.ref v0, Value.null, .int v2, .int v3, .int v4, .int ((v2 + (33 : Int32)) + ((5 : Int32) * v4)), .int t9]) rfl ?_
    refine J_aload_n 0 dX12_queueLines_47 rfl rfl ?_
    refine J_gP 11 1 dX12_queueLines_48 g3 flX12_8 rfl rfl ?_
    refine J_iload dX12_queueLines_51 rfl ?_
    refine J_iconst (4 : Int32) dX12_queueLines_53 kc_4 ?_
    refine J_iadd dX12_queueLines_54 ?_
    obtain ⟨g10, H⟩ := gd H
    refine J_iald dX12_queueLines_55 g4 (inB_ok g10) ?_
    refine J_if_ne 84 dX12_queueLines_56 rfl (fun q11 => ?_) (fun q11 => ?_)
    · replace H := br0 q11 H
      refine J_aload_n 0 dX12_queueLines_84 rfl rfl ?_
      refine J_gP 11 1 dX12_queueLines_85 g3 flX12_8 rfl rfl ?_
      refine J_iload dX12_queueLines_88 rfl ?_
      refine J_iconst (3 : Int32) dX12_queueLines_90 kc_3 ?_
      refine J_iadd dX12_queueLines_91 ?_
      obtain ⟨g12, H⟩ := gd H
      refine J_iald dX12_queueLines_92 g4 (inB_ok g12) ?_
      refine J_iconst (1 : Int32) dX12_queueLines_93 kc_1 ?_
      refine J_icmp_ne 122 dX12_queueLines_94 rfl (fun q13 => ?_) (fun q13 => ?_)
      · replace H := br0 q13 H
        refine J_aload_n 0 dX12_queueLines_122 rfl rfl ?_
        refine J_aload_n 0 dX12_queueLines_123 rfl rfl ?_
        refine J_gP 11 1 dX12_queueLines_124 g3 flX12_8 rfl rfl ?_
        refine J_iload dX12_queueLines_127 rfl ?_
        refine J_iald dX12_queueLines_129 g4 (inB_ok g7) ?_
        refine J_aload_n 0 dX12_queueLines_130 rfl rfl ?_
        refine J_gP 11 1 dX12_queueLines_131 g3 flX12_8 rfl rfl ?_
        refine J_iconst (0 : Int32) dX12_queueLines_134 kc_0 ?_
        obtain ⟨g14, H⟩ := gd H
        refine J_iald dX12_queueLines_135 g4 (inB_ok g14) ?_
        obtain ⟨h16, e15, H⟩ := bd H
        refine J_cV (as := [.int (gI h (gP h v0 1) ((v2 + (33 : Int32)) + ((5 : Int32) * v4)).toNatClampNeg), .int (gI h (gP h v0 1) (0 : Int32).toNatClampNeg)]) 11 YX12_work 2 dX12_queueLines_136 moX12_work mvX12_work mlX12_345 g3 rfl rfl (okX12_work (d := d) e15) rfl rfl [] rfl rfl (st2 := []) rfl ?_
        refine J_iload_n 3 dX12_queueLines_139 rfl rfl ?_
        refine J_aload_n 0 dX12_queueLines_140 rfl rfl ?_
        obtain ⟨g17, H⟩ := gd H
        refine J_gP 11 31 dX12_queueLines_141 g17 flX12_55 rfl rfl ?_
        refine J_iconst (0 : Int32) dX12_queueLines_144 kc_0 ?_
        obtain ⟨g18, H⟩ := gd H
        obtain ⟨g19, H⟩ := gd H
        refine J_iald dX12_queueLines_145 g18 (inB_ok g19) ?_
        refine J_iconst (-1 : Int32) dX12_queueLines_146 kc_m1 ?_
        refine J_icmp_ne 154 dX12_queueLines_147 rfl (fun q20 => ?_) (fun q20 => ?_)
        · replace H := br0 q20 H
          refine J_aload_n 0 dX12_queueLines_154 rfl rfl ?_
          refine J_gP 11 32 dX12_queueLines_155 g17 flX12_58 rfl rfl ?_
          refine J_iconst (0 : Int32) dX12_queueLines_158 kc_0 ?_
          obtain ⟨g21, H⟩ := gd H
          obtain ⟨g22, H⟩ := gd H
          refine J_iald dX12_queueLines_159 g21 (inB_ok g22) ?_
          exact J_dr (kX12_queueLines_160 H hb0 hx) ⟨rfl, ⟨rfl, ⟨rfl, trivial⟩⟩⟩
        · replace H := br1 q20 H
          refine J_iconst (0 : Int32) dX12_queueLines_150 kc_0 ?_
          refine J_goto 160 dX12_queueLines_151 rfl ?_
          exact J_dr (kX12_queueLines_160 H hb0 hx) ⟨rfl, ⟨rfl, ⟨rfl, trivial⟩⟩⟩
      · replace H := br1 q13 H
        refine J_iload_n 3 dX12_queueLines_97 rfl rfl ?_
        refine J_aload_n 0 dX12_queueLines_98 rfl rfl ?_
        refine J_gP 11 1 dX12_queueLines_99 g3 flX12_8 rfl rfl ?_
        refine J_iload dX12_queueLines_102 rfl ?_
        refine J_iconst (4 : Int32) dX12_queueLines_104 kc_4 ?_
        refine J_iadd dX12_queueLines_105 ?_
        obtain ⟨g23, H⟩ := gd H
        refine J_iald dX12_queueLines_106 g4 (inB_ok g23) ?_
        refine J_aload_n 0 dX12_queueLines_107 rfl rfl ?_
        refine J_gP 11 1 dX12_queueLines_108 g3 flX12_8 rfl rfl ?_
        refine J_iload dX12_queueLines_111 rfl ?_
        refine J_iconst (1 : Int32) dX12_queueLines_113 kc_1 ?_
        refine J_iadd dX12_queueLines_114 ?_
        obtain ⟨g24, H⟩ := gd H
        refine J_iald dX12_queueLines_115 g4 (inB_ok g24) ?_
        refine J_isub dX12_queueLines_116 ?_
        refine J_iadd dX12_queueLines_117 ?_
        obtain ⟨w25, e26, H⟩ := lt_el H
        refine J_nmI e26 ?_
        refine J_istore_n 3 dX12_queueLines_118 rfl (by decide) (ls' := [.ref v0, Value.null, .int v2, .int w25, .int v4, .int ((v2 + (33 : Int32)) + ((5 : Int32) * v4)), .int t9]) rfl ?_
        refine J_goto 162 dX12_queueLines_119 rfl ?_
        refine J_iinc (v4 + (1 : Int32)) dX12_queueLines_162 rfl (congrArg (HAdd.hAdd v4) kc_1) (by decide) (ls' := [.ref v0, Value.null, .int v2, .int w25, .int (v4 + (1 : Int32)), .int ((v2 + (33 : Int32)) + ((5 : Int32) * v4)), .int t9]) rfl ?_
        refine J_goto 10 dX12_queueLines_165 rfl ?_
        cases H
        exact J_dr (hb0 _ rfl) ⟨rfl, ⟨rfl, ⟨rfl, ⟨rfl, trivial⟩⟩⟩⟩
    · replace H := br1 q11 H
      refine J_iload_n 3 dX12_queueLines_59 rfl rfl ?_
      refine J_aload_n 0 dX12_queueLines_60 rfl rfl ?_
      refine J_gP 11 1 dX12_queueLines_61 g3 flX12_8 rfl rfl ?_
      refine J_iload dX12_queueLines_64 rfl ?_
      refine J_iconst (2 : Int32) dX12_queueLines_66 kc_2 ?_
      refine J_iadd dX12_queueLines_67 ?_
      obtain ⟨g27, H⟩ := gd H
      refine J_iald dX12_queueLines_68 g4 (inB_ok g27) ?_
      refine J_aload_n 0 dX12_queueLines_69 rfl rfl ?_
      refine J_gP 11 1 dX12_queueLines_70 g3 flX12_8 rfl rfl ?_
      refine J_iload dX12_queueLines_73 rfl ?_
      refine J_iconst (1 : Int32) dX12_queueLines_75 kc_1 ?_
      refine J_iadd dX12_queueLines_76 ?_
      obtain ⟨g28, H⟩ := gd H
      refine J_iald dX12_queueLines_77 g4 (inB_ok g28) ?_
      refine J_isub dX12_queueLines_78 ?_
      refine J_iadd dX12_queueLines_79 ?_
      obtain ⟨w29, e30, H⟩ := lt_el H
      refine J_nmI e30 ?_
      refine J_istore_n 3 dX12_queueLines_80 rfl (by decide) (ls' := [.ref v0, Value.null, .int v2, .int w29, .int v4, .int ((v2 + (33 : Int32)) + ((5 : Int32) * v4)), .int t9]) rfl ?_
      refine J_goto 162 dX12_queueLines_81 rfl ?_
      refine J_iinc (v4 + (1 : Int32)) dX12_queueLines_162 rfl (congrArg (HAdd.hAdd v4) kc_1) (by decide) (ls' := [.ref v0, Value.null, .int v2, .int w29, .int (v4 + (1 : Int32)), .int ((v2 + (33 : Int32)) + ((5 : Int32) * v4)), .int t9]) rfl ?_
      refine J_goto 10 dX12_queueLines_165 rfl ?_
      cases H
      exact J_dr (hb0 _ rfl) ⟨rfl, ⟨rfl, ⟨rfl, ⟨rfl, trivial⟩⟩⟩⟩
noncomputable def MX12_queueLines_10 (h : Hp) (v0 : Nat) (v2 : Int32) (v3 : Int32) (v4 : Int32) : Option (Int32 × Hp) := it (fun q : Int32 × Int32 × Hp => BX12_queueLines_10 q.2.2 v0 v2 q.1 q.2.1) (v3, v4, h)
set_option maxRecDepth 100000 in
set_option maxHeartbeats 8000000 in
theorem kX12_queueLines_10 {d : Nat} {h : Hp} {v0 : Nat} {v2 : Int32} {v3 : Int32} {v4 : Int32} {r : Int32} {h9 : Hp} (H : MX12_queueLines_10 h v0 v2 v3 v4 = some (r, h9)) : J (d + 5) YX12_queueLines 10 [.ref v0, Value.null, .int v2, .int v3, .int v4, Value.null, Value.null] [] h (oI r) h9 := by
  unfold MX12_queueLines_10 at H
  refine it_J (G := (fun q : Int32 × Int32 × Hp => J (d + 5) YX12_queueLines 10 [.ref v0, Value.null, .int v2, .int q.1, .int q.2.1, Value.null, Value.null] [] q.2.2 (oI r) h9)) (Q := (fun y : (Int32 × Hp) => y = (r, h9))) (fun q x Hq hm => ?_) H rfl
  exact bX12_queueLines_10 Hq (fun s hs => by subst hs; exact hm) (fun z hz => by subst hz; exact hm)
noncomputable def MX12_queueLines (h : Hp) (v0 : Nat) (v1 : Int32) : Option (Int32 × Hp) :=
  Option.bind (α := Int32) (β := (Int32 × Hp)) (MX12_machine0 h v1) fun (t2 : Int32) =>
  MX12_queueLines_10 h v0 t2 (0 : Int32) (0 : Int32)
set_option maxRecDepth 100000 in
set_option maxHeartbeats 8000000 in
theorem eX12_queueLines {d : Nat} {h : Hp} {v0 : Nat} {v1 : Int32} {r : Int32} {h9 : Hp} (H : MX12_queueLines h v0 v1 = some (r, h9)) : J (d + 5) YX12_queueLines 0 [.ref v0, .int v1, Value.null, Value.null, Value.null, Value.null, Value.null] [] h (oI r) h9 := by
  unfold MX12_queueLines at H
  refine J_iload_n 1 dX12_queueLines_0 rfl rfl ?_
  obtain ⟨t2, e1, H⟩ := bd H
  refine J_cS (as := [.int v1]) YX12_machine0 1 dX12_queueLines_1 moX12_machine0 msX12_machine0 mlX12_360 (okX12_machine0 (d := d + 4) e1) rfl rfl [] rfl rfl (st2 := [.int t2]) rfl ?_
  refine J_istore_n 2 dX12_queueLines_4 rfl (by decide) (ls' := [.ref v0, .int v1, .int t2, Value.null, Value.null, Value.null, Value.null]) rfl ?_
  refine J_iconst (0 : Int32) dX12_queueLines_5 kc_0 ?_
  refine J_istore_n 3 dX12_queueLines_6 rfl (by decide) (ls' := [.ref v0, .int v1, .int t2, .int (0 : Int32), Value.null, Value.null, Value.null]) rfl ?_
  refine J_iconst (0 : Int32) dX12_queueLines_7 kc_0 ?_
  refine J_istore dX12_queueLines_8 (by decide) (ls' := [.ref v0, .int v1, .int t2, .int (0 : Int32), .int (0 : Int32), Value.null, Value.null]) rfl ?_
  exact J_dr (kX12_queueLines_10 H ) ⟨rfl, ⟨rfl, ⟨rfl, ⟨rfl, trivial⟩⟩⟩⟩
theorem okX12_queueLines {d : Nat} {h : Hp} {v0 : Nat} {v1 : Int32} {r : Int32} {h9 : Hp} (H : MX12_queueLines h v0 v1 = some (r, h9)) : CT (d + 5) YX12_queueLines [.ref v0, .int v1] h (oI r) h9 := CT_of (by decide +kernel) (Nat.le_of_ble_eq_true rfl) (eX12_queueLines H)
