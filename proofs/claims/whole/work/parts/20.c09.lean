noncomputable def MX10_readSpace (h : Hp) (v0 : Nat) : Option (Int32 × Hp) :=
  gg (β := (Int32 × Hp)) (kd h v0 = 9) <|
  b2 (α := Int32) (β := Hp) (γ := (Int32 × Hp)) (MX10_takeNumber h v0 (1 : Int32) (40 : Int32)) fun (t4 : Int32) (h3 : Hp) =>
  if t4 = (-1 : Int32) then
    some ((0 : Int32), h3)
  else
    gg (β := (Int32 × Hp)) (kd h3 v0 = 9) <|
    b2 (α := Int32) (β := Hp) (γ := (Int32 × Hp)) (MX10_takeNumber h3 v0 t4 (40 : Int32)) fun (t9 : Int32) (h8 : Hp) =>
    gg (β := (Int32 × Hp)) (kd h8 v0 = 9) <|
    gg (β := (Int32 × Hp)) (kd h8 (gP h8 v0 5) = 8) <|
    Option.bind (α := Hp) (β := (Int32 × Hp)) (MX9_addRule h8 (gP h8 v0 5) (1 : Int32) t4 t9) fun (h13 : Hp) =>
    if t9 = (-1 : Int32) then
      some ((0 : Int32), h13)
    else
      some ((1 : Int32), h13)
set_option maxRecDepth 100000 in
set_option maxHeartbeats 8000000 in
theorem eX10_readSpace {d : Nat} {h : Hp} {v0 : Nat} {r : Int32} {h9 : Hp} (H : MX10_readSpace h v0 = some (r, h9)) : J (d + 1) YX10_readSpace 0 [.ref v0, Value.null, Value.null] [] h (oI r) h9 := by
  unfold MX10_readSpace at H
  refine J_aload_n 0 dX10_readSpace_0 rfl rfl ?_
  refine J_iconst (1 : Int32) dX10_readSpace_1 kc_1 ?_
  refine J_bipush (40 : Int32) dX10_readSpace_2 kb_40 ?_
  obtain ⟨g2, H⟩ := gd H
  obtain ⟨t4, h3, e1, H⟩ := b2_el H
  refine J_cV (as := [.int (1 : Int32), .int (40 : Int32)]) 9 YX10_takeNumber 2 dX10_readSpace_4 moX10_takeNumber mvX10_takeNumber mlX10_99 g2 rfl rfl (okX10_takeNumber (d := d) e1) rfl rfl [] rfl rfl (st2 := [.int t4]) rfl ?_
  refine J_istore_n 1 dX10_readSpace_7 rfl (by decide) (ls' := [.ref v0, .int t4, Value.null]) rfl ?_
  refine J_iload_n 1 dX10_readSpace_8 rfl rfl ?_
  refine J_iconst (-1 : Int32) dX10_readSpace_9 kc_m1 ?_
  refine J_icmp_ne 15 dX10_readSpace_10 rfl (fun q5 => ?_) (fun q5 => ?_)
  · replace H := br0 q5 H
    refine J_aload_n 0 dX10_readSpace_15 rfl rfl ?_
    refine J_iload_n 1 dX10_readSpace_16 rfl rfl ?_
    refine J_bipush (40 : Int32) dX10_readSpace_17 kb_40 ?_
    obtain ⟨g7, H⟩ := gd H
    obtain ⟨t9, h8, e6, H⟩ := b2_el H
    refine J_cV (as := [.int t4, .int (40 : Int32)]) 9 YX10_takeNumber 2 dX10_readSpace_19 moX10_takeNumber mvX10_takeNumber mlX10_99 g7 rfl rfl (okX10_takeNumber (d := d) e6) rfl rfl [] rfl rfl (st2 := [.int t9]) rfl ?_
    refine J_istore_n 2 dX10_readSpace_22 rfl (by decide) (ls' := [.ref v0, .int t4, .int t9]) rfl ?_
    refine J_aload_n 0 dX10_readSpace_23 rfl rfl ?_
    obtain ⟨g10, H⟩ := gd H
    refine J_gP 9 5 dX10_readSpace_24 g10 flX10_28 rfl rfl ?_
    refine J_iconst (1 : Int32) dX10_readSpace_27 kc_1 ?_
    refine J_iload_n 1 dX10_readSpace_28 rfl rfl ?_
    refine J_iload_n 2 dX10_readSpace_29 rfl rfl ?_
    obtain ⟨g12, H⟩ := gd H
    obtain ⟨h13, e11, H⟩ := bd H
    refine J_cV (as := [.int (1 : Int32), .int t4, .int t9]) 8 YX9_addRule 3 dX10_readSpace_30 moX9_addRule mvX9_addRule mlX10_90 g12 rfl rfl (okX9_addRule (d := d) e11) rfl rfl [] rfl rfl (st2 := []) rfl ?_
    refine J_iload_n 2 dX10_readSpace_33 rfl rfl ?_
    refine J_iconst (-1 : Int32) dX10_readSpace_34 kc_m1 ?_
    refine J_icmp_eq 42 dX10_readSpace_35 rfl (fun q14 => ?_) (fun q14 => ?_)
    · replace H := br1 q14 H
      refine J_iconst (0 : Int32) dX10_readSpace_42 kc_0 ?_
      cases H
      exact J_rZ dX10_readSpace_43 rfl rfl
    · replace H := br0 q14 H
      refine J_iconst (1 : Int32) dX10_readSpace_38 kc_1 ?_
      refine J_goto 43 dX10_readSpace_39 rfl ?_
      cases H
      exact J_rZ dX10_readSpace_43 rfl rfl
  · replace H := br1 q5 H
    refine J_iconst (0 : Int32) dX10_readSpace_13 kc_0 ?_
    cases H
    exact J_rZ dX10_readSpace_14 rfl rfl
theorem okX10_readSpace {d : Nat} {h : Hp} {v0 : Nat} {r : Int32} {h9 : Hp} (H : MX10_readSpace h v0 = some (r, h9)) : CT (d + 1) YX10_readSpace [.ref v0] h (oI r) h9 := CT_of (by decide +kernel) (Nat.le_of_ble_eq_true rfl) (eX10_readSpace H)
noncomputable def MX10_readRule (h : Hp) (v0 : Nat) : Option (Int32 × Hp) :=
  gg (β := (Int32 × Hp)) (kd h v0 = 9) <|
  b2 (α := Int32) (β := Hp) (γ := (Int32 × Hp)) (MX10_takeWord h v0 13) fun (t4 : Int32) (h3 : Hp) =>
  if t4 = 0 then
    gg (β := (Int32 × Hp)) (kd h3 v0 = 9) <|
    b2 (α := Int32) (β := Hp) (γ := (Int32 × Hp)) (MX10_takeWord h3 v0 19) fun (t9 : Int32) (h8 : Hp) =>
    if t9 = 0 then
      gg (β := (Int32 × Hp)) (kd h8 v0 = 9) <|
      b2 (α := Int32) (β := Hp) (γ := (Int32 × Hp)) (MX10_takeWord h8 v0 17) fun (t14 : Int32) (h13 : Hp) =>
      if t14 = 0 then
        gg (β := (Int32 × Hp)) (kd h13 v0 = 9) <|
        b2 (α := Int32) (β := Hp) (γ := (Int32 × Hp)) (MX10_takeWord h13 v0 6) fun (t19 : Int32) (h18 : Hp) =>
        if t19 = 0 then
          gg (β := (Int32 × Hp)) (kd h18 v0 = 9) <|
          b2 (α := Int32) (β := Hp) (γ := (Int32 × Hp)) (MX10_takeWord h18 v0 18) fun (t24 : Int32) (h23 : Hp) =>
          if t24 = 0 then
            gg (β := (Int32 × Hp)) (kd h23 v0 = 9) <|
            b2 (α := Int32) (β := Hp) (γ := (Int32 × Hp)) (MX10_takeWord h23 v0 7) fun (t29 : Int32) (h28 : Hp) =>
            if t29 = 0 then
              gg (β := (Int32 × Hp)) (kd h28 v0 = 9) <|
              b2 (α := Int32) (β := Hp) (γ := (Int32 × Hp)) (MX10_takeWord h28 v0 3) fun (t34 : Int32) (h33 : Hp) =>
              if t34 = 0 then
                gg (β := (Int32 × Hp)) (kd h33 v0 = 9) <|
                b2 (α := Int32) (β := Hp) (γ := (Int32 × Hp)) (MX10_failHere h33 v0) fun (t39 : Int32) (h38 : Hp) =>
                gg (β := (Int32 × Hp)) (zOk t39 = true) <|
                some (t39, h38)
              else
                gg (β := (Int32 × Hp)) (kd h33 v0 = 9) <|
                b2 (α := Int32) (β := Hp) (γ := (Int32 × Hp)) (MX10_readClose h33 v0) fun (t44 : Int32) (h43 : Hp) =>
                gg (β := (Int32 × Hp)) (zOk t44 = true) <|
                some (t44, h43)
            else
              gg (β := (Int32 × Hp)) (kd h28 v0 = 9) <|
              gg (β := (Int32 × Hp)) (kd h28 (gP h28 v0 5) = 8) <|
              Option.bind (α := Hp) (β := (Int32 × Hp)) (MX9_addRule h28 (gP h28 v0 5) (5 : Int32) (0 : Int32) (0 : Int32)) fun (h49 : Hp) =>
              gg (β := (Int32 × Hp)) (kd h49 v0 = 9) <|
              b2 (α := Int32) (β := Hp) (γ := (Int32 × Hp)) (MX10_takeWord h49 v0 9) fun (t53 : Int32) (h52 : Hp) =>
              if t53 = 0 then
                gg (β := (Int32 × Hp)) (kd h52 v0 = 9) <|
                b2 (α := Int32) (β := Hp) (γ := (Int32 × Hp)) (MX10_failHere h52 v0) fun (t58 : Int32) (h57 : Hp) =>
                gg (β := (Int32 × Hp)) (zOk t58 = true) <|
                some (t58, h57)
              else
                gg (β := (Int32 × Hp)) (kd h52 v0 = 9) <|
                b2 (α := Int32) (β := Hp) (γ := (Int32 × Hp)) (MX10_either 30 h52 v0 (0 : Int32)) fun (t63 : Int32) (h62 : Hp) =>
                gg (β := (Int32 × Hp)) (zOk t63 = true) <|
                some (t63, h62)
          else
            gg (β := (Int32 × Hp)) (kd h23 v0 = 9) <|
            b2 (α := Int32) (β := Hp) (γ := (Int32 × Hp)) (MX10_readNumbered h23 v0 (4 : Int32) (0 : Int32) (999 : Int32)) fun (t68 : Int32) (h67 : Hp) =>
            if t68 = 0 then
              some ((0 : Int32), h67)
            else
              gg (β := (Int32 × Hp)) (kd h67 v0 = 9) <|
              b2 (α := Int32) (β := Hp) (γ := (Int32 × Hp)) (MX10_takeWord h67 v0 9) fun (t73 : Int32) (h72 : Hp) =>
              if t73 = 0 then
                some ((1 : Int32), h72)
              else
                gg (β := (Int32 × Hp)) (kd h72 v0 = 9) <|
                b2 (α := Int32) (β := Hp) (γ := (Int32 × Hp)) (MX10_either 30 h72 v0 (0 : Int32)) fun (t78 : Int32) (h77 : Hp) =>
                if t78 = 0 then
                  some ((0 : Int32), h77)
                else
                  some ((1 : Int32), h77)
        else
          gg (β := (Int32 × Hp)) (kd h18 v0 = 9) <|
          b2 (α := Int32) (β := Hp) (γ := (Int32 × Hp)) (MX10_readNumbered h18 v0 (3 : Int32) (0 : Int32) (99 : Int32)) fun (t83 : Int32) (h82 : Hp) =>
          gg (β := (Int32 × Hp)) (zOk t83 = true) <|
          some (t83, h82)
      else
        gg (β := (Int32 × Hp)) (kd h13 v0 = 9) <|
        b2 (α := Int32) (β := Hp) (γ := (Int32 × Hp)) (MX10_readNumbered h13 v0 (2 : Int32) (0 : Int32) (999 : Int32)) fun (t88 : Int32) (h87 : Hp) =>
        gg (β := (Int32 × Hp)) (zOk t88 = true) <|
        some (t88, h87)
    else
      gg (β := (Int32 × Hp)) (kd h8 v0 = 9) <|
      b2 (α := Int32) (β := Hp) (γ := (Int32 × Hp)) (MX10_readSpace h8 v0) fun (t93 : Int32) (h92 : Hp) =>
      gg (β := (Int32 × Hp)) (zOk t93 = true) <|
      some (t93, h92)
  else
    gg (β := (Int32 × Hp)) (kd h3 v0 = 9) <|
    b2 (α := Int32) (β := Hp) (γ := (Int32 × Hp)) (MX10_readNumbered h3 v0 (0 : Int32) (10 : Int32) (400 : Int32)) fun (t98 : Int32) (h97 : Hp) =>
    if t98 = 0 then
      some ((0 : Int32), h97)
    else
      gg (β := (Int32 × Hp)) (kd h97 v0 = 9) <|
      b2 (α := Int32) (β := Hp) (γ := (Int32 × Hp)) (MX10_takeWord h97 v0 9) fun (t103 : Int32) (h102 : Hp) =>
      if t103 = 0 then
        some ((1 : Int32), h102)
      else
        gg (β := (Int32 × Hp)) (kd h102 v0 = 9) <|
        b2 (α := Int32) (β := Hp) (γ := (Int32 × Hp)) (MX10_either 30 h102 v0 (0 : Int32)) fun (t108 : Int32) (h107 : Hp) =>
        if t108 = 0 then
          some ((0 : Int32), h107)
        else
          some ((1 : Int32), h107)
set_option maxRecDepth 100000 in
set_option maxHeartbeats 8000000 in
theorem eX10_readRule {d : Nat} {h : Hp} {v0 : Nat} {r : Int32} {h9 : Hp} (H : MX10_readRule h v0 = some (r, h9)) : J (d + 36) YX10_readRule 0 [.ref v0] [] h (oI r) h9 := by
  unfold MX10_readRule at H
  refine J_aload_n 0 dX10_readRule_0 rfl rfl ?_
  refine J_lS (tx := "measure") dX10_readRule_1 13 (by decide +kernel) ?_
  obtain ⟨g2, H⟩ := gd H
  obtain ⟨t4, h3, e1, H⟩ := b2_el H
  refine J_cV (as := [.retAddr 13]) 9 YX10_takeWord 1 dX10_readRule_3 moX10_takeWord mvX10_takeWord mlX10_64 g2 rfl rfl (okX10_takeWord (d := d + 31) e1) rfl rfl [] rfl rfl (st2 := [.int t4]) rfl ?_
  refine J_if_eq 45 dX10_readRule_6 rfl (fun q5 => ?_) (fun q5 => ?_)
  · replace H := br1 q5 H
    refine J_aload_n 0 dX10_readRule_45 rfl rfl ?_
    refine J_lS (tx := "space") dX10_readRule_46 19 (by decide +kernel) ?_
    obtain ⟨g7, H⟩ := gd H
    obtain ⟨t9, h8, e6, H⟩ := b2_el H
    refine J_cV (as := [.retAddr 19]) 9 YX10_takeWord 1 dX10_readRule_48 moX10_takeWord mvX10_takeWord mlX10_64 g7 rfl rfl (okX10_takeWord (d := d + 31) e6) rfl rfl [] rfl rfl (st2 := [.int t9]) rfl ?_
    refine J_if_eq 59 dX10_readRule_51 rfl (fun q10 => ?_) (fun q10 => ?_)
    · replace H := br1 q10 H
      refine J_aload_n 0 dX10_readRule_59 rfl rfl ?_
      refine J_lS (tx := "part") dX10_readRule_60 17 (by decide +kernel) ?_
      obtain ⟨g12, H⟩ := gd H
      obtain ⟨t14, h13, e11, H⟩ := b2_el H
      refine J_cV (as := [.retAddr 17]) 9 YX10_takeWord 1 dX10_readRule_62 moX10_takeWord mvX10_takeWord mlX10_64 g12 rfl rfl (okX10_takeWord (d := d + 31) e11) rfl rfl [] rfl rfl (st2 := [.int t14]) rfl ?_
      refine J_if_eq 78 dX10_readRule_65 rfl (fun q15 => ?_) (fun q15 => ?_)
      · replace H := br1 q15 H
        refine J_aload_n 0 dX10_readRule_78 rfl rfl ?_
        refine J_lS (tx := "fat") dX10_readRule_79 6 (by decide +kernel) ?_
        obtain ⟨g17, H⟩ := gd H
        obtain ⟨t19, h18, e16, H⟩ := b2_el H
        refine J_cV (as := [.retAddr 6]) 9 YX10_takeWord 1 dX10_readRule_81 moX10_takeWord mvX10_takeWord mlX10_64 g17 rfl rfl (okX10_takeWord (d := d + 31) e16) rfl rfl [] rfl rfl (st2 := [.int t19]) rfl ?_
        refine J_if_eq 96 dX10_readRule_84 rfl (fun q20 => ?_) (fun q20 => ?_)
        · replace H := br1 q20 H
          refine J_aload_n 0 dX10_readRule_96 rfl rfl ?_
          refine J_lS (tx := "pay") dX10_readRule_97 18 (by decide +kernel) ?_
          obtain ⟨g22, H⟩ := gd H
          obtain ⟨t24, h23, e21, H⟩ := b2_el H
          refine J_cV (as := [.retAddr 18]) 9 YX10_takeWord 1 dX10_readRule_99 moX10_takeWord mvX10_takeWord mlX10_64 g22 rfl rfl (okX10_takeWord (d := d + 31) e21) rfl rfl [] rfl rfl (st2 := [.int t24]) rfl ?_
          refine J_if_eq 140 dX10_readRule_102 rfl (fun q25 => ?_) (fun q25 => ?_)
          · replace H := br1 q25 H
            refine J_aload_n 0 dX10_readRule_140 rfl rfl ?_
            refine J_lS (tx := "free") dX10_readRule_141 7 (by decide +kernel) ?_
            obtain ⟨g27, H⟩ := gd H
            obtain ⟨t29, h28, e26, H⟩ := b2_el H
            refine J_cV (as := [.retAddr 7]) 9 YX10_takeWord 1 dX10_readRule_143 moX10_takeWord mvX10_takeWord mlX10_64 g27 rfl rfl (okX10_takeWord (d := d + 31) e26) rfl rfl [] rfl rfl (st2 := [.int t29]) rfl ?_
            refine J_if_eq 181 dX10_readRule_146 rfl (fun q30 => ?_) (fun q30 => ?_)
            · replace H := br1 q30 H
              refine J_aload_n 0 dX10_readRule_181 rfl rfl ?_
              refine J_lS (tx := "close") dX10_readRule_182 3 (by decide +kernel) ?_
              obtain ⟨g32, H⟩ := gd H
              obtain ⟨t34, h33, e31, H⟩ := b2_el H
              refine J_cV (as := [.retAddr 3]) 9 YX10_takeWord 1 dX10_readRule_184 moX10_takeWord mvX10_takeWord mlX10_64 g32 rfl rfl (okX10_takeWord (d := d + 31) e31) rfl rfl [] rfl rfl (st2 := [.int t34]) rfl ?_
              refine J_if_eq 197 dX10_readRule_187 rfl (fun q35 => ?_) (fun q35 => ?_)
              · replace H := br1 q35 H
                refine J_aload_n 0 dX10_readRule_197 rfl rfl ?_
                obtain ⟨g37, H⟩ := gd H
                obtain ⟨t39, h38, e36, H⟩ := b2_el H
                refine J_cV (as := []) 9 YX10_failHere 0 dX10_readRule_198 moX10_failHere mvX10_failHere mlX10_59 g37 rfl rfl (okX10_failHere (d := d + 35) e36) rfl rfl [] rfl rfl (st2 := [.int t39]) rfl ?_
                obtain ⟨g40, H⟩ := gd H
                cases H
                exact J_rZ dX10_readRule_201 rfl g40
              · replace H := br0 q35 H
                refine J_aload_n 0 dX10_readRule_190 rfl rfl ?_
                obtain ⟨g42, H⟩ := gd H
                obtain ⟨t44, h43, e41, H⟩ := b2_el H
                refine J_cV (as := []) 9 YX10_readClose 0 dX10_readRule_191 moX10_readClose mvX10_readClose mlX10_96 g42 rfl rfl (okX10_readClose (d := d + 30) e41) rfl rfl [] rfl rfl (st2 := [.int t44]) rfl ?_
                refine J_goto 201 dX10_readRule_194 rfl ?_
                obtain ⟨g45, H⟩ := gd H
                cases H
                exact J_rZ dX10_readRule_201 rfl g45
            · replace H := br0 q30 H
              refine J_aload_n 0 dX10_readRule_149 rfl rfl ?_
              obtain ⟨g46, H⟩ := gd H
              refine J_gP 9 5 dX10_readRule_150 g46 flX10_28 rfl rfl ?_
              refine J_iconst (5 : Int32) dX10_readRule_153 kc_5 ?_
              refine J_iconst (0 : Int32) dX10_readRule_154 kc_0 ?_
              refine J_iconst (0 : Int32) dX10_readRule_155 kc_0 ?_
              obtain ⟨g48, H⟩ := gd H
              obtain ⟨h49, e47, H⟩ := bd H
              refine J_cV (as := [.int (5 : Int32), .int (0 : Int32), .int (0 : Int32)]) 8 YX9_addRule 3 dX10_readRule_156 moX9_addRule mvX9_addRule mlX10_90 g48 rfl rfl (okX9_addRule (d := d + 35) e47) rfl rfl [] rfl rfl (st2 := []) rfl ?_
              refine J_aload_n 0 dX10_readRule_159 rfl rfl ?_
              refine J_lS (tx := "if") dX10_readRule_160 9 (by decide +kernel) ?_
              obtain ⟨g51, H⟩ := gd H
              obtain ⟨t53, h52, e50, H⟩ := b2_el H
              refine J_cV (as := [.retAddr 9]) 9 YX10_takeWord 1 dX10_readRule_162 moX10_takeWord mvX10_takeWord mlX10_64 g51 rfl rfl (okX10_takeWord (d := d + 31) e50) rfl rfl [] rfl rfl (st2 := [.int t53]) rfl ?_
              refine J_if_eq 176 dX10_readRule_165 rfl (fun q54 => ?_) (fun q54 => ?_)
              · replace H := br1 q54 H
                refine J_aload_n 0 dX10_readRule_176 rfl rfl ?_
                obtain ⟨g56, H⟩ := gd H
                obtain ⟨t58, h57, e55, H⟩ := b2_el H
                refine J_cV (as := []) 9 YX10_failHere 0 dX10_readRule_177 moX10_failHere mvX10_failHere mlX10_59 g56 rfl rfl (okX10_failHere (d := d + 35) e55) rfl rfl [] rfl rfl (st2 := [.int t58]) rfl ?_
                obtain ⟨g59, H⟩ := gd H
                cases H
                exact J_rZ dX10_readRule_180 rfl g59
              · replace H := br0 q54 H
                refine J_aload_n 0 dX10_readRule_168 rfl rfl ?_
                refine J_iconst (0 : Int32) dX10_readRule_169 kc_0 ?_
                obtain ⟨g61, H⟩ := gd H
                obtain ⟨t63, h62, e60, H⟩ := b2_el H
                refine J_cV (as := [.int (0 : Int32)]) 9 YX10_either 1 dX10_readRule_170 moX10_either mvX10_either mlX10_74 g61 rfl rfl (okX10_either (d := d) e60) rfl rfl [] rfl rfl (st2 := [.int t63]) rfl ?_
                refine J_goto 180 dX10_readRule_173 rfl ?_
                obtain ⟨g64, H⟩ := gd H
                cases H
                exact J_rZ dX10_readRule_180 rfl g64
          · replace H := br0 q25 H
            refine J_aload_n 0 dX10_readRule_105 rfl rfl ?_
            refine J_iconst (4 : Int32) dX10_readRule_106 kc_4 ?_
            refine J_iconst (0 : Int32) dX10_readRule_107 kc_0 ?_
            refine J_sipush (999 : Int32) dX10_readRule_108 ks_999 ?_
            obtain ⟨g66, H⟩ := gd H
            obtain ⟨t68, h67, e65, H⟩ := b2_el H
            refine J_cV (as := [.int (4 : Int32), .int (0 : Int32), .int (999 : Int32)]) 9 YX10_readNumbered 3 dX10_readRule_111 moX10_readNumbered mvX10_readNumbered mlX10_68 g66 rfl rfl (okX10_readNumbered (d := d + 34) e65) rfl rfl [] rfl rfl (st2 := [.int t68]) rfl ?_
            refine J_if_eq 138 dX10_readRule_114 rfl (fun q69 => ?_) (fun q69 => ?_)
            · replace H := br1 q69 H
              refine J_iconst (0 : Int32) dX10_readRule_138 kc_0 ?_
              cases H
              exact J_rZ dX10_readRule_139 rfl rfl
            · replace H := br0 q69 H
              refine J_aload_n 0 dX10_readRule_117 rfl rfl ?_
              refine J_lS (tx := "if") dX10_readRule_118 9 (by decide +kernel) ?_
              obtain ⟨g71, H⟩ := gd H
              obtain ⟨t73, h72, e70, H⟩ := b2_el H
              refine J_cV (as := [.retAddr 9]) 9 YX10_takeWord 1 dX10_readRule_120 moX10_takeWord mvX10_takeWord mlX10_64 g71 rfl rfl (okX10_takeWord (d := d + 31) e70) rfl rfl [] rfl rfl (st2 := [.int t73]) rfl ?_
              refine J_if_eq 134 dX10_readRule_123 rfl (fun q74 => ?_) (fun q74 => ?_)
              · replace H := br1 q74 H
                refine J_iconst (1 : Int32) dX10_readRule_134 kc_1 ?_
                refine J_goto 139 dX10_readRule_135 rfl ?_
                cases H
                exact J_rZ dX10_readRule_139 rfl rfl
              · replace H := br0 q74 H
                refine J_aload_n 0 dX10_readRule_126 rfl rfl ?_
                refine J_iconst (0 : Int32) dX10_readRule_127 kc_0 ?_
                obtain ⟨g76, H⟩ := gd H
                obtain ⟨t78, h77, e75, H⟩ := b2_el H
                refine J_cV (as := [.int (0 : Int32)]) 9 YX10_either 1 dX10_readRule_128 moX10_either mvX10_either mlX10_74 g76 rfl rfl (okX10_either (d := d) e75) rfl rfl [] rfl rfl (st2 := [.int t78]) rfl ?_
                refine J_if_eq 138 dX10_readRule_131 rfl (fun q79 => ?_) (fun q79 => ?_)
                · replace H := br1 q79 H
                  refine J_iconst (0 : Int32) dX10_readRule_138 kc_0 ?_
                  cases H
                  exact J_rZ dX10_readRule_139 rfl rfl
                · replace H := br0 q79 H
                  refine J_iconst (1 : Int32) dX10_readRule_134 kc_1 ?_
                  refine J_goto 139 dX10_readRule_135 rfl ?_
                  cases H
                  exact J_rZ dX10_readRule_139 rfl rfl
        · replace H := br0 q20 H
          refine J_aload_n 0 dX10_readRule_87 rfl rfl ?_
          refine J_iconst (3 : Int32) dX10_readRule_88 kc_3 ?_
          refine J_iconst (0 : Int32) dX10_readRule_89 kc_0 ?_
          refine J_bipush (99 : Int32) dX10_readRule_90 kb_99 ?_
          obtain ⟨g81, H⟩ := gd H
          obtain ⟨t83, h82, e80, H⟩ := b2_el H
          refine J_cV (as := [.int (3 : Int32), .int (0 : Int32), .int (99 : Int32)]) 9 YX10_readNumbered 3 dX10_readRule_92 moX10_readNumbered mvX10_readNumbered mlX10_68 g81 rfl rfl (okX10_readNumbered (d := d + 34) e80) rfl rfl [] rfl rfl (st2 := [.int t83]) rfl ?_
          obtain ⟨g84, H⟩ := gd H
          cases H
          exact J_rZ dX10_readRule_95 rfl g84
      · replace H := br0 q15 H
        refine J_aload_n 0 dX10_readRule_68 rfl rfl ?_
        refine J_iconst (2 : Int32) dX10_readRule_69 kc_2 ?_
        refine J_iconst (0 : Int32) dX10_readRule_70 kc_0 ?_
        refine J_sipush (999 : Int32) dX10_readRule_71 ks_999 ?_
        obtain ⟨g86, H⟩ := gd H
        obtain ⟨t88, h87, e85, H⟩ := b2_el H
        refine J_cV (as := [.int (2 : Int32), .int (0 : Int32), .int (999 : Int32)]) 9 YX10_readNumbered 3 dX10_readRule_74 moX10_readNumbered mvX10_readNumbered mlX10_68 g86 rfl rfl (okX10_readNumbered (d := d + 34) e85) rfl rfl [] rfl rfl (st2 := [.int t88]) rfl ?_
        obtain ⟨g89, H⟩ := gd H
        cases H
        exact J_rZ dX10_readRule_77 rfl g89
    · replace H := br0 q10 H
      refine J_aload_n 0 dX10_readRule_54 rfl rfl ?_
      obtain ⟨g91, H⟩ := gd H
      obtain ⟨t93, h92, e90, H⟩ := b2_el H
      refine J_cV (as := []) 9 YX10_readSpace 0 dX10_readRule_55 moX10_readSpace mvX10_readSpace mlX10_79 g91 rfl rfl (okX10_readSpace (d := d + 34) e90) rfl rfl [] rfl rfl (st2 := [.int t93]) rfl ?_
      obtain ⟨g94, H⟩ := gd H
      cases H
      exact J_rZ dX10_readRule_58 rfl g94
  · replace H := br0 q5 H
    refine J_aload_n 0 dX10_readRule_9 rfl rfl ?_
    refine J_iconst (0 : Int32) dX10_readRule_10 kc_0 ?_
    refine J_bipush (10 : Int32) dX10_readRule_11 kb_10 ?_
    refine J_sipush (400 : Int32) dX10_readRule_13 ks_400 ?_
    obtain ⟨g96, H⟩ := gd H
    obtain ⟨t98, h97, e95, H⟩ := b2_el H
    refine J_cV (as := [.int (0 : Int32), .int (10 : Int32), .int (400 : Int32)]) 9 YX10_readNumbered 3 dX10_readRule_16 moX10_readNumbered mvX10_readNumbered mlX10_68 g96 rfl rfl (okX10_readNumbered (d := d + 34) e95) rfl rfl [] rfl rfl (st2 := [.int t98]) rfl ?_
    refine J_if_eq 43 dX10_readRule_19 rfl (fun q99 => ?_) (fun q99 => ?_)
    · replace H := br1 q99 H
      refine J_iconst (0 : Int32) dX10_readRule_43 kc_0 ?_
      cases H
      exact J_rZ dX10_readRule_44 rfl rfl
    · replace H := br0 q99 H
      refine J_aload_n 0 dX10_readRule_22 rfl rfl ?_
      refine J_lS (tx := "if") dX10_readRule_23 9 (by decide +kernel) ?_
      obtain ⟨g101, H⟩ := gd H
      obtain ⟨t103, h102, e100, H⟩ := b2_el H
      refine J_cV (as := [.retAddr 9]) 9 YX10_takeWord 1 dX10_readRule_25 moX10_takeWord mvX10_takeWord mlX10_64 g101 rfl rfl (okX10_takeWord (d := d + 31) e100) rfl rfl [] rfl rfl (st2 := [.int t103]) rfl ?_
      refine J_if_eq 39 dX10_readRule_28 rfl (fun q104 => ?_) (fun q104 => ?_)
      · replace H := br1 q104 H
        refine J_iconst (1 : Int32) dX10_readRule_39 kc_1 ?_
        refine J_goto 44 dX10_readRule_40 rfl ?_
        cases H
        exact J_rZ dX10_readRule_44 rfl rfl
      · replace H := br0 q104 H
        refine J_aload_n 0 dX10_readRule_31 rfl rfl ?_
        refine J_iconst (0 : Int32) dX10_readRule_32 kc_0 ?_
        obtain ⟨g106, H⟩ := gd H
        obtain ⟨t108, h107, e105, H⟩ := b2_el H
        refine J_cV (as := [.int (0 : Int32)]) 9 YX10_either 1 dX10_readRule_33 moX10_either mvX10_either mlX10_74 g106 rfl rfl (okX10_either (d := d) e105) rfl rfl [] rfl rfl (st2 := [.int t108]) rfl ?_
        refine J_if_eq 43 dX10_readRule_36 rfl (fun q109 => ?_) (fun q109 => ?_)
        · replace H := br1 q109 H
          refine J_iconst (0 : Int32) dX10_readRule_43 kc_0 ?_
          cases H
          exact J_rZ dX10_readRule_44 rfl rfl
        · replace H := br0 q109 H
          refine J_iconst (1 : Int32) dX10_readRule_39 kc_1 ?_
          refine J_goto 44 dX10_readRule_40 rfl ?_
          cases H
          exact J_rZ dX10_readRule_44 rfl rfl
theorem okX10_readRule {d : Nat} {h : Hp} {v0 : Nat} {r : Int32} {h9 : Hp} (H : MX10_readRule h v0 = some (r, h9)) : CT (d + 36) YX10_readRule [.ref v0] h (oI r) h9 := CT_of (by decide +kernel) (Nat.le_of_ble_eq_true rfl) (eX10_readRule H)
noncomputable def MX10_firstWrong_92 (h : Hp) (v0 : Nat) : Option (Int32 × Hp) :=
  gg (β := (Int32 × Hp)) (kd h v0 = 9) <|
  some ((gI h v0 3), h)
set_option maxRecDepth 100000 in
set_option maxHeartbeats 8000000 in
theorem kX10_firstWrong_92 {d : Nat} {h : Hp} {v0 : Nat} {r : Int32} {h9 : Hp} (H : MX10_firstWrong_92 h v0 = some (r, h9)) : J (d + 37) YX10_firstWrong 92 [.ref v0, Value.null, Value.null, Value.null] [] h (oI r) h9 := by
  unfold MX10_firstWrong_92 at H
  refine J_aload_n 0 dX10_firstWrong_92 rfl rfl ?_
  obtain ⟨g31, H⟩ := gd H
  refine J_getI 9 3 dX10_firstWrong_93 g31 flX10_18 rfl ?_
  cases H
  exact J_iretI dX10_firstWrong_96 rfl
noncomputable def MX10_firstWrong_85 (h : Hp) (v0 : Nat) (v3 : Int32) (s0 : Int32) : Option ((Int32 × Int32 × Hp) ⊕ (Int32 × Hp)) :=
  some (.inl (s0, (v3 + (1 : Int32)), h))
set_option maxRecDepth 100000 in
set_option maxHeartbeats 8000000 in
theorem kX10_firstWrong_85 {d : Nat} {h : Hp} {v0 : Nat} {v3 : Int32} {s0 : Int32} {r : Int32} {h9 : Hp} {x : ((Int32 × Int32 × Hp) ⊕ (Int32 × Hp))} (H : MX10_firstWrong_85 h v0 v3 s0 = some x) (hb0 : ∀ s : Int32 × Int32 × Hp, x = .inl s → J (d + 37) YX10_firstWrong 56 [.ref v0, Value.null, .int s.1, .int s.2.1] [] s.2.2 (oI r) h9) (hx : ∀ z : (Int32 × Hp), x = .inr (z) → z = (r, h9)) : J (d + 37) YX10_firstWrong 85 [.ref v0, Value.null, Value.null, .int v3] [.int s0] h (oI r) h9 := by
  unfold MX10_firstWrong_85 at H
  refine J_istore_n 2 dX10_firstWrong_85 rfl (by decide) (ls' := [.ref v0, Value.null, .int s0, .int v3]) rfl ?_
  refine J_iinc (v3 + (1 : Int32)) dX10_firstWrong_86 rfl (congrArg (HAdd.hAdd v3) kc_1) (by decide) (ls' := [.ref v0, Value.null, .int s0, .int (v3 + (1 : Int32))]) rfl ?_
  refine J_goto 56 dX10_firstWrong_89 rfl ?_
  cases H
  exact J_dr (hb0 _ rfl) ⟨rfl, ⟨rfl, ⟨rfl, trivial⟩⟩⟩
noncomputable def MX10_firstWrong_84 (h : Hp) (v0 : Nat) (v3 : Int32) : Option ((Int32 × Int32 × Hp) ⊕ (Int32 × Hp)) :=
  MX10_firstWrong_85 h v0 v3 (0 : Int32)
set_option maxRecDepth 100000 in
set_option maxHeartbeats 8000000 in
theorem kX10_firstWrong_84 {d : Nat} {h : Hp} {v0 : Nat} {v3 : Int32} {r : Int32} {h9 : Hp} {x : ((Int32 × Int32 × Hp) ⊕ (Int32 × Hp))} (H : MX10_firstWrong_84 h v0 v3 = some x) (hb0 : ∀ s : Int32 × Int32 × Hp, x = .inl s → J (d + 37) YX10_firstWrong 56 [.ref v0, Value.null, .int s.1, .int s.2.1] [] s.2.2 (oI r) h9) (hx : ∀ z : (Int32 × Hp), x = .inr (z) → z = (r, h9)) : J (d + 37) YX10_firstWrong 84 [.ref v0, Value.null, Value.null, .int v3] [] h (oI r) h9 := by
  unfold MX10_firstWrong_84 at H
  refine J_iconst (0 : Int32) dX10_firstWrong_84 kc_0 ?_
  exact J_dr (kX10_firstWrong_85 H hb0 hx) ⟨rfl, ⟨rfl, trivial⟩⟩
noncomputable def BX10_firstWrong_56 (h : Hp) (v0 : Nat) (v2 : Int32) (v3 : Int32) : Option ((Int32 × Int32 × Hp) ⊕ (Int32 × Hp)) :=
  if v2 = 0 then
    up1 (MX10_firstWrong_92 h v0)
  else
    if (12 : Int32) ≤ v3 then
      up1 (MX10_firstWrong_92 h v0)
    else
      gg (β := ((Int32 × Int32 × Hp) ⊕ (Int32 × Hp))) (kd h v0 = 9) <|
      b2 (α := Int32) (β := Hp) (γ := ((Int32 × Int32 × Hp) ⊕ (Int32 × Hp))) (MX10_readRule h v0) fun (t36 : Int32) (h35 : Hp) =>
      if t36 = 0 then
        MX10_firstWrong_84 h35 v0 v3
      else
        gg (β := ((Int32 × Int32 × Hp) ⊕ (Int32 × Hp))) (kd h35 v0 = 9) <|
        b2 (α := Int32) (β := Hp) (γ := ((Int32 × Int32 × Hp) ⊕ (Int32 × Hp))) (MX10_anotherFollows h35 v0) fun (t41 : Int32) (h40 : Hp) =>
        if t41 = 0 then
          MX10_firstWrong_84 h40 v0 v3
        else
          MX10_firstWrong_85 h40 v0 v3 (1 : Int32)
set_option maxRecDepth 100000 in
set_option maxHeartbeats 8000000 in
theorem bX10_firstWrong_56 {d : Nat} {h : Hp} {v0 : Nat} {v2 : Int32} {v3 : Int32} {r : Int32} {h9 : Hp} {x : ((Int32 × Int32 × Hp) ⊕ (Int32 × Hp))} (H : BX10_firstWrong_56 h v0 v2 v3 = some x) (hb0 : ∀ s : Int32 × Int32 × Hp, x = .inl s → J (d + 37) YX10_firstWrong 56 [.ref v0, Value.null, .int s.1, .int s.2.1] [] s.2.2 (oI r) h9) (hx : ∀ z : (Int32 × Hp), x = .inr (z) → z = (r, h9)) : J (d + 37) YX10_firstWrong 56 [.ref v0, Value.null, .int v2, .int v3] [] h (oI r) h9 := by
  unfold BX10_firstWrong_56 at H
  refine J_iload_n 2 dX10_firstWrong_56 rfl rfl ?_
  refine J_if_eq 92 dX10_firstWrong_57 rfl (fun q30 => ?_) (fun q30 => ?_)
  · replace H := br1 q30 H
    obtain ⟨y0, H90, rfl⟩ := up1_el H
    replace H := H90
    obtain rfl := hx _ rfl
    exact J_dr (kX10_firstWrong_92 H ) ⟨rfl, trivial⟩
  · replace H := br0 q30 H
    refine J_iload_n 3 dX10_firstWrong_60 rfl rfl ?_
    refine J_bipush (12 : Int32) dX10_firstWrong_61 kb_12 ?_
    refine J_icmp_ge 92 dX10_firstWrong_63 rfl (fun q32 => ?_) (fun q32 => ?_)
    · replace H := br1 q32 H
      obtain ⟨y0, H90, rfl⟩ := up1_el H
      replace H := H90
      obtain rfl := hx _ rfl
      exact J_dr (kX10_firstWrong_92 H ) ⟨rfl, trivial⟩
    · replace H := br0 q32 H
      refine J_aload_n 0 dX10_firstWrong_66 rfl rfl ?_
      obtain ⟨g34, H⟩ := gd H
      obtain ⟨t36, h35, e33, H⟩ := b2_el H
      refine J_cV (as := []) 9 YX10_readRule 0 dX10_firstWrong_67 moX10_readRule mvX10_readRule mlX10_48 g34 rfl rfl (okX10_readRule (d := d) e33) rfl rfl [] rfl rfl (st2 := [.int t36]) rfl ?_
      refine J_if_eq 84 dX10_firstWrong_70 rfl (fun q37 => ?_) (fun q37 => ?_)
      · replace H := br1 q37 H
        exact J_dr (kX10_firstWrong_84 H hb0 hx) ⟨rfl, ⟨rfl, trivial⟩⟩
      · replace H := br0 q37 H
        refine J_aload_n 0 dX10_firstWrong_73 rfl rfl ?_
        obtain ⟨g39, H⟩ := gd H
        obtain ⟨t41, h40, e38, H⟩ := b2_el H
        refine J_cV (as := []) 9 YX10_anotherFollows 0 dX10_firstWrong_74 moX10_anotherFollows mvX10_anotherFollows mlX10_52 g39 rfl rfl (okX10_anotherFollows (d := d + 35) e38) rfl rfl [] rfl rfl (st2 := [.int t41]) rfl ?_
        refine J_if_eq 84 dX10_firstWrong_77 rfl (fun q42 => ?_) (fun q42 => ?_)
        · replace H := br1 q42 H
          exact J_dr (kX10_firstWrong_84 H hb0 hx) ⟨rfl, ⟨rfl, trivial⟩⟩
        · replace H := br0 q42 H
          refine J_iconst (1 : Int32) dX10_firstWrong_80 kc_1 ?_
          refine J_goto 85 dX10_firstWrong_81 rfl ?_
          exact J_dr (kX10_firstWrong_85 H hb0 hx) ⟨rfl, ⟨rfl, trivial⟩⟩
noncomputable def MX10_firstWrong_56 (h : Hp) (v0 : Nat) (v2 : Int32) (v3 : Int32) : Option (Int32 × Hp) := it (fun q : Int32 × Int32 × Hp => BX10_firstWrong_56 q.2.2 v0 q.1 q.2.1) (v2, v3, h)
set_option maxRecDepth 100000 in
set_option maxHeartbeats 8000000 in
theorem kX10_firstWrong_56 {d : Nat} {h : Hp} {v0 : Nat} {v2 : Int32} {v3 : Int32} {r : Int32} {h9 : Hp} (H : MX10_firstWrong_56 h v0 v2 v3 = some (r, h9)) : J (d + 37) YX10_firstWrong 56 [.ref v0, Value.null, .int v2, .int v3] [] h (oI r) h9 := by
  unfold MX10_firstWrong_56 at H
  refine it_J (G := (fun q : Int32 × Int32 × Hp => J (d + 37) YX10_firstWrong 56 [.ref v0, Value.null, .int q.1, .int q.2.1] [] q.2.2 (oI r) h9)) (Q := (fun y : (Int32 × Hp) => y = (r, h9))) (fun q x Hq hm => ?_) H rfl
  exact bX10_firstWrong_56 Hq (fun s hs => by subst hs; exact hm) (fun z hz => by subst hz; exact hm)
noncomputable def MX10_firstWrong_53 (h : Hp) (v0 : Nat) (s0 : Int32) : Option (Int32 × Hp) :=
  MX10_firstWrong_56 h v0 s0 (0 : Int32)
set_option maxRecDepth 100000 in
set_option maxHeartbeats 8000000 in
theorem kX10_firstWrong_53 {d : Nat} {h : Hp} {v0 : Nat} {s0 : Int32} {r : Int32} {h9 : Hp} (H : MX10_firstWrong_53 h v0 s0 = some (r, h9)) : J (d + 37) YX10_firstWrong 53 [.ref v0, Value.null, Value.null, Value.null] [.int s0] h (oI r) h9 := by
  unfold MX10_firstWrong_53 at H
  refine J_istore_n 2 dX10_firstWrong_53 rfl (by decide) (ls' := [.ref v0, Value.null, .int s0, Value.null]) rfl ?_
  refine J_iconst (0 : Int32) dX10_firstWrong_54 kc_0 ?_
  refine J_istore_n 3 dX10_firstWrong_55 rfl (by decide) (ls' := [.ref v0, Value.null, .int s0, .int (0 : Int32)]) rfl ?_
  exact J_dr (kX10_firstWrong_56 H ) ⟨rfl, ⟨rfl, ⟨rfl, trivial⟩⟩⟩
noncomputable def MX10_firstWrong (h : Hp) (v0 : Nat) (v1 : Int32) : Option (Int32 × Hp) :=
  gg (β := (Int32 × Hp)) (kd h v0 = 9) <|
  gg (β := (Int32 × Hp)) (kd h (gP h v0 5) = 8) <|
  lt (α := Hp) (β := Option (Int32 × Hp)) (sI h (gP h v0 5) 1 (0 : Int32)) fun (h3 : Hp) =>
  gg (β := (Int32 × Hp)) (kd h (gP h v0 0) = 21) <|
  lt (α := Hp) (β := Option (Int32 × Hp)) (sI h3 v0 1 (jmin v1 (nI (ln h3 (gP h v0 0))))) fun (h9 : Hp) =>
  lt (α := Hp) (β := Option (Int32 × Hp)) (sI h9 v0 2 (0 : Int32)) fun (h14 : Hp) =>
  lt (α := Hp) (β := Option (Int32 × Hp)) (sI h14 v0 3 (-1 : Int32)) fun (h19 : Hp) =>
  Option.bind (α := Hp) (β := (Int32 × Hp)) (MX10_findInk h19 v0) fun (h25 : Hp) =>
  gg (β := (Int32 × Hp)) (kd h25 v0 = 9) <|
  gg (β := (Int32 × Hp)) (kd h25 (gP h25 v0 4) = 20) <|
  gg (β := (Int32 × Hp)) (inB (0 : Int32) (ln h25 (gP h25 v0 4)) = true) <|
  if (gI h25 v0 1) ≤ (gI h25 (gP h25 v0 4) (0 : Int32).toNatClampNeg) then
    MX10_firstWrong_53 h25 v0 (0 : Int32)
  else
    MX10_firstWrong_53 h25 v0 (1 : Int32)
set_option maxRecDepth 100000 in
set_option maxHeartbeats 8000000 in
theorem eX10_firstWrong {d : Nat} {h : Hp} {v0 : Nat} {v1 : Int32} {r : Int32} {h9 : Hp} (H : MX10_firstWrong h v0 v1 = some (r, h9)) : J (d + 37) YX10_firstWrong 0 [.ref v0, .int v1, Value.null, Value.null] [] h (oI r) h9 := by
  unfold MX10_firstWrong at H
  refine J_aload_n 0 dX10_firstWrong_0 rfl rfl ?_
  obtain ⟨g1, H⟩ := gd H
  refine J_gP 9 5 dX10_firstWrong_1 g1 flX10_28 rfl rfl ?_
  refine J_iconst (0 : Int32) dX10_firstWrong_4 kc_0 ?_
  obtain ⟨g2, H⟩ := gd H
  obtain ⟨h3, e4, H⟩ := lt_el H
  refine J_pI 8 1 dX10_firstWrong_5 g2 flX10_36 rfl rfl e4 ?_
  have c5 := ekI e4
  have c6 := elI e4
  have c7 := epI e4
  refine J_aload_n 0 dX10_firstWrong_8 rfl rfl ?_
  refine J_iload_n 1 dX10_firstWrong_9 rfl rfl ?_
  refine J_aload_n 0 dX10_firstWrong_10 rfl rfl ?_
  refine J_gP 9 0 dX10_firstWrong_11 (kq c5 g1) flX10_32 rfl (congrFun (congrFun c7 v0) 0) ?_
  obtain ⟨g8, H⟩ := gd H
  refine J_len 21 dX10_firstWrong_14 (kq c5 g8) rfl ?_
  refine J_mn dX10_firstWrong_15 mlX10_39 rfl ?_
  obtain ⟨h9, e10, H⟩ := lt_el H
  refine J_pI 9 1 dX10_firstWrong_18 (kq c5 g1) flX10_9 rfl rfl e10 ?_
  have c11 := (ekI e10).trans c5
  have c12 := (elI e10).trans c6
  have c13 := (epI e10).trans c7
  refine J_aload_n 0 dX10_firstWrong_21 rfl rfl ?_
  refine J_iconst (0 : Int32) dX10_firstWrong_22 kc_0 ?_
  obtain ⟨h14, e15, H⟩ := lt_el H
  refine J_pI 9 2 dX10_firstWrong_23 (kq c11 g1) flX10_15 rfl rfl e15 ?_
  have c16 := (ekI e15).trans c11
  have c17 := (elI e15).trans c12
  have c18 := (epI e15).trans c13
  refine J_aload_n 0 dX10_firstWrong_26 rfl rfl ?_
  refine J_iconst (-1 : Int32) dX10_firstWrong_27 kc_m1 ?_
  obtain ⟨h19, e20, H⟩ := lt_el H
  refine J_pI 9 3 dX10_firstWrong_28 (kq c16 g1) flX10_18 rfl rfl e20 ?_
  have c21 := (ekI e20).trans c16
  have c22 := (elI e20).trans c17
  have c23 := (epI e20).trans c18
  refine J_aload_n 0 dX10_firstWrong_31 rfl rfl ?_
  obtain ⟨h25, e24, H⟩ := bd H
  refine J_cV (as := []) 9 YX10_findInk 0 dX10_firstWrong_32 moX10_findInk mvX10_findInk mlX10_45 (kq c21 g1) rfl rfl (okX10_findInk (d := d + 36) e24) rfl rfl [] rfl rfl (st2 := []) rfl ?_
  refine J_aload_n 0 dX10_firstWrong_35 rfl rfl ?_
  obtain ⟨g26, H⟩ := gd H
  refine J_gP 9 4 dX10_firstWrong_36 g26 flX10_21 rfl rfl ?_
  refine J_iconst (0 : Int32) dX10_firstWrong_39 kc_0 ?_
  obtain ⟨g27, H⟩ := gd H
  obtain ⟨g28, H⟩ := gd H
  refine J_iald dX10_firstWrong_40 g27 (inB_ok g28) ?_
  refine J_aload_n 0 dX10_firstWrong_41 rfl rfl ?_
  refine J_getI 9 1 dX10_firstWrong_42 g26 flX10_9 rfl ?_
  refine J_icmp_ge 52 dX10_firstWrong_45 rfl (fun q29 => ?_) (fun q29 => ?_)
  · replace H := br1 q29 H
    refine J_iconst (0 : Int32) dX10_firstWrong_52 kc_0 ?_
    exact J_dr (kX10_firstWrong_53 H ) ⟨rfl, trivial⟩
  · replace H := br0 q29 H
    refine J_iconst (1 : Int32) dX10_firstWrong_48 kc_1 ?_
    refine J_goto 53 dX10_firstWrong_49 rfl ?_
    exact J_dr (kX10_firstWrong_53 H ) ⟨rfl, trivial⟩
theorem okX10_firstWrong {d : Nat} {h : Hp} {v0 : Nat} {v1 : Int32} {r : Int32} {h9 : Hp} (H : MX10_firstWrong h v0 v1 = some (r, h9)) : CT (d + 37) YX10_firstWrong [.ref v0, .int v1] h (oI r) h9 := CT_of (by decide +kernel) (Nat.le_of_ble_eq_true rfl) (eX10_firstWrong H)
noncomputable def MX11_style (h : Hp) (v0 : Nat) (v1 : Int32) : Option ((Int32 ⊕ Nat) × Hp) :=
  gg (β := ((Int32 ⊕ Nat) × Hp)) (kd h v0 = 10) <|
  b2 (α := Int32) (β := Hp) (γ := ((Int32 ⊕ Nat) × Hp)) (MX11_useTape h v0) fun (t4 : Int32) (h3 : Hp) =>
  gg (β := ((Int32 ⊕ Nat) × Hp)) (kd h3 v0 = 10) <|
  gg (β := ((Int32 ⊕ Nat) × Hp)) (kd h3 (gP h3 v0 5) = 6) <|
  if v1 < (gI h3 (gP h3 v0 5) 0) then
    some (.inr 2, bmp h3 1 6)
  else
    if v1 ≤ (600 : Int32) then
      gg (β := ((Int32 ⊕ Nat) × Hp)) (kd h3 (gP h3 v0 3) = 9) <|
      b2 (α := Int32) (β := Hp) (γ := ((Int32 ⊕ Nat) × Hp)) (MX10_firstWrong h3 (gP h3 v0 3) t4) fun (t12 : Int32) (h11 : Hp) =>
      gg (β := ((Int32 ⊕ Nat) × Hp)) (kd h11 v0 = 10) <|
      lt (α := Hp) (β := Option ((Int32 ⊕ Nat) × Hp)) (sI h11 v0 2 t12) fun (h14 : Hp) =>
      if (gI h14 v0 2) = (-1 : Int32) then
        gg (β := ((Int32 ⊕ Nat) × Hp)) (kd h11 (gP h11 v0 5) = 6) <|
        if (gI h14 (gP h11 v0 5) 3) < (10 : Int32) then
          gg (β := ((Int32 ⊕ Nat) × Hp)) (kd h11 (gP h11 v0 3) = 9) <|
          Option.bind (α := Hp) (β := ((Int32 ⊕ Nat) × Hp)) (MX7_addStyle h14 (gP h11 v0 5) (gP h11 (gP h11 v0 3) 5) v1) fun (h24 : Hp) =>
          gg (β := ((Int32 ⊕ Nat) × Hp)) (kd h24 v0 = 10) <|
          gg (β := ((Int32 ⊕ Nat) × Hp)) (kd h24 (gP h24 v0 3) = 9) <|
          gg (β := ((Int32 ⊕ Nat) × Hp)) (kd h24 (gP h24 (gP h24 v0 3) 5) = 8) <|
          some (.inl (gI h24 (gP h24 (gP h24 v0 3) 5) 1), h24)
        else
          some (.inr 3, bmp h14 1 6)
      else
        some (.inr 2, bmp h14 1 6)
    else
      some (.inr 2, bmp h3 1 6)
set_option maxRecDepth 100000 in
set_option maxHeartbeats 8000000 in
theorem eX11_style {d : Nat} {h : Hp} {v0 : Nat} {v1 : Int32} {r : Int32 ⊕ Nat} {h9 : Hp} (H : MX11_style h v0 v1 = some (r, h9)) : J (d + 38) YX11_style 0 [.ref v0, .int v1, Value.null] [] h (oT r) h9 := by
  unfold MX11_style at H
  refine J_aload_n 0 dX11_style_0 rfl rfl ?_
  obtain ⟨g2, H⟩ := gd H
  obtain ⟨t4, h3, e1, H⟩ := b2_el H
  refine J_cV (as := []) 10 YX11_useTape 0 dX11_style_1 moX11_useTape mvX11_useTape mlX11_94 g2 rfl rfl (okX11_useTape (d := d + 37) e1) rfl rfl [] rfl rfl (st2 := [.int t4]) rfl ?_
  refine J_istore_n 2 dX11_style_4 rfl (by decide) (ls' := [.ref v0, .int v1, .int t4]) rfl ?_
  refine J_iload_n 1 dX11_style_5 rfl rfl ?_
  refine J_aload_n 0 dX11_style_6 rfl rfl ?_
  obtain ⟨g5, H⟩ := gd H
  refine J_gP 10 5 dX11_style_7 g5 flX11_39 rfl rfl ?_
  obtain ⟨g6, H⟩ := gd H
  refine J_getI 6 0 dX11_style_10 g6 flX11_117 rfl ?_
  refine J_icmp_lt 23 dX11_style_13 rfl (fun q7 => ?_) (fun q7 => ?_)
  · replace H := br1 q7 H
    cases H
    exact J_throw 2 ["java/lang/RuntimeException", "java/lang/Exception"] dX11_style_23 dX11_style_26 dX11_style_27 dX11_style_30 th_89 clX11_87 (Nat.le_of_ble_eq_true rfl)
  · replace H := br0 q7 H
    refine J_iload_n 1 dX11_style_16 rfl rfl ?_
    refine J_sipush (600 : Int32) dX11_style_17 ks_600 ?_
    refine J_icmp_le 31 dX11_style_20 rfl (fun q8 => ?_) (fun q8 => ?_)
    · replace H := br1 q8 H
      refine J_aload_n 0 dX11_style_31 rfl rfl ?_
      refine J_aload_n 0 dX11_style_32 rfl rfl ?_
      refine J_gP 10 3 dX11_style_33 g5 flX11_25 rfl rfl ?_
      refine J_iload_n 2 dX11_style_36 rfl rfl ?_
      obtain ⟨g10, H⟩ := gd H
      obtain ⟨t12, h11, e9, H⟩ := b2_el H
      refine J_cV (as := [.int t4]) 9 YX10_firstWrong 1 dX11_style_37 moX10_firstWrong mvX10_firstWrong mlX11_120 g10 rfl rfl (okX10_firstWrong (d := d) e9) rfl rfl [.ref v0] rfl rfl (st2 := [.int t12, .ref v0]) rfl ?_
      obtain ⟨g13, H⟩ := gd H
      obtain ⟨h14, e15, H⟩ := lt_el H
      refine J_pI 10 2 dX11_style_40 g13 flX11_17 rfl rfl e15 ?_
      have c16 := ekI e15
      have c17 := elI e15
      have c18 := epI e15
      refine J_aload_n 0 dX11_style_43 rfl rfl ?_
      refine J_getI 10 2 dX11_style_44 (kq c16 g13) flX11_17 rfl ?_
      refine J_iconst (-1 : Int32) dX11_style_47 kc_m1 ?_
      refine J_icmp_eq 59 dX11_style_48 rfl (fun q19 => ?_) (fun q19 => ?_)
      · replace H := br1 q19 H
        refine J_aload_n 0 dX11_style_59 rfl rfl ?_
        refine J_gP 10 5 dX11_style_60 (kq c16 g13) flX11_39 rfl (congrFun (congrFun c18 v0) 5) ?_
        obtain ⟨g20, H⟩ := gd H
        refine J_getI 6 3 dX11_style_63 (kq c16 g20) flX11_123 rfl ?_
        refine J_bipush (10 : Int32) dX11_style_66 kb_10 ?_
        refine J_icmp_lt 79 dX11_style_68 rfl (fun q21 => ?_) (fun q21 => ?_)
        · replace H := br1 q21 H
          refine J_aload_n 0 dX11_style_79 rfl rfl ?_
          refine J_gP 10 5 dX11_style_80 (kq c16 g13) flX11_39 rfl (congrFun (congrFun c18 v0) 5) ?_
          refine J_aload_n 0 dX11_style_83 rfl rfl ?_
          refine J_gP 10 3 dX11_style_84 (kq c16 g13) flX11_25 rfl (congrFun (congrFun c18 v0) 3) ?_
          obtain ⟨g22, H⟩ := gd H
          refine J_gP 9 5 dX11_style_87 (kq c16 g22) flX11_126 rfl (congrFun (congrFun c18 (gP h11 v0 3)) 5) ?_
          refine J_iload_n 1 dX11_style_90 rfl rfl ?_
          obtain ⟨h24, e23, H⟩ := bd H
          refine J_cV (as := [.ref (gP h11 (gP h11 v0 3) 5), .int v1]) 6 YX7_addStyle 2 dX11_style_91 moX7_addStyle mvX7_addStyle mlX11_130 (kq c16 g20) rfl rfl (okX7_addStyle (d := d + 35) e23) rfl rfl [] rfl rfl (st2 := []) rfl ?_
          refine J_aload_n 0 dX11_style_94 rfl rfl ?_
          obtain ⟨g25, H⟩ := gd H
          refine J_gP 10 3 dX11_style_95 g25 flX11_25 rfl rfl ?_
          obtain ⟨g26, H⟩ := gd H
          refine J_gP 9 5 dX11_style_98 g26 flX11_126 rfl rfl ?_
          obtain ⟨g27, H⟩ := gd H
          refine J_getI 8 1 dX11_style_101 g27 flX11_134 rfl ?_
          cases H
          exact J_iretI dX11_style_104 rfl
        · replace H := br0 q21 H
          cases H
          exact J_throw 3 ["java/lang/RuntimeException", "java/lang/Exception"] dX11_style_71 dX11_style_74 dX11_style_75 dX11_style_78 th_112 clX11_110 (Nat.le_of_ble_eq_true rfl)
      · replace H := br0 q19 H
        cases H
        exact J_throw 2 ["java/lang/RuntimeException", "java/lang/Exception"] dX11_style_51 dX11_style_54 dX11_style_55 dX11_style_58 th_89 clX11_87 (Nat.le_of_ble_eq_true rfl)
    · replace H := br0 q8 H
      cases H
      exact J_throw 2 ["java/lang/RuntimeException", "java/lang/Exception"] dX11_style_23 dX11_style_26 dX11_style_27 dX11_style_30 th_89 clX11_87 (Nat.le_of_ble_eq_true rfl)
theorem okX11_style {d : Nat} {h : Hp} {v0 : Nat} {v1 : Int32} {r : Int32 ⊕ Nat} {h9 : Hp} (H : MX11_style h v0 v1 = some (r, h9)) : CT (d + 38) YX11_style [.ref v0, .int v1] h (oT r) h9 := CT_of (by decide +kernel) (Nat.le_of_ble_eq_true rfl) (eX11_style H)
noncomputable def MX11_tear (h : Hp) (v0 : Nat) (v1 : Int32) (v2 : Int32) (v3 : Int32) : Option ((Int32 ⊕ Nat) × Hp) :=
  gg (β := ((Int32 ⊕ Nat) × Hp)) (kd h v0 = 10) <|
  gg (β := ((Int32 ⊕ Nat) × Hp)) (kd h (gP h v0 5) = 6) <|
  Option.bind (α := Int32) (β := ((Int32 ⊕ Nat) × Hp)) (MX7_rowPlace h (gP h v0 5) v1 v2) fun (t4 : Int32) =>
  if t4 = (-1 : Int32) then
    some (.inr 4, bmp h 1 6)
  else
    gg (β := ((Int32 ⊕ Nat) × Hp)) (kd h (gP h (gP h v0 5) 12) = 20) <|
    gg (β := ((Int32 ⊕ Nat) × Hp)) (inB t4 (ln h (gP h (gP h v0 5) 12)) = true) <|
    lt (α := Hp) (β := Option ((Int32 ⊕ Nat) × Hp)) (sI h (gP h (gP h v0 5) 12) t4.toNatClampNeg ((gI h (gP h (gP h v0 5) 12) t4.toNatClampNeg) ^^^ v3)) fun (h8 : Hp) =>
    some (.inl (gI h8 (gP h (gP h v0 5) 12) t4.toNatClampNeg), h8)
set_option maxRecDepth 100000 in
set_option maxHeartbeats 8000000 in
theorem eX11_tear {d : Nat} {h : Hp} {v0 : Nat} {v1 : Int32} {v2 : Int32} {v3 : Int32} {r : Int32 ⊕ Nat} {h9 : Hp} (H : MX11_tear h v0 v1 v2 v3 = some (r, h9)) : J (d + 2) YX11_tear 0 [.ref v0, .int v1, .int v2, .int v3, Value.null] [] h (oT r) h9 := by
  unfold MX11_tear at H
  refine J_aload_n 0 dX11_tear_0 rfl rfl ?_
  obtain ⟨g1, H⟩ := gd H
  refine J_gP 10 5 dX11_tear_1 g1 flX11_39 rfl rfl ?_
  refine J_iload_n 1 dX11_tear_4 rfl rfl ?_
  refine J_iload_n 2 dX11_tear_5 rfl rfl ?_
  obtain ⟨g3, H⟩ := gd H
  obtain ⟨t4, e2, H⟩ := bd H
  refine J_cV (as := [.int v1, .int v2]) 6 YX7_rowPlace 2 dX11_tear_6 moX7_rowPlace mvX7_rowPlace mlX11_483 g3 rfl rfl (okX7_rowPlace (d := d) e2) rfl rfl [] rfl rfl (st2 := [.int t4]) rfl ?_
  refine J_istore dX11_tear_9 (by decide) (ls' := [.ref v0, .int v1, .int v2, .int v3, .int t4]) rfl ?_
  refine J_iload dX11_tear_11 rfl ?_
  refine J_iconst (-1 : Int32) dX11_tear_13 kc_m1 ?_
  refine J_icmp_ne 25 dX11_tear_14 rfl (fun q5 => ?_) (fun q5 => ?_)
  · replace H := br0 q5 H
    refine J_aload_n 0 dX11_tear_25 rfl rfl ?_
    refine J_gP 10 5 dX11_tear_26 g1 flX11_39 rfl rfl ?_
    refine J_gP 6 12 dX11_tear_29 g3 flX11_486 rfl rfl ?_
    refine J_iload dX11_tear_32 rfl ?_
    refine J_dup2 dX11_tear_34 rfl rfl ?_
    obtain ⟨g6, H⟩ := gd H
    obtain ⟨g7, H⟩ := gd H
    refine J_iald dX11_tear_35 g6 (inB_ok g7) ?_
    refine J_iload_n 3 dX11_tear_36 rfl rfl ?_
    refine J_ixor dX11_tear_37 ?_
    obtain ⟨h8, e9, H⟩ := lt_el H
    refine J_sI dX11_tear_38 g6 (inB_ok g7) e9 ?_
    have c10 := ekI e9
    have c11 := elI e9
    have c12 := epI e9
    refine J_aload_n 0 dX11_tear_39 rfl rfl ?_
    refine J_gP 10 5 dX11_tear_40 (kq c10 g1) flX11_39 rfl (congrFun (congrFun c12 v0) 5) ?_
    refine J_gP 6 12 dX11_tear_43 (kq c10 g3) flX11_486 rfl (congrFun (congrFun c12 (gP h v0 5)) 12) ?_
    refine J_iload dX11_tear_46 rfl ?_
    refine J_iald dX11_tear_48 (kq c10 g6) (lq c11 g7) ?_
    cases H
    exact J_iretI dX11_tear_49 rfl
  · replace H := br1 q5 H
    cases H
    exact J_throw 4 ["java/lang/RuntimeException", "java/lang/Exception"] dX11_tear_17 dX11_tear_20 dX11_tear_21 dX11_tear_24 th_174 clX11_172 (Nat.le_of_ble_eq_true rfl)
theorem okX11_tear {d : Nat} {h : Hp} {v0 : Nat} {v1 : Int32} {v2 : Int32} {v3 : Int32} {r : Int32 ⊕ Nat} {h9 : Hp} (H : MX11_tear h v0 v1 v2 v3 = some (r, h9)) : CT (d + 2) YX11_tear [.ref v0, .int v1, .int v2, .int v3] h (oT r) h9 := CT_of (by decide +kernel) (Nat.le_of_ble_eq_true rfl) (eX11_tear H)
noncomputable def BX2_rackOf_9 (h : Hp) (v0 : Nat) (v1 : Int32) (v2 : Int32) (v3 : Int32) (v4 : Int32) (v5 : Int32) (v6 : Int32) : Option ((Int32 × Int32 × Int32) ⊕ Int32) :=
  gg (β := ((Int32 × Int32 × Int32) ⊕ Int32)) (kd h v0 = 1) <|
  if (gI h v0 11) ≤ v6 then
    some (.inr (v4))
  else
    gg (β := ((Int32 × Int32 × Int32) ⊕ Int32)) (kd h (gP h v0 7) = 20) <|
    gg (β := ((Int32 × Int32 × Int32) ⊕ Int32)) (inB v6 (ln h (gP h v0 7)) = true) <|
    if (gI h (gP h v0 7) v6.toNatClampNeg) = v1 then
      gg (β := ((Int32 × Int32 × Int32) ⊕ Int32)) (kd h (gP h v0 10) = 20) <|
      gg (β := ((Int32 × Int32 × Int32) ⊕ Int32)) (inB v6 (ln h (gP h v0 10)) = true) <|
      if v3 < (gI h (gP h v0 10) v6.toNatClampNeg) then
        some (.inl (v4, v5, (v6 + (1 : Int32))))
      else
        gg (β := ((Int32 × Int32 × Int32) ⊕ Int32)) (kd h (gP h v0 9) = 20) <|
        gg (β := ((Int32 × Int32 × Int32) ⊕ Int32)) (inB v6 (ln h (gP h v0 9)) = true) <|
        if (gI h (gP h v0 9) v6.toNatClampNeg) ≤ v2 then
          if (gI h (gP h v0 9) v6.toNatClampNeg) ≤ v5 then
            if (gI h (gP h v0 9) v6.toNatClampNeg) = v5 then
              gg (β := ((Int32 × Int32 × Int32) ⊕ Int32)) (kd h (gP h v0 8) = 20) <|
              gg (β := ((Int32 × Int32 × Int32) ⊕ Int32)) (inB v6 (ln h (gP h v0 8)) = true) <|
              if (gI h (gP h v0 8) v6.toNatClampNeg) = v4 then
                some (.inl (v4, v5, (v6 + (1 : Int32))))
              else
                some (.inl ((-1 : Int32), v5, (v6 + (1 : Int32))))
            else
              some (.inl (v4, v5, (v6 + (1 : Int32))))
          else
            gg (β := ((Int32 × Int32 × Int32) ⊕ Int32)) (kd h (gP h v0 8) = 20) <|
            gg (β := ((Int32 × Int32 × Int32) ⊕ Int32)) (inB v6 (ln h (gP h v0 8)) = true) <|
            some (.inl ((gI h (gP h v0 8) v6.toNatClampNeg), (gI h (gP h v0 9) v6.toNatClampNeg), (v6 + (1 : Int32))))
        else
          some (.inl (v4, v5, (v6 + (1 : Int32))))
    else
      some (.inl (v4, v5, (v6 + (1 : Int32))))
set_option maxRecDepth 100000 in
set_option maxHeartbeats 8000000 in
theorem bX2_rackOf_9 {d : Nat} {h : Hp} {v0 : Nat} {v1 : Int32} {v2 : Int32} {v3 : Int32} {v4 : Int32} {v5 : Int32} {v6 : Int32} {r : Int32} {x : ((Int32 × Int32 × Int32) ⊕ Int32)} (H : BX2_rackOf_9 h v0 v1 v2 v3 v4 v5 v6 = some x) (hb0 : ∀ s : Int32 × Int32 × Int32, x = .inl s → J (d) YX2_rackOf 9 [.ref v0, .int v1, .int v2, .int v3, .int s.1, .int s.2.1, .int s.2.2] [] h (oI r) h) (hx : ∀ z : Int32, x = .inr (z) → z = r) : J (d) YX2_rackOf 9 [.ref v0, .int v1, .int v2, .int v3, .int v4, .int v5, .int v6] [] h (oI r) h := by
  unfold BX2_rackOf_9 at H
  refine J_iload dX2_rackOf_9 rfl ?_
  refine J_aload_n 0 dX2_rackOf_11 rfl rfl ?_
  obtain ⟨g1, H⟩ := gd H
  refine J_getI 1 11 dX2_rackOf_12 g1 flX2_48 rfl ?_
  refine J_icmp_ge 120 dX2_rackOf_15 rfl (fun q2 => ?_) (fun q2 => ?_)
  · replace H := br1 q2 H
    refine J_iload dX2_rackOf_120 rfl ?_
    cases H
    cases hx _ rfl
    exact J_iretI dX2_rackOf_122 rfl
  · replace H := br0 q2 H
    refine J_aload_n 0 dX2_rackOf_18 rfl rfl ?_
    refine J_gP 1 7 dX2_rackOf_19 g1 flX2_36 rfl rfl ?_
    refine J_iload dX2_rackOf_22 rfl ?_
    obtain ⟨g3, H⟩ := gd H
    obtain ⟨g4, H⟩ := gd H
    refine J_iald dX2_rackOf_24 g3 (inB_ok g4) ?_
    refine J_iload_n 1 dX2_rackOf_25 rfl rfl ?_
    refine J_icmp_ne 114 dX2_rackOf_26 rfl (fun q5 => ?_) (fun q5 => ?_)
    · replace H := br0 q5 H
      refine J_iinc (v6 + (1 : Int32)) dX2_rackOf_114 rfl (congrArg (HAdd.hAdd v6) kc_1) (by decide) (ls' := [.ref v0, .int v1, .int v2, .int v3, .int v4, .int v5, .int (v6 + (1 : Int32))]) rfl ?_
      refine J_goto 9 dX2_rackOf_117 rfl ?_
      cases H
      exact J_dr (hb0 _ rfl) ⟨rfl, ⟨rfl, ⟨rfl, ⟨rfl, ⟨rfl, ⟨rfl, ⟨rfl, trivial⟩⟩⟩⟩⟩⟩⟩
    · replace H := br1 q5 H
      refine J_aload_n 0 dX2_rackOf_29 rfl rfl ?_
      refine J_gP 1 10 dX2_rackOf_30 g1 flX2_45 rfl rfl ?_
      refine J_iload dX2_rackOf_33 rfl ?_
      obtain ⟨g6, H⟩ := gd H
      obtain ⟨g7, H⟩ := gd H
      refine J_iald dX2_rackOf_35 g6 (inB_ok g7) ?_
      refine J_iload_n 3 dX2_rackOf_36 rfl rfl ?_
      refine J_icmp_gt 114 dX2_rackOf_37 rfl (fun q8 => ?_) (fun q8 => ?_)
      · replace H := br1 q8 H
        refine J_iinc (v6 + (1 : Int32)) dX2_rackOf_114 rfl (congrArg (HAdd.hAdd v6) kc_1) (by decide) (ls' := [.ref v0, .int v1, .int v2, .int v3, .int v4, .int v5, .int (v6 + (1 : Int32))]) rfl ?_
        refine J_goto 9 dX2_rackOf_117 rfl ?_
        cases H
        exact J_dr (hb0 _ rfl) ⟨rfl, ⟨rfl, ⟨rfl, ⟨rfl, ⟨rfl, ⟨rfl, ⟨rfl, trivial⟩⟩⟩⟩⟩⟩⟩
      · replace H := br0 q8 H
        refine J_aload_n 0 dX2_rackOf_40 rfl rfl ?_
        refine J_gP 1 9 dX2_rackOf_41 g1 flX2_42 rfl rfl ?_
        refine J_iload dX2_rackOf_44 rfl ?_
        obtain ⟨g9, H⟩ := gd H
        obtain ⟨g10, H⟩ := gd H
        refine J_iald dX2_rackOf_46 g9 (inB_ok g10) ?_
        refine J_iload_n 2 dX2_rackOf_47 rfl rfl ?_
        refine J_icmp_le 54 dX2_rackOf_48 rfl (fun q11 => ?_) (fun q11 => ?_)
        · replace H := br1 q11 H
          refine J_aload_n 0 dX2_rackOf_54 rfl rfl ?_
          refine J_gP 1 9 dX2_rackOf_55 g1 flX2_42 rfl rfl ?_
          refine J_iload dX2_rackOf_58 rfl ?_
          refine J_iald dX2_rackOf_60 g9 (inB_ok g10) ?_
          refine J_iload dX2_rackOf_61 rfl ?_
          refine J_icmp_le 87 dX2_rackOf_63 rfl (fun q12 => ?_) (fun q12 => ?_)
          · replace H := br1 q12 H
            refine J_aload_n 0 dX2_rackOf_87 rfl rfl ?_
            refine J_gP 1 9 dX2_rackOf_88 g1 flX2_42 rfl rfl ?_
            refine J_iload dX2_rackOf_91 rfl ?_
            refine J_iald dX2_rackOf_93 g9 (inB_ok g10) ?_
            refine J_iload dX2_rackOf_94 rfl ?_
            refine J_icmp_ne 114 dX2_rackOf_96 rfl (fun q13 => ?_) (fun q13 => ?_)
            · replace H := br0 q13 H
              refine J_iinc (v6 + (1 : Int32)) dX2_rackOf_114 rfl (congrArg (HAdd.hAdd v6) kc_1) (by decide) (ls' := [.ref v0, .int v1, .int v2, .int v3, .int v4, .int v5, .int (v6 + (1 : Int32))]) rfl ?_
              refine J_goto 9 dX2_rackOf_117 rfl ?_
              cases H
              exact J_dr (hb0 _ rfl) ⟨rfl, ⟨rfl, ⟨rfl, ⟨rfl, ⟨rfl, ⟨rfl, ⟨rfl, trivial⟩⟩⟩⟩⟩⟩⟩
            · replace H := br1 q13 H
              refine J_aload_n 0 dX2_rackOf_99 rfl rfl ?_
              refine J_gP 1 8 dX2_rackOf_100 g1 flX2_39 rfl rfl ?_
              refine J_iload dX2_rackOf_103 rfl ?_
              obtain ⟨g14, H⟩ := gd H
              obtain ⟨g15, H⟩ := gd H
              refine J_iald dX2_rackOf_105 g14 (inB_ok g15) ?_
              refine J_iload dX2_rackOf_106 rfl ?_
              refine J_icmp_eq 114 dX2_rackOf_108 rfl (fun q16 => ?_) (fun q16 => ?_)
              · replace H := br1 q16 H
                refine J_iinc (v6 + (1 : Int32)) dX2_rackOf_114 rfl (congrArg (HAdd.hAdd v6) kc_1) (by decide) (ls' := [.ref v0, .int v1, .int v2, .int v3, .int v4, .int v5, .int (v6 + (1 : Int32))]) rfl ?_
                refine J_goto 9 dX2_rackOf_117 rfl ?_
                cases H
                exact J_dr (hb0 _ rfl) ⟨rfl, ⟨rfl, ⟨rfl, ⟨rfl, ⟨rfl, ⟨rfl, ⟨rfl, trivial⟩⟩⟩⟩⟩⟩⟩
              · replace H := br0 q16 H
                refine J_iconst (-1 : Int32) dX2_rackOf_111 kc_m1 ?_
                refine J_istore dX2_rackOf_112 (by decide) (ls' := [.ref v0, .int v1, .int v2, .int v3, .int (-1 : Int32), .int v5, .int v6]) rfl ?_
                refine J_iinc (v6 + (1 : Int32)) dX2_rackOf_114 rfl (congrArg (HAdd.hAdd v6) kc_1) (by decide) (ls' := [.ref v0, .int v1, .int v2, .int v3, .int (-1 : Int32), .int v5, .int (v6 + (1 : Int32))]) rfl ?_
                refine J_goto 9 dX2_rackOf_117 rfl ?_
                cases H
                exact J_dr (hb0 _ rfl) ⟨rfl, ⟨rfl, ⟨rfl, ⟨rfl, ⟨rfl, ⟨rfl, ⟨rfl, trivial⟩⟩⟩⟩⟩⟩⟩
          · replace H := br0 q12 H
            refine J_aload_n 0 dX2_rackOf_66 rfl rfl ?_
            refine J_gP 1 9 dX2_rackOf_67 g1 flX2_42 rfl rfl ?_
            refine J_iload dX2_rackOf_70 rfl ?_
            refine J_iald dX2_rackOf_72 g9 (inB_ok g10) ?_
            refine J_istore dX2_rackOf_73 (by decide) (ls' := [.ref v0, .int v1, .int v2, .int v3, .int v4, .int (gI h (gP h v0 9) v6.toNatClampNeg), .int v6]) rfl ?_
            refine J_aload_n 0 dX2_rackOf_75 rfl rfl ?_
            refine J_gP 1 8 dX2_rackOf_76 g1 flX2_39 rfl rfl ?_
            refine J_iload dX2_rackOf_79 rfl ?_
            obtain ⟨g17, H⟩ := gd H
            obtain ⟨g18, H⟩ := gd H
            refine J_iald dX2_rackOf_81 g17 (inB_ok g18) ?_
            refine J_istore dX2_rackOf_82 (by decide) (ls' := [.ref v0, .int v1, .int v2, .int v3, .int (gI h (gP h v0 8) v6.toNatClampNeg), .int (gI h (gP h v0 9) v6.toNatClampNeg), .int v6]) rfl ?_
            refine J_goto 114 dX2_rackOf_84 rfl ?_
            refine J_iinc (v6 + (1 : Int32)) dX2_rackOf_114 rfl (congrArg (HAdd.hAdd v6) kc_1) (by decide) (ls' := [.ref v0, .int v1, .int v2, .int v3, .int (gI h (gP h v0 8) v6.toNatClampNeg), .int (gI h (gP h v0 9) v6.toNatClampNeg), .int (v6 + (1 : Int32))]) rfl ?_
            refine J_goto 9 dX2_rackOf_117 rfl ?_
            cases H
            exact J_dr (hb0 _ rfl) ⟨rfl, ⟨rfl, ⟨rfl, ⟨rfl, ⟨rfl, ⟨rfl, ⟨rfl, trivial⟩⟩⟩⟩⟩⟩⟩
        · replace H := br0 q11 H
          refine J_goto 114 dX2_rackOf_51 rfl ?_
          refine J_iinc (v6 + (1 : Int32)) dX2_rackOf_114 rfl (congrArg (HAdd.hAdd v6) kc_1) (by decide) (ls' := [.ref v0, .int v1, .int v2, .int v3, .int v4, .int v5, .int (v6 + (1 : Int32))]) rfl ?_
          refine J_goto 9 dX2_rackOf_117 rfl ?_
          cases H
          exact J_dr (hb0 _ rfl) ⟨rfl, ⟨rfl, ⟨rfl, ⟨rfl, ⟨rfl, ⟨rfl, ⟨rfl, trivial⟩⟩⟩⟩⟩⟩⟩
noncomputable def MX2_rackOf_9 (h : Hp) (v0 : Nat) (v1 : Int32) (v2 : Int32) (v3 : Int32) (v4 : Int32) (v5 : Int32) (v6 : Int32) : Option Int32 := it (fun q : Int32 × Int32 × Int32 => BX2_rackOf_9 h v0 v1 v2 v3 q.1 q.2.1 q.2.2) (v4, v5, v6)
set_option maxRecDepth 100000 in
set_option maxHeartbeats 8000000 in
theorem kX2_rackOf_9 {d : Nat} {h : Hp} {v0 : Nat} {v1 : Int32} {v2 : Int32} {v3 : Int32} {v4 : Int32} {v5 : Int32} {v6 : Int32} {r : Int32} (H : MX2_rackOf_9 h v0 v1 v2 v3 v4 v5 v6 = some r) : J (d) YX2_rackOf 9 [.ref v0, .int v1, .int v2, .int v3, .int v4, .int v5, .int v6] [] h (oI r) h := by
  unfold MX2_rackOf_9 at H
  refine it_J (G := (fun q : Int32 × Int32 × Int32 => J (d) YX2_rackOf 9 [.ref v0, .int v1, .int v2, .int v3, .int q.1, .int q.2.1, .int q.2.2] [] h (oI r) h)) (Q := (fun y : Int32 => y = r)) (fun q x Hq hm => ?_) H rfl
  exact bX2_rackOf_9 Hq (fun s hs => by subst hs; exact hm) (fun z hz => by subst hz; exact hm)
noncomputable def MX2_rackOf (h : Hp) (v0 : Nat) (v1 : Int32) (v2 : Int32) (v3 : Int32) : Option Int32 :=
  MX2_rackOf_9 h v0 v1 v2 v3 (-1 : Int32) (-1 : Int32) (0 : Int32)
set_option maxRecDepth 100000 in
set_option maxHeartbeats 8000000 in
theorem eX2_rackOf {d : Nat} {h : Hp} {v0 : Nat} {v1 : Int32} {v2 : Int32} {v3 : Int32} {r : Int32} (H : MX2_rackOf h v0 v1 v2 v3 = some r) : J (d) YX2_rackOf 0 [.ref v0, .int v1, .int v2, .int v3, Value.null, Value.null, Value.null] [] h (oI r) h := by
  unfold MX2_rackOf at H
  refine J_iconst (-1 : Int32) dX2_rackOf_0 kc_m1 ?_
  refine J_istore dX2_rackOf_1 (by decide) (ls' := [.ref v0, .int v1, .int v2, .int v3, .int (-1 : Int32), Value.null, Value.null]) rfl ?_
  refine J_iconst (-1 : Int32) dX2_rackOf_3 kc_m1 ?_
  refine J_istore dX2_rackOf_4 (by decide) (ls' := [.ref v0, .int v1, .int v2, .int v3, .int (-1 : Int32), .int (-1 : Int32), Value.null]) rfl ?_
  refine J_iconst (0 : Int32) dX2_rackOf_6 kc_0 ?_
  refine J_istore dX2_rackOf_7 (by decide) (ls' := [.ref v0, .int v1, .int v2, .int v3, .int (-1 : Int32), .int (-1 : Int32), .int (0 : Int32)]) rfl ?_
  exact J_dr (kX2_rackOf_9 H ) ⟨rfl, ⟨rfl, ⟨rfl, ⟨rfl, ⟨rfl, ⟨rfl, ⟨rfl, trivial⟩⟩⟩⟩⟩⟩⟩
theorem okX2_rackOf {d : Nat} {h : Hp} {v0 : Nat} {v1 : Int32} {v2 : Int32} {v3 : Int32} {r : Int32} (H : MX2_rackOf h v0 v1 v2 v3 = some r) : CT (d) YX2_rackOf [.ref v0, .int v1, .int v2, .int v3] h (oI r) h := CT_of (by decide +kernel) (Nat.le_of_ble_eq_true rfl) (eX2_rackOf H)
noncomputable def MX11_where (h : Hp) (v0 : Nat) (v1 : Int32) (v2 : Int32) (v3 : Int32) : Option ((Int32 ⊕ Nat) × Hp) :=
  gg (β := ((Int32 ⊕ Nat) × Hp)) (kd h v0 = 10) <|
  gg (β := ((Int32 ⊕ Nat) × Hp)) (kd h (gP h v0 5) = 6) <|
  Option.bind (α := Nat) (β := ((Int32 ⊕ Nat) × Hp)) (MX7_findSlug h (gP h v0 5) v1) fun (t4 : Nat) =>
  if t4 = 0 then
    some (.inr 1, bmp h 1 6)
  else
    gg (β := ((Int32 ⊕ Nat) × Hp)) (kd h (gP h v0 6) = 1) <|
    Option.bind (α := Int32) (β := ((Int32 ⊕ Nat) × Hp)) (MX2_rackOf h (gP h v0 6) v1 v2 v3) fun (t8 : Int32) =>
    some (.inl t8, h)
set_option maxRecDepth 100000 in
set_option maxHeartbeats 8000000 in
theorem eX11_where {d : Nat} {h : Hp} {v0 : Nat} {v1 : Int32} {v2 : Int32} {v3 : Int32} {r : Int32 ⊕ Nat} {h9 : Hp} (H : MX11_where h v0 v1 v2 v3 = some (r, h9)) : J (d + 1) YX11_where 0 [.ref v0, .int v1, .int v2, .int v3] [] h (oT r) h9 := by
  unfold MX11_where at H
  refine J_aload_n 0 dX11_where_0 rfl rfl ?_
  obtain ⟨g1, H⟩ := gd H
  refine J_gP 10 5 dX11_where_1 g1 flX11_39 rfl rfl ?_
  refine J_iload_n 1 dX11_where_4 rfl rfl ?_
  obtain ⟨g3, H⟩ := gd H
  obtain ⟨t4, e2, H⟩ := bd H
  refine J_cV (as := [.int v1]) 6 YX7_findSlug 1 dX11_where_5 moX7_findSlug mvX7_findSlug mlX11_280 g3 rfl rfl (okX7_findSlug (d := d) e2) rfl rfl [] rfl rfl (st2 := [.ref t4]) rfl ?_
  refine J_ifnonnull 19 dX11_where_8 rfl (fun q5 => ?_) (fun q5 => ?_)
  · replace H := br0 q5 H
    refine J_aload_n 0 dX11_where_19 rfl rfl ?_
    refine J_gP 10 6 dX11_where_20 g1 flX11_46 rfl rfl ?_
    refine J_iload_n 1 dX11_where_23 rfl rfl ?_
    refine J_iload_n 2 dX11_where_24 rfl rfl ?_
    refine J_iload_n 3 dX11_where_25 rfl rfl ?_
    obtain ⟨g7, H⟩ := gd H
    obtain ⟨t8, e6, H⟩ := bd H
    refine J_cV (as := [.int v1, .int v2, .int v3]) 1 YX2_rackOf 3 dX11_where_26 moX2_rackOf mvX2_rackOf mlX11_378 g7 rfl rfl (okX2_rackOf (d := d) e6) rfl rfl [] rfl rfl (st2 := [.int t8]) rfl ?_
    cases H
    exact J_iretI dX11_where_29 rfl
  · replace H := br1 q5 H
    cases H
    exact J_throw 1 ["java/lang/RuntimeException", "java/lang/Exception"] dX11_where_11 dX11_where_14 dX11_where_15 dX11_where_18 th_86 clX11_84 (Nat.le_of_ble_eq_true rfl)
theorem okX11_where {d : Nat} {h : Hp} {v0 : Nat} {v1 : Int32} {v2 : Int32} {v3 : Int32} {r : Int32 ⊕ Nat} {h9 : Hp} (H : MX11_where h v0 v1 v2 v3 = some (r, h9)) : CT (d + 1) YX11_where [.ref v0, .int v1, .int v2, .int v3] h (oT r) h9 := CT_of (by decide +kernel) (Nat.le_of_ble_eq_true rfl) (eX11_where H)
noncomputable def MX11_width (h : Hp) (v0 : Nat) (v1 : Int32) (v2 : Int32) (v3 : Int32) : Option ((Unit ⊕ Nat) × Hp) :=
  Option.bind (α := Int32) (β := ((Unit ⊕ Nat) × Hp)) (MX11_isFace h v1) fun (t2 : Int32) =>
  if t2 = 0 then
    some (.inr 1, bmp h 1 6)
  else
    Option.bind (α := Int32) (β := ((Unit ⊕ Nat) × Hp)) (MX11_isSign h v2) fun (t5 : Int32) =>
    if t5 = 0 then
      some (.inr 1, bmp h 1 6)
    else
      if v3 < (1 : Int32) then
        some (.inr 2, bmp h 1 6)
      else
        if v3 ≤ (20 : Int32) then
          gg (β := ((Unit ⊕ Nat) × Hp)) (kd h v0 = 10) <|
          gg (β := ((Unit ⊕ Nat) × Hp)) (kd h (gP h v0 5) = 6) <|
          gg (β := ((Unit ⊕ Nat) × Hp)) (kd h (gP h (gP h v0 5) 1) = 20) <|
          gg (β := ((Unit ⊕ Nat) × Hp)) (inB ((v1 * (27 : Int32)) + v2) (ln h (gP h (gP h v0 5) 1)) = true) <|
          lt (α := Hp) (β := Option ((Unit ⊕ Nat) × Hp)) (sI h (gP h (gP h v0 5) 1) ((v1 * (27 : Int32)) + v2).toNatClampNeg v3) fun (h13 : Hp) =>
          some (.inl (), h13)
        else
          some (.inr 2, bmp h 1 6)
set_option maxRecDepth 100000 in
set_option maxHeartbeats 8000000 in
theorem eX11_width {d : Nat} {h : Hp} {v0 : Nat} {v1 : Int32} {v2 : Int32} {v3 : Int32} {r : Unit ⊕ Nat} {h9 : Hp} (H : MX11_width h v0 v1 v2 v3 = some (r, h9)) : J (d + 1) YX11_width 0 [.ref v0, .int v1, .int v2, .int v3] [] h (oU r) h9 := by
  unfold MX11_width at H
  refine J_iload_n 1 dX11_width_0 rfl rfl ?_
  obtain ⟨t2, e1, H⟩ := bd H
  refine J_cS (as := [.int v1]) YX11_isFace 1 dX11_width_1 moX11_isFace msX11_isFace mlX11_77 (okX11_isFace (d := d) e1) rfl rfl [] rfl rfl (st2 := [.int t2]) rfl ?_
  refine J_if_eq 14 dX11_width_4 rfl (fun q3 => ?_) (fun q3 => ?_)
  · replace H := br1 q3 H
    cases H
    exact J_throw 1 ["java/lang/RuntimeException", "java/lang/Exception"] dX11_width_14 dX11_width_17 dX11_width_18 dX11_width_21 th_86 clX11_84 (Nat.le_of_ble_eq_true rfl)
  · replace H := br0 q3 H
    refine J_iload_n 2 dX11_width_7 rfl rfl ?_
    obtain ⟨t5, e4, H⟩ := bd H
    refine J_cS (as := [.int v2]) YX11_isSign 1 dX11_width_8 moX11_isSign msX11_isSign mlX11_81 (okX11_isSign (d := d) e4) rfl rfl [] rfl rfl (st2 := [.int t5]) rfl ?_
    refine J_if_ne 22 dX11_width_11 rfl (fun q6 => ?_) (fun q6 => ?_)
    · replace H := br0 q6 H
      refine J_iload_n 3 dX11_width_22 rfl rfl ?_
      refine J_iconst (1 : Int32) dX11_width_23 kc_1 ?_
      refine J_icmp_lt 33 dX11_width_24 rfl (fun q7 => ?_) (fun q7 => ?_)
      · replace H := br1 q7 H
        cases H
        exact J_throw 2 ["java/lang/RuntimeException", "java/lang/Exception"] dX11_width_33 dX11_width_36 dX11_width_37 dX11_width_40 th_89 clX11_87 (Nat.le_of_ble_eq_true rfl)
      · replace H := br0 q7 H
        refine J_iload_n 3 dX11_width_27 rfl rfl ?_
        refine J_bipush (20 : Int32) dX11_width_28 kb_20 ?_
        refine J_icmp_le 41 dX11_width_30 rfl (fun q8 => ?_) (fun q8 => ?_)
        · replace H := br1 q8 H
          refine J_aload_n 0 dX11_width_41 rfl rfl ?_
          obtain ⟨g9, H⟩ := gd H
          refine J_gP 10 5 dX11_width_42 g9 flX11_39 rfl rfl ?_
          obtain ⟨g10, H⟩ := gd H
          refine J_gP 6 1 dX11_width_45 g10 flX11_90 rfl rfl ?_
          refine J_iload_n 1 dX11_width_48 rfl rfl ?_
          refine J_bipush (27 : Int32) dX11_width_49 kb_27 ?_
          refine J_imul dX11_width_51 ?_
          refine J_iload_n 2 dX11_width_52 rfl rfl ?_
          refine J_iadd dX11_width_53 ?_
          refine J_iload_n 3 dX11_width_54 rfl rfl ?_
          obtain ⟨g11, H⟩ := gd H
          obtain ⟨g12, H⟩ := gd H
          obtain ⟨h13, e14, H⟩ := lt_el H
          refine J_sI dX11_width_55 g11 (inB_ok g12) e14 ?_
          have c15 := ekI e14
          have c16 := elI e14
          have c17 := epI e14
          cases H
          exact J_ret dX11_width_56 rfl
        · replace H := br0 q8 H
          cases H
          exact J_throw 2 ["java/lang/RuntimeException", "java/lang/Exception"] dX11_width_33 dX11_width_36 dX11_width_37 dX11_width_40 th_89 clX11_87 (Nat.le_of_ble_eq_true rfl)
    · replace H := br1 q6 H
      cases H
      exact J_throw 1 ["java/lang/RuntimeException", "java/lang/Exception"] dX11_width_14 dX11_width_17 dX11_width_18 dX11_width_21 th_86 clX11_84 (Nat.le_of_ble_eq_true rfl)
theorem okX11_width {d : Nat} {h : Hp} {v0 : Nat} {v1 : Int32} {v2 : Int32} {v3 : Int32} {r : Unit ⊕ Nat} {h9 : Hp} (H : MX11_width h v0 v1 v2 v3 = some (r, h9)) : CT (d + 1) YX11_width [.ref v0, .int v1, .int v2, .int v3] h (oU r) h9 := CT_of (by decide +kernel) (Nat.le_of_ble_eq_true rfl) (eX11_width H)
