noncomputable def MX12_pay_239 (h : Hp) (v4 : Int32) : Option (Int32 × Hp) :=
  some ((v4 / (10 : Int32)), h)
set_option maxRecDepth 100000 in
set_option maxHeartbeats 8000000 in
theorem kX12_pay_239 {d : Nat} {h : Hp} {v4 : Int32} {r : Int32} {h9 : Hp} (H : MX12_pay_239 h v4 = some (r, h9)) : J (d + 2) YX12_pay 239 [Value.null, Value.null, Value.null, Value.null, .int v4, Value.null, Value.null, Value.null, Value.null] [] h (oI r) h9 := by
  unfold MX12_pay_239 at H
  refine J_iload dX12_pay_239 rfl ?_
  refine J_bipush (10 : Int32) dX12_pay_241 kb_10 ?_
  refine J_idiv dX12_pay_243 (by decide) ?_
  cases H
  exact J_iretI dX12_pay_244 rfl
noncomputable def MX12_pay_144 (h : Hp) (v0 : Nat) (v1 : Int32) (v2 : Int32) (v3 : Int32) (v4 : Int32) (v5 : Int32) (v6 : Int32) (v7 : Int32) (s0 : Nat) (s1 : Int32) (s2 : Int32) : Option ((Int32 × Int32 × Hp) ⊕ (Int32 × Hp)) :=
  gg (β := ((Int32 × Int32 × Hp) ⊕ (Int32 × Hp))) (kd h s0 = 22) <|
  gg (β := ((Int32 × Int32 × Hp) ⊕ (Int32 × Hp))) (inB s1 (ln h s0) = true) <|
  lt (α := Hp) (β := Option ((Int32 × Int32 × Hp) ⊕ (Int32 × Hp))) (sI h s0 s1.toNatClampNeg (vp_nar .boolean s2)) fun (h36 : Hp) =>
  gg (β := ((Int32 × Int32 × Hp) ⊕ (Int32 × Hp))) (kd h v0 = 11) <|
  gg (β := ((Int32 × Int32 × Hp) ⊕ (Int32 × Hp))) (kd h (gP h v0 1) = 20) <|
  gg (β := ((Int32 × Int32 × Hp) ⊕ (Int32 × Hp))) (inB (v6 + (3 : Int32)) (ln h (gP h v0 1)) = true) <|
  gg (β := ((Int32 × Int32 × Hp) ⊕ (Int32 × Hp))) (kd h (gP h v0 22) = 20) <|
  gg (β := ((Int32 × Int32 × Hp) ⊕ (Int32 × Hp))) (inB (4 : Int32) (ln h (gP h v0 22)) = true) <|
  lt (α := Hp) (β := Option ((Int32 × Int32 × Hp) ⊕ (Int32 × Hp))) (sI h36 (gP h v0 22) (4 : Int32).toNatClampNeg (gI h36 (gP h v0 1) (v6 + (3 : Int32)).toNatClampNeg)) fun (h46 : Hp) =>
  gg (β := ((Int32 × Int32 × Hp) ⊕ (Int32 × Hp))) (inB (5 : Int32) (ln h (gP h v0 22)) = true) <|
  lt (α := Hp) (β := Option ((Int32 × Int32 × Hp) ⊕ (Int32 × Hp))) (sI h46 (gP h v0 22) (5 : Int32).toNatClampNeg v1) fun (h52 : Hp) =>
  b2 (α := Int32) (β := Hp) (γ := ((Int32 × Int32 × Hp) ⊕ (Int32 × Hp))) (MX12_lastRule h52 v0 v7 (5 : Int32)) fun (t59 : Int32) (h58 : Hp) =>
  if t59 = (-1 : Int32) then
    gg (β := ((Int32 × Int32 × Hp) ⊕ (Int32 × Hp))) (kd h58 v0 = 11) <|
    gg (β := ((Int32 × Int32 × Hp) ⊕ (Int32 × Hp))) (kd h58 (gP h58 v0 1) = 20) <|
    gg (β := ((Int32 × Int32 × Hp) ⊕ (Int32 × Hp))) (inB (v6 + (3 : Int32)) (ln h58 (gP h58 v0 1)) = true) <|
    b2 (α := Int32) (β := Hp) (γ := ((Int32 × Int32 × Hp) ⊕ (Int32 × Hp))) (MX12_lastRule h58 v0 v7 (3 : Int32)) fun (t66 : Int32) (h65 : Hp) =>
    gg (β := ((Int32 × Int32 × Hp) ⊕ (Int32 × Hp))) (kd h65 v0 = 11) <|
    Option.bind (α := Int32) (β := ((Int32 × Int32 × Hp) ⊕ (Int32 × Hp))) (MX12_said h65 v0 v7 t66 (1 : Int32) (0 : Int32)) fun (t69 : Int32) =>
    b2 (α := Int32) (β := Hp) (γ := ((Int32 × Int32 × Hp) ⊕ (Int32 × Hp))) (MX12_lastRule h65 v0 v7 (4 : Int32)) fun (t72 : Int32) (h71 : Hp) =>
    gg (β := ((Int32 × Int32 × Hp) ⊕ (Int32 × Hp))) (kd h71 v0 = 11) <|
    Option.bind (α := Int32) (β := ((Int32 × Int32 × Hp) ⊕ (Int32 × Hp))) (MX12_said h71 v0 v7 t72 (1 : Int32) (0 : Int32)) fun (t75 : Int32) =>
    lt (α := Int32) (β := Option ((Int32 × Int32 × Hp) ⊕ (Int32 × Hp))) (v4 + ((jmax (gI h58 (gP h58 v0 1) (v6 + (3 : Int32)).toNatClampNeg) t69) * t75)) fun (w76 : Int32) =>
    some (.inl (w76, (v5 + (1 : Int32)), h71))
  else
    some (.inl (v4, (v5 + (1 : Int32)), h58))
set_option maxRecDepth 100000 in
set_option maxHeartbeats 8000000 in
theorem kX12_pay_144 {d : Nat} {h : Hp} {v0 : Nat} {v1 : Int32} {v2 : Int32} {v3 : Int32} {v4 : Int32} {v5 : Int32} {v6 : Int32} {v7 : Int32} {s0 : Nat} {s1 : Int32} {s2 : Int32} {r : Int32} {h9 : Hp} {x : ((Int32 × Int32 × Hp) ⊕ (Int32 × Hp))} (H : MX12_pay_144 h v0 v1 v2 v3 v4 v5 v6 v7 s0 s1 s2 = some x) (hb0 : ∀ s : Int32 × Int32 × Hp, x = .inl s → J (d + 2) YX12_pay 32 [.ref v0, .int v1, .int v2, .int v3, .int s.1, .int s.2.1, Value.null, Value.null, Value.null] [] s.2.2 (oI r) h9) (hx : ∀ z : (Int32 × Hp), x = .inr (z) → z = (r, h9)) : J (d + 2) YX12_pay 144 [.ref v0, .int v1, .int v2, .int v3, .int v4, .int v5, .int v6, .int v7, Value.null] [.int s2, .int s1, .ref s0] h (oI r) h9 := by
  unfold MX12_pay_144 at H
  obtain ⟨g34, H⟩ := gd H
  obtain ⟨g35, H⟩ := gd H
  obtain ⟨h36, e37, H⟩ := lt_el H
  refine J_sZ dX12_pay_144 g34 (inB_ok g35) e37 ?_
  have c38 := ekI e37
  have c39 := elI e37
  have c40 := epI e37
  refine J_aload_n 0 dX12_pay_145 rfl rfl ?_
  obtain ⟨g41, H⟩ := gd H
  refine J_gP 11 22 dX12_pay_146 (kq c38 g41) flX12_49 rfl (congrFun (congrFun c40 v0) 22) ?_
  refine J_iconst (4 : Int32) dX12_pay_149 kc_4 ?_
  refine J_aload_n 0 dX12_pay_150 rfl rfl ?_
  refine J_gP 11 1 dX12_pay_151 (kq c38 g41) flX12_8 rfl (congrFun (congrFun c40 v0) 1) ?_
  refine J_iload dX12_pay_154 rfl ?_
  refine J_iconst (3 : Int32) dX12_pay_156 kc_3 ?_
  refine J_iadd dX12_pay_157 ?_
  obtain ⟨g42, H⟩ := gd H
  obtain ⟨g43, H⟩ := gd H
  refine J_iald dX12_pay_158 (kq c38 g42) (lq c39 g43) ?_
  obtain ⟨g44, H⟩ := gd H
  obtain ⟨g45, H⟩ := gd H
  obtain ⟨h46, e47, H⟩ := lt_el H
  refine J_sI dX12_pay_159 (kq c38 g44) (lq c39 g45) e47 ?_
  have c48 := (ekI e47).trans c38
  have c49 := (elI e47).trans c39
  have c50 := (epI e47).trans c40
  refine J_aload_n 0 dX12_pay_160 rfl rfl ?_
  refine J_gP 11 22 dX12_pay_161 (kq c48 g41) flX12_49 rfl (congrFun (congrFun c50 v0) 22) ?_
  refine J_iconst (5 : Int32) dX12_pay_164 kc_5 ?_
  refine J_iload_n 1 dX12_pay_165 rfl rfl ?_
  obtain ⟨g51, H⟩ := gd H
  obtain ⟨h52, e53, H⟩ := lt_el H
  refine J_sI dX12_pay_166 (kq c48 g44) (lq c49 g51) e53 ?_
  have c54 := (ekI e53).trans c48
  have c55 := (elI e53).trans c49
  have c56 := (epI e53).trans c50
  refine J_aload_n 0 dX12_pay_167 rfl rfl ?_
  refine J_iload dX12_pay_168 rfl ?_
  refine J_iconst (5 : Int32) dX12_pay_170 kc_5 ?_
  obtain ⟨t59, h58, e57, H⟩ := b2_el H
  refine J_cV (as := [.int v7, .int (5 : Int32)]) 11 YX12_lastRule 2 dX12_pay_171 moX12_lastRule mvX12_lastRule mlX12_287 (kq c54 g41) rfl rfl (okX12_lastRule (d := d) e57) rfl rfl [] rfl rfl (st2 := [.int t59]) rfl ?_
  refine J_iconst (-1 : Int32) dX12_pay_174 kc_m1 ?_
  refine J_icmp_eq 181 dX12_pay_175 rfl (fun q60 => ?_) (fun q60 => ?_)
  · replace H := br1 q60 H
    refine J_aload_n 0 dX12_pay_181 rfl rfl ?_
    obtain ⟨g61, H⟩ := gd H
    refine J_gP 11 1 dX12_pay_182 g61 flX12_8 rfl rfl ?_
    refine J_iload dX12_pay_185 rfl ?_
    refine J_iconst (3 : Int32) dX12_pay_187 kc_3 ?_
    refine J_iadd dX12_pay_188 ?_
    obtain ⟨g62, H⟩ := gd H
    obtain ⟨g63, H⟩ := gd H
    refine J_iald dX12_pay_189 g62 (inB_ok g63) ?_
    refine J_aload_n 0 dX12_pay_190 rfl rfl ?_
    refine J_iload dX12_pay_191 rfl ?_
    refine J_aload_n 0 dX12_pay_193 rfl rfl ?_
    refine J_iload dX12_pay_194 rfl ?_
    refine J_iconst (3 : Int32) dX12_pay_196 kc_3 ?_
    obtain ⟨t66, h65, e64, H⟩ := b2_el H
    refine J_cV (as := [.int v7, .int (3 : Int32)]) 11 YX12_lastRule 2 dX12_pay_197 moX12_lastRule mvX12_lastRule mlX12_287 g61 rfl rfl (okX12_lastRule (d := d) e64) rfl rfl [.int v7, .ref v0, .int (gI h58 (gP h58 v0 1) (v6 + (3 : Int32)).toNatClampNeg)] rfl rfl (st2 := [.int t66, .int v7, .ref v0, .int (gI h58 (gP h58 v0 1) (v6 + (3 : Int32)).toNatClampNeg)]) rfl ?_
    refine J_iconst (1 : Int32) dX12_pay_200 kc_1 ?_
    refine J_iconst (0 : Int32) dX12_pay_201 kc_0 ?_
    obtain ⟨g68, H⟩ := gd H
    obtain ⟨t69, e67, H⟩ := bd H
    refine J_cV (as := [.int v7, .int t66, .int (1 : Int32), .int (0 : Int32)]) 11 YX12_said 4 dX12_pay_202 moX12_said mvX12_said mlX12_294 g68 rfl rfl (okX12_said (d := d + 1) e67) rfl rfl [.int (gI h58 (gP h58 v0 1) (v6 + (3 : Int32)).toNatClampNeg)] rfl rfl (st2 := [.int t69, .int (gI h58 (gP h58 v0 1) (v6 + (3 : Int32)).toNatClampNeg)]) rfl ?_
    refine J_mx dX12_pay_205 mlX12_476 rfl ?_
    refine J_istore dX12_pay_208 (by decide) (ls' := [.ref v0, .int v1, .int v2, .int v3, .int v4, .int v5, .int v6, .int v7, .int (jmax (gI h58 (gP h58 v0 1) (v6 + (3 : Int32)).toNatClampNeg) t69)]) rfl ?_
    refine J_iload dX12_pay_210 rfl ?_
    refine J_iload dX12_pay_212 rfl ?_
    refine J_aload_n 0 dX12_pay_214 rfl rfl ?_
    refine J_iload dX12_pay_215 rfl ?_
    refine J_aload_n 0 dX12_pay_217 rfl rfl ?_
    refine J_iload dX12_pay_218 rfl ?_
    refine J_iconst (4 : Int32) dX12_pay_220 kc_4 ?_
    obtain ⟨t72, h71, e70, H⟩ := b2_el H
    refine J_cV (as := [.int v7, .int (4 : Int32)]) 11 YX12_lastRule 2 dX12_pay_221 moX12_lastRule mvX12_lastRule mlX12_287 g68 rfl rfl (okX12_lastRule (d := d) e70) rfl rfl [.int v7, .ref v0, .int (jmax (gI h58 (gP h58 v0 1) (v6 + (3 : Int32)).toNatClampNeg) t69), .int v4] rfl rfl (st2 := [.int t72, .int v7, .ref v0, .int (jmax (gI h58 (gP h58 v0 1) (v6 + (3 : Int32)).toNatClampNeg) t69), .int v4]) rfl ?_
    refine J_iconst (1 : Int32) dX12_pay_224 kc_1 ?_
    refine J_iconst (0 : Int32) dX12_pay_225 kc_0 ?_
    obtain ⟨g74, H⟩ := gd H
    obtain ⟨t75, e73, H⟩ := bd H
    refine J_cV (as := [.int v7, .int t72, .int (1 : Int32), .int (0 : Int32)]) 11 YX12_said 4 dX12_pay_226 moX12_said mvX12_said mlX12_294 g74 rfl rfl (okX12_said (d := d + 1) e73) rfl rfl [.int (jmax (gI h58 (gP h58 v0 1) (v6 + (3 : Int32)).toNatClampNeg) t69), .int v4] rfl rfl (st2 := [.int t75, .int (jmax (gI h58 (gP h58 v0 1) (v6 + (3 : Int32)).toNatClampNeg) t69), .int v4]) rfl ?_
    refine J_imul dX12_pay_229 ?_
    refine J_iadd dX12_pay_230 ?_
    obtain ⟨w76, e77, H⟩ := lt_el H
    refine J_nmI e77 ?_
    refine J_istore dX12_pay_231 (by decide) (ls' := [.ref v0, .int v1, .int v2, .int v3, .int w76, .int v5, .int v6, .int v7, .int (jmax (gI h58 (gP h58 v0 1) (v6 + (3 : Int32)).toNatClampNeg) t69)]) rfl ?_
    refine J_iinc (v5 + (1 : Int32)) dX12_pay_233 rfl (congrArg (HAdd.hAdd v5) kc_1) (by decide) (ls' := [.ref v0, .int v1, .int v2, .int v3, .int w76, .int (v5 + (1 : Int32)), .int v6, .int v7, .int (jmax (gI h58 (gP h58 v0 1) (v6 + (3 : Int32)).toNatClampNeg) t69)]) rfl ?_
    refine J_goto 32 dX12_pay_236 rfl ?_
    cases H
    exact J_dr (hb0 _ rfl) ⟨rfl, ⟨rfl, ⟨rfl, ⟨rfl, ⟨rfl, ⟨rfl, trivial⟩⟩⟩⟩⟩⟩
  · replace H := br0 q60 H
    refine J_goto 233 dX12_pay_178 rfl ?_
    refine J_iinc (v5 + (1 : Int32)) dX12_pay_233 rfl (congrArg (HAdd.hAdd v5) kc_1) (by decide) (ls' := [.ref v0, .int v1, .int v2, .int v3, .int v4, .int (v5 + (1 : Int32)), .int v6, .int v7, Value.null]) rfl ?_
    refine J_goto 32 dX12_pay_236 rfl ?_
    cases H
    exact J_dr (hb0 _ rfl) ⟨rfl, ⟨rfl, ⟨rfl, ⟨rfl, ⟨rfl, ⟨rfl, trivial⟩⟩⟩⟩⟩⟩
noncomputable def BX12_pay_32 (h : Hp) (v0 : Nat) (v1 : Int32) (v2 : Int32) (v3 : Int32) (v4 : Int32) (v5 : Int32) : Option ((Int32 × Int32 × Hp) ⊕ (Int32 × Hp)) :=
  gg (β := ((Int32 × Int32 × Hp) ⊕ (Int32 × Hp))) (kd h v0 = 11) <|
  gg (β := ((Int32 × Int32 × Hp) ⊕ (Int32 × Hp))) (kd h (gP h v0 1) = 20) <|
  gg (β := ((Int32 × Int32 × Hp) ⊕ (Int32 × Hp))) (inB (4 : Int32) (ln h (gP h v0 1)) = true) <|
  if (gI h (gP h v0 1) (4 : Int32).toNatClampNeg) ≤ v5 then
    up1 (MX12_pay_239 h v4)
  else
    Option.bind (α := Int32) (β := ((Int32 × Int32 × Hp) ⊕ (Int32 × Hp))) (MX12_slug0 h v5) fun (t18 : Int32) =>
    gg (β := ((Int32 × Int32 × Hp) ⊕ (Int32 × Hp))) (inB (t18 + (1 : Int32)) (ln h (gP h v0 1)) = true) <|
    if (gI h (gP h v0 1) (t18 + (1 : Int32)).toNatClampNeg) = v1 then
      gg (β := ((Int32 × Int32 × Hp) ⊕ (Int32 × Hp))) (inB (t18 + (2 : Int32)) (ln h (gP h v0 1)) = true) <|
      Option.bind (α := Int32) (β := ((Int32 × Int32 × Hp) ⊕ (Int32 × Hp))) (MX12_isIn h (gI h (gP h v0 1) (t18 + (2 : Int32)).toNatClampNeg) v2 v3) fun (t23 : Int32) =>
      if t23 = 0 then
        some (.inl (v4, (v5 + (1 : Int32)), h))
      else
        Option.bind (α := Int32) (β := ((Int32 × Int32 × Hp) ⊕ (Int32 × Hp))) (MX12_styleOf h v0 (gI h (gP h v0 1) (t18 + (2 : Int32)).toNatClampNeg)) fun (t26 : Int32) =>
        gg (β := ((Int32 × Int32 × Hp) ⊕ (Int32 × Hp))) (inB (t18 + (0 : Int32)) (ln h (gP h v0 1)) = true) <|
        Option.bind (α := Hp) (β := ((Int32 × Int32 × Hp) ⊕ (Int32 × Hp))) (MX12_factsOf h v0 (gI h (gP h v0 1) (t18 + (0 : Int32)).toNatClampNeg) (gI h (gP h v0 1) (t18 + (2 : Int32)).toNatClampNeg)) fun (h29 : Hp) =>
        gg (β := ((Int32 × Int32 × Hp) ⊕ (Int32 × Hp))) (kd h29 v0 = 11) <|
        gg (β := ((Int32 × Int32 × Hp) ⊕ (Int32 × Hp))) (kd h29 (gP h29 v0 1) = 20) <|
        gg (β := ((Int32 × Int32 × Hp) ⊕ (Int32 × Hp))) (inB (t18 + (7 : Int32)) (ln h29 (gP h29 v0 1)) = true) <|
        if (gI h29 (gP h29 v0 1) (t18 + (7 : Int32)).toNatClampNeg) = (1 : Int32) then
          MX12_pay_144 h29 v0 v1 v2 v3 v4 v5 t18 t26 (gP h29 v0 21) (2 : Int32) (1 : Int32)
        else
          MX12_pay_144 h29 v0 v1 v2 v3 v4 v5 t18 t26 (gP h29 v0 21) (2 : Int32) (0 : Int32)
    else
      some (.inl (v4, (v5 + (1 : Int32)), h))
set_option maxRecDepth 100000 in
set_option maxHeartbeats 8000000 in
theorem bX12_pay_32 {d : Nat} {h : Hp} {v0 : Nat} {v1 : Int32} {v2 : Int32} {v3 : Int32} {v4 : Int32} {v5 : Int32} {r : Int32} {h9 : Hp} {x : ((Int32 × Int32 × Hp) ⊕ (Int32 × Hp))} (H : BX12_pay_32 h v0 v1 v2 v3 v4 v5 = some x) (hb0 : ∀ s : Int32 × Int32 × Hp, x = .inl s → J (d + 2) YX12_pay 32 [.ref v0, .int v1, .int v2, .int v3, .int s.1, .int s.2.1, Value.null, Value.null, Value.null] [] s.2.2 (oI r) h9) (hx : ∀ z : (Int32 × Hp), x = .inr (z) → z = (r, h9)) : J (d + 2) YX12_pay 32 [.ref v0, .int v1, .int v2, .int v3, .int v4, .int v5, Value.null, Value.null, Value.null] [] h (oI r) h9 := by
  unfold BX12_pay_32 at H
  refine J_iload dX12_pay_32 rfl ?_
  refine J_aload_n 0 dX12_pay_34 rfl rfl ?_
  obtain ⟨g13, H⟩ := gd H
  refine J_gP 11 1 dX12_pay_35 g13 flX12_8 rfl rfl ?_
  refine J_iconst (4 : Int32) dX12_pay_38 kc_4 ?_
  obtain ⟨g14, H⟩ := gd H
  obtain ⟨g15, H⟩ := gd H
  refine J_iald dX12_pay_39 g14 (inB_ok g15) ?_
  refine J_icmp_ge 239 dX12_pay_40 rfl (fun q16 => ?_) (fun q16 => ?_)
  · replace H := br1 q16 H
    obtain ⟨y0, H90, rfl⟩ := up1_el H
    replace H := H90
    obtain rfl := hx _ rfl
    exact J_dr (kX12_pay_239 H ) ⟨rfl, trivial⟩
  · replace H := br0 q16 H
    refine J_iload dX12_pay_43 rfl ?_
    obtain ⟨t18, e17, H⟩ := bd H
    refine J_cS (as := [.int v5]) YX12_slug0 1 dX12_pay_45 moX12_slug0 msX12_slug0 mlX12_342 (okX12_slug0 (d := d + 1) e17) rfl rfl [] rfl rfl (st2 := [.int t18]) rfl ?_
    refine J_istore dX12_pay_48 (by decide) (ls' := [.ref v0, .int v1, .int v2, .int v3, .int v4, .int v5, .int t18, Value.null, Value.null]) rfl ?_
    refine J_aload_n 0 dX12_pay_50 rfl rfl ?_
    refine J_gP 11 1 dX12_pay_51 g13 flX12_8 rfl rfl ?_
    refine J_iload dX12_pay_54 rfl ?_
    refine J_iconst (1 : Int32) dX12_pay_56 kc_1 ?_
    refine J_iadd dX12_pay_57 ?_
    obtain ⟨g19, H⟩ := gd H
    refine J_iald dX12_pay_58 g14 (inB_ok g19) ?_
    refine J_iload_n 1 dX12_pay_59 rfl rfl ?_
    refine J_icmp_ne 233 dX12_pay_60 rfl (fun q20 => ?_) (fun q20 => ?_)
    · replace H := br0 q20 H
      refine J_iinc (v5 + (1 : Int32)) dX12_pay_233 rfl (congrArg (HAdd.hAdd v5) kc_1) (by decide) (ls' := [.ref v0, .int v1, .int v2, .int v3, .int v4, .int (v5 + (1 : Int32)), .int t18, Value.null, Value.null]) rfl ?_
      refine J_goto 32 dX12_pay_236 rfl ?_
      cases H
      exact J_dr (hb0 _ rfl) ⟨rfl, ⟨rfl, ⟨rfl, ⟨rfl, ⟨rfl, ⟨rfl, trivial⟩⟩⟩⟩⟩⟩
    · replace H := br1 q20 H
      refine J_aload_n 0 dX12_pay_63 rfl rfl ?_
      refine J_gP 11 1 dX12_pay_64 g13 flX12_8 rfl rfl ?_
      refine J_iload dX12_pay_67 rfl ?_
      refine J_iconst (2 : Int32) dX12_pay_69 kc_2 ?_
      refine J_iadd dX12_pay_70 ?_
      obtain ⟨g21, H⟩ := gd H
      refine J_iald dX12_pay_71 g14 (inB_ok g21) ?_
      refine J_iload_n 2 dX12_pay_72 rfl rfl ?_
      refine J_iload_n 3 dX12_pay_73 rfl rfl ?_
      obtain ⟨t23, e22, H⟩ := bd H
      refine J_cS (as := [.int (gI h (gP h v0 1) (t18 + (2 : Int32)).toNatClampNeg), .int v2, .int v3]) YX12_isIn 3 dX12_pay_74 moX12_isIn msX12_isIn mlX12_157 (okX12_isIn (d := d + 1) e22) rfl rfl [] rfl rfl (st2 := [.int t23]) rfl ?_
      refine J_if_ne 83 dX12_pay_77 rfl (fun q24 => ?_) (fun q24 => ?_)
      · replace H := br0 q24 H
        refine J_aload_n 0 dX12_pay_83 rfl rfl ?_
        refine J_aload_n 0 dX12_pay_84 rfl rfl ?_
        refine J_gP 11 1 dX12_pay_85 g13 flX12_8 rfl rfl ?_
        refine J_iload dX12_pay_88 rfl ?_
        refine J_iconst (2 : Int32) dX12_pay_90 kc_2 ?_
        refine J_iadd dX12_pay_91 ?_
        refine J_iald dX12_pay_92 g14 (inB_ok g21) ?_
        obtain ⟨t26, e25, H⟩ := bd H
        refine J_cV (as := [.int (gI h (gP h v0 1) (t18 + (2 : Int32)).toNatClampNeg)]) 11 YX12_styleOf 1 dX12_pay_93 moX12_styleOf mvX12_styleOf mlX12_284 g13 rfl rfl (okX12_styleOf (d := d + 1) e25) rfl rfl [] rfl rfl (st2 := [.int t26]) rfl ?_
        refine J_istore dX12_pay_96 (by decide) (ls' := [.ref v0, .int v1, .int v2, .int v3, .int v4, .int v5, .int t18, .int t26, Value.null]) rfl ?_
        refine J_aload_n 0 dX12_pay_98 rfl rfl ?_
        refine J_aload_n 0 dX12_pay_99 rfl rfl ?_
        refine J_gP 11 1 dX12_pay_100 g13 flX12_8 rfl rfl ?_
        refine J_iload dX12_pay_103 rfl ?_
        refine J_iconst (0 : Int32) dX12_pay_105 kc_0 ?_
        refine J_iadd dX12_pay_106 ?_
        obtain ⟨g27, H⟩ := gd H
        refine J_iald dX12_pay_107 g14 (inB_ok g27) ?_
        refine J_aload_n 0 dX12_pay_108 rfl rfl ?_
        refine J_gP 11 1 dX12_pay_109 g13 flX12_8 rfl rfl ?_
        refine J_iload dX12_pay_112 rfl ?_
        refine J_iconst (2 : Int32) dX12_pay_114 kc_2 ?_
        refine J_iadd dX12_pay_115 ?_
        refine J_iald dX12_pay_116 g14 (inB_ok g21) ?_
        obtain ⟨h29, e28, H⟩ := bd H
        refine J_cV (as := [.int (gI h (gP h v0 1) (t18 + (0 : Int32)).toNatClampNeg), .int (gI h (gP h v0 1) (t18 + (2 : Int32)).toNatClampNeg)]) 11 YX12_factsOf 2 dX12_pay_117 moX12_factsOf mvX12_factsOf mlX12_280 g13 rfl rfl (okX12_factsOf (d := d) e28) rfl rfl [] rfl rfl (st2 := []) rfl ?_
        refine J_aload_n 0 dX12_pay_120 rfl rfl ?_
        obtain ⟨g30, H⟩ := gd H
        refine J_gP 11 21 dX12_pay_121 g30 flX12_45 rfl rfl ?_
        refine J_iconst (2 : Int32) dX12_pay_124 kc_2 ?_
        refine J_aload_n 0 dX12_pay_125 rfl rfl ?_
        refine J_gP 11 1 dX12_pay_126 g30 flX12_8 rfl rfl ?_
        refine J_iload dX12_pay_129 rfl ?_
        refine J_bipush (7 : Int32) dX12_pay_131 kb_7 ?_
        refine J_iadd dX12_pay_133 ?_
        obtain ⟨g31, H⟩ := gd H
        obtain ⟨g32, H⟩ := gd H
        refine J_iald dX12_pay_134 g31 (inB_ok g32) ?_
        refine J_iconst (1 : Int32) dX12_pay_135 kc_1 ?_
        refine J_icmp_ne 143 dX12_pay_136 rfl (fun q33 => ?_) (fun q33 => ?_)
        · replace H := br0 q33 H
          refine J_iconst (0 : Int32) dX12_pay_143 kc_0 ?_
          exact J_dr (kX12_pay_144 H hb0 hx) ⟨rfl, ⟨rfl, ⟨rfl, ⟨rfl, ⟨rfl, ⟨rfl, ⟨rfl, ⟨rfl, trivial⟩⟩⟩⟩⟩⟩⟩⟩
        · replace H := br1 q33 H
          refine J_iconst (1 : Int32) dX12_pay_139 kc_1 ?_
          refine J_goto 144 dX12_pay_140 rfl ?_
          exact J_dr (kX12_pay_144 H hb0 hx) ⟨rfl, ⟨rfl, ⟨rfl, ⟨rfl, ⟨rfl, ⟨rfl, ⟨rfl, ⟨rfl, trivial⟩⟩⟩⟩⟩⟩⟩⟩
      · replace H := br1 q24 H
        refine J_goto 233 dX12_pay_80 rfl ?_
        refine J_iinc (v5 + (1 : Int32)) dX12_pay_233 rfl (congrArg (HAdd.hAdd v5) kc_1) (by decide) (ls' := [.ref v0, .int v1, .int v2, .int v3, .int v4, .int (v5 + (1 : Int32)), .int t18, Value.null, Value.null]) rfl ?_
        refine J_goto 32 dX12_pay_236 rfl ?_
        cases H
        exact J_dr (hb0 _ rfl) ⟨rfl, ⟨rfl, ⟨rfl, ⟨rfl, ⟨rfl, ⟨rfl, trivial⟩⟩⟩⟩⟩⟩
noncomputable def MX12_pay_32 (h : Hp) (v0 : Nat) (v1 : Int32) (v2 : Int32) (v3 : Int32) (v4 : Int32) (v5 : Int32) : Option (Int32 × Hp) := it (fun q : Int32 × Int32 × Hp => BX12_pay_32 q.2.2 v0 v1 v2 v3 q.1 q.2.1) (v4, v5, h)
set_option maxRecDepth 100000 in
set_option maxHeartbeats 8000000 in
theorem kX12_pay_32 {d : Nat} {h : Hp} {v0 : Nat} {v1 : Int32} {v2 : Int32} {v3 : Int32} {v4 : Int32} {v5 : Int32} {r : Int32} {h9 : Hp} (H : MX12_pay_32 h v0 v1 v2 v3 v4 v5 = some (r, h9)) : J (d + 2) YX12_pay 32 [.ref v0, .int v1, .int v2, .int v3, .int v4, .int v5, Value.null, Value.null, Value.null] [] h (oI r) h9 := by
  unfold MX12_pay_32 at H
  refine it_J (G := (fun q : Int32 × Int32 × Hp => J (d + 2) YX12_pay 32 [.ref v0, .int v1, .int v2, .int v3, .int q.1, .int q.2.1, Value.null, Value.null, Value.null] [] q.2.2 (oI r) h9)) (Q := (fun y : (Int32 × Hp) => y = (r, h9))) (fun q x Hq hm => ?_) H rfl
  exact bX12_pay_32 Hq (fun s hs => by subst hs; exact hm) (fun z hz => by subst hz; exact hm)
noncomputable def MX12_pay_14 (h : Hp) (v0 : Nat) (v1 : Int32) (v2 : Int32) (v3 : Int32) (s0 : Nat) (s1 : Int32) : Option (Int32 × Hp) :=
  gg (β := (Int32 × Hp)) (kd h s0 = 11) <|
  lt (α := Hp) (β := Option (Int32 × Hp)) (sI h s0 0 s1) fun (h6 : Hp) =>
  gg (β := (Int32 × Hp)) (kd h v0 = 11) <|
  if (gI h6 v0 0) ≤ 0 then
    MX12_pay_32 h6 v0 v1 v2 v3 (0 : Int32) (0 : Int32)
  else
    some ((0 : Int32), h6)
set_option maxRecDepth 100000 in
set_option maxHeartbeats 8000000 in
theorem kX12_pay_14 {d : Nat} {h : Hp} {v0 : Nat} {v1 : Int32} {v2 : Int32} {v3 : Int32} {s0 : Nat} {s1 : Int32} {r : Int32} {h9 : Hp} (H : MX12_pay_14 h v0 v1 v2 v3 s0 s1 = some (r, h9)) : J (d + 2) YX12_pay 14 [.ref v0, .int v1, .int v2, .int v3, Value.null, Value.null, Value.null, Value.null, Value.null] [.int s1, .ref s0] h (oI r) h9 := by
  unfold MX12_pay_14 at H
  obtain ⟨g5, H⟩ := gd H
  obtain ⟨h6, e7, H⟩ := lt_el H
  refine J_pI 11 0 dX12_pay_14 g5 flX12_122 rfl rfl e7 ?_
  have c8 := ekI e7
  have c9 := elI e7
  have c10 := epI e7
  refine J_aload_n 0 dX12_pay_17 rfl rfl ?_
  obtain ⟨g11, H⟩ := gd H
  refine J_getI 11 0 dX12_pay_18 (kq c8 g11) flX12_122 rfl ?_
  refine J_if_le 26 dX12_pay_21 rfl (fun q12 => ?_) (fun q12 => ?_)
  · replace H := br1 q12 H
    refine J_iconst (0 : Int32) dX12_pay_26 kc_0 ?_
    refine J_istore dX12_pay_27 (by decide) (ls' := [.ref v0, .int v1, .int v2, .int v3, .int (0 : Int32), Value.null, Value.null, Value.null, Value.null]) rfl ?_
    refine J_iconst (0 : Int32) dX12_pay_29 kc_0 ?_
    refine J_istore dX12_pay_30 (by decide) (ls' := [.ref v0, .int v1, .int v2, .int v3, .int (0 : Int32), .int (0 : Int32), Value.null, Value.null, Value.null]) rfl ?_
    exact J_dr (kX12_pay_32 H ) ⟨rfl, ⟨rfl, ⟨rfl, ⟨rfl, ⟨rfl, ⟨rfl, trivial⟩⟩⟩⟩⟩⟩
  · replace H := br0 q12 H
    refine J_iconst (0 : Int32) dX12_pay_24 kc_0 ?_
    cases H
    exact J_iretI dX12_pay_25 rfl
noncomputable def MX12_pay (h : Hp) (v0 : Nat) (v1 : Int32) (v2 : Int32) (v3 : Int32) : Option (Int32 × Hp) :=
  gg (β := (Int32 × Hp)) (kd h v0 = 11) <|
  Option.bind (α := Int32) (β := (Int32 × Hp)) (MX12_isMachine h v0 v1) fun (t3 : Int32) =>
  if t3 = 0 then
    MX12_pay_14 h v0 v1 v2 v3 v0 (1 : Int32)
  else
    MX12_pay_14 h v0 v1 v2 v3 v0 (0 : Int32)
set_option maxRecDepth 100000 in
set_option maxHeartbeats 8000000 in
theorem eX12_pay {d : Nat} {h : Hp} {v0 : Nat} {v1 : Int32} {v2 : Int32} {v3 : Int32} {r : Int32} {h9 : Hp} (H : MX12_pay h v0 v1 v2 v3 = some (r, h9)) : J (d + 2) YX12_pay 0 [.ref v0, .int v1, .int v2, .int v3, Value.null, Value.null, Value.null, Value.null, Value.null] [] h (oI r) h9 := by
  unfold MX12_pay at H
  refine J_aload_n 0 dX12_pay_0 rfl rfl ?_
  refine J_aload_n 0 dX12_pay_1 rfl rfl ?_
  refine J_iload_n 1 dX12_pay_2 rfl rfl ?_
  obtain ⟨g2, H⟩ := gd H
  obtain ⟨t3, e1, H⟩ := bd H
  refine J_cV (as := [.int v1]) 11 YX12_isMachine 1 dX12_pay_3 moX12_isMachine mvX12_isMachine mlX12_363 g2 rfl rfl (okX12_isMachine (d := d + 1) e1) rfl rfl [.ref v0] rfl rfl (st2 := [.int t3, .ref v0]) rfl ?_
  refine J_if_ne 13 dX12_pay_6 rfl (fun q4 => ?_) (fun q4 => ?_)
  · replace H := br0 q4 H
    refine J_iconst (0 : Int32) dX12_pay_13 kc_0 ?_
    exact J_dr (kX12_pay_14 H ) ⟨rfl, ⟨rfl, ⟨rfl, ⟨rfl, trivial⟩⟩⟩⟩
  · replace H := br1 q4 H
    refine J_iconst (1 : Int32) dX12_pay_9 kc_1 ?_
    refine J_goto 14 dX12_pay_10 rfl ?_
    exact J_dr (kX12_pay_14 H ) ⟨rfl, ⟨rfl, ⟨rfl, ⟨rfl, trivial⟩⟩⟩⟩
theorem okX12_pay {d : Nat} {h : Hp} {v0 : Nat} {v1 : Int32} {v2 : Int32} {v3 : Int32} {r : Int32} {h9 : Hp} (H : MX12_pay h v0 v1 v2 v3 = some (r, h9)) : CT (d + 2) YX12_pay [.ref v0, .int v1, .int v2, .int v3] h (oI r) h9 := CT_of (by decide +kernel) (Nat.le_of_ble_eq_true rfl) (eX12_pay H)
noncomputable def MX12_pie_14 (h : Hp) (v0 : Nat) (v1 : Int32) (s0 : Nat) (s1 : Int32) : Option (Int32 × Hp) :=
  gg (β := (Int32 × Hp)) (kd h s0 = 11) <|
  lt (α := Hp) (β := Option (Int32 × Hp)) (sI h s0 0 s1) fun (h6 : Hp) =>
  gg (β := (Int32 × Hp)) (kd h v0 = 11) <|
  if (gI h6 v0 0) ≤ 0 then
    Option.bind (α := Int32) (β := (Int32 × Hp)) (MX12_slug0 h6 v1) fun (t14 : Int32) =>
    gg (β := (Int32 × Hp)) (kd h (gP h v0 1) = 20) <|
    gg (β := (Int32 × Hp)) (inB (t14 + (4 : Int32)) (ln h (gP h v0 1)) = true) <|
    if (gI h6 (gP h v0 1) (t14 + (4 : Int32)).toNatClampNeg) = 0 then
      gg (β := (Int32 × Hp)) (inB (t14 + (6 : Int32)) (ln h (gP h v0 1)) = true) <|
      Option.bind (α := Int32) (β := (Int32 × Hp)) (MX12_part0 h6 (gI h6 (gP h v0 1) (t14 + (6 : Int32)).toNatClampNeg)) fun (t20 : Int32) =>
      gg (β := (Int32 × Hp)) (inB (t14 + (5 : Int32)) (ln h (gP h v0 1)) = true) <|
      gg (β := (Int32 × Hp)) (inB ((t20 + (45 : Int32)) + (gI h6 (gP h v0 1) (t14 + (5 : Int32)).toNatClampNeg)) (ln h (gP h v0 1)) = true) <|
      lt (α := Hp) (β := Option (Int32 × Hp)) (sI h6 (gP h v0 1) ((t20 + (45 : Int32)) + (gI h6 (gP h v0 1) (t14 + (5 : Int32)).toNatClampNeg)).toNatClampNeg (0 : Int32)) fun (h23 : Hp) =>
      lt (α := Hp) (β := Option (Int32 × Hp)) (sI h23 (gP h v0 1) (t14 + (4 : Int32)).toNatClampNeg (1 : Int32)) fun (h28 : Hp) =>
      lt (α := Hp) (β := Option (Int32 × Hp)) (sI h28 (gP h v0 1) (t14 + (5 : Int32)).toNatClampNeg (-1 : Int32)) fun (h33 : Hp) =>
      lt (α := Hp) (β := Option (Int32 × Hp)) (sI h33 (gP h v0 1) (t14 + (6 : Int32)).toNatClampNeg (-1 : Int32)) fun (h38 : Hp) =>
      some ((1 : Int32), h38)
    else
      some ((0 : Int32), h6)
  else
    some ((0 : Int32), h6)
set_option maxRecDepth 100000 in
set_option maxHeartbeats 8000000 in
theorem kX12_pie_14 {d : Nat} {h : Hp} {v0 : Nat} {v1 : Int32} {s0 : Nat} {s1 : Int32} {r : Int32} {h9 : Hp} (H : MX12_pie_14 h v0 v1 s0 s1 = some (r, h9)) : J (d + 1) YX12_pie 14 [.ref v0, .int v1, Value.null] [.int s1, .ref s0] h (oI r) h9 := by
  unfold MX12_pie_14 at H
  obtain ⟨g5, H⟩ := gd H
  obtain ⟨h6, e7, H⟩ := lt_el H
  refine J_pI 11 0 dX12_pie_14 g5 flX12_122 rfl rfl e7 ?_
  have c8 := ekI e7
  have c9 := elI e7
  have c10 := epI e7
  refine J_aload_n 0 dX12_pie_17 rfl rfl ?_
  obtain ⟨g11, H⟩ := gd H
  refine J_getI 11 0 dX12_pie_18 (kq c8 g11) flX12_122 rfl ?_
  refine J_if_le 26 dX12_pie_21 rfl (fun q12 => ?_) (fun q12 => ?_)
  · replace H := br1 q12 H
    refine J_iload_n 1 dX12_pie_26 rfl rfl ?_
    obtain ⟨t14, e13, H⟩ := bd H
    refine J_cS (as := [.int v1]) YX12_slug0 1 dX12_pie_27 moX12_slug0 msX12_slug0 mlX12_342 (okX12_slug0 (d := d) e13) rfl rfl [] rfl rfl (st2 := [.int t14]) rfl ?_
    refine J_istore_n 2 dX12_pie_30 rfl (by decide) (ls' := [.ref v0, .int v1, .int t14]) rfl ?_
    refine J_aload_n 0 dX12_pie_31 rfl rfl ?_
    refine J_gP 11 1 dX12_pie_32 (kq c8 g11) flX12_8 rfl (congrFun (congrFun c10 v0) 1) ?_
    refine J_iload_n 2 dX12_pie_35 rfl rfl ?_
    refine J_iconst (4 : Int32) dX12_pie_36 kc_4 ?_
    refine J_iadd dX12_pie_37 ?_
    obtain ⟨g15, H⟩ := gd H
    obtain ⟨g16, H⟩ := gd H
    refine J_iald dX12_pie_38 (kq c8 g15) (lq c9 g16) ?_
    refine J_if_eq 44 dX12_pie_39 rfl (fun q17 => ?_) (fun q17 => ?_)
    · replace H := br1 q17 H
      refine J_aload_n 0 dX12_pie_44 rfl rfl ?_
      refine J_gP 11 1 dX12_pie_45 (kq c8 g11) flX12_8 rfl (congrFun (congrFun c10 v0) 1) ?_
      refine J_aload_n 0 dX12_pie_48 rfl rfl ?_
      refine J_gP 11 1 dX12_pie_49 (kq c8 g11) flX12_8 rfl (congrFun (congrFun c10 v0) 1) ?_
      refine J_iload_n 2 dX12_pie_52 rfl rfl ?_
      refine J_bipush (6 : Int32) dX12_pie_53 kb_6 ?_
      refine J_iadd dX12_pie_55 ?_
      obtain ⟨g18, H⟩ := gd H
      refine J_iald dX12_pie_56 (kq c8 g15) (lq c9 g18) ?_
      obtain ⟨t20, e19, H⟩ := bd H
      refine J_cS (as := [.int (gI h6 (gP h v0 1) (t14 + (6 : Int32)).toNatClampNeg)]) YX12_part0 1 dX12_pie_57 moX12_part0 msX12_part0 mlX12_164 (okX12_part0 (d := d) e19) rfl rfl [.ref (gP h v0 1)] rfl rfl (st2 := [.int t20, .ref (gP h v0 1)]) rfl ?_
      refine J_bipush (45 : Int32) dX12_pie_60 kb_45 ?_
      refine J_iadd dX12_pie_62 ?_
      refine J_aload_n 0 dX12_pie_63 rfl rfl ?_
      refine J_gP 11 1 dX12_pie_64 (kq c8 g11) flX12_8 rfl (congrFun (congrFun c10 v0) 1) ?_
      refine J_iload_n 2 dX12_pie_67 rfl rfl ?_
      refine J_iconst (5 : Int32) dX12_pie_68 kc_5 ?_
      refine J_iadd dX12_pie_69 ?_
      obtain ⟨g21, H⟩ := gd H
      refine J_iald dX12_pie_70 (kq c8 g15) (lq c9 g21) ?_
      refine J_iadd dX12_pie_71 ?_
      refine J_iconst (0 : Int32) dX12_pie_72 kc_0 ?_
      obtain ⟨g22, H⟩ := gd H
      obtain ⟨h23, e24, H⟩ := lt_el H
      refine J_sI dX12_pie_73 (kq c8 g15) (lq c9 g22) e24 ?_
      have c25 := (ekI e24).trans c8
      have c26 := (elI e24).trans c9
      have c27 := (epI e24).trans c10
      refine J_aload_n 0 dX12_pie_74 rfl rfl ?_
      refine J_gP 11 1 dX12_pie_75 (kq c25 g11) flX12_8 rfl (congrFun (congrFun c27 v0) 1) ?_
      refine J_iload_n 2 dX12_pie_78 rfl rfl ?_
      refine J_iconst (4 : Int32) dX12_pie_79 kc_4 ?_
      refine J_iadd dX12_pie_80 ?_
      refine J_iconst (1 : Int32) dX12_pie_81 kc_1 ?_
      obtain ⟨h28, e29, H⟩ := lt_el H
      refine J_sI dX12_pie_82 (kq c25 g15) (lq c26 g16) e29 ?_
      have c30 := (ekI e29).trans c25
      have c31 := (elI e29).trans c26
      have c32 := (epI e29).trans c27
      refine J_aload_n 0 dX12_pie_83 rfl rfl ?_
      refine J_gP 11 1 dX12_pie_84 (kq c30 g11) flX12_8 rfl (congrFun (congrFun c32 v0) 1) ?_
      refine J_iload_n 2 dX12_pie_87 rfl rfl ?_
      refine J_iconst (5 : Int32) dX12_pie_88 kc_5 ?_
      refine J_iadd dX12_pie_89 ?_
      refine J_iconst (-1 : Int32) dX12_pie_90 kc_m1 ?_
      obtain ⟨h33, e34, H⟩ := lt_el H
      refine J_sI dX12_pie_91 (kq c30 g15) (lq c31 g21) e34 ?_
      have c35 := (ekI e34).trans c30
      have c36 := (elI e34).trans c31
      have c37 := (epI e34).trans c32
      refine J_aload_n 0 dX12_pie_92 rfl rfl ?_
      refine J_gP 11 1 dX12_pie_93 (kq c35 g11) flX12_8 rfl (congrFun (congrFun c37 v0) 1) ?_
      refine J_iload_n 2 dX12_pie_96 rfl rfl ?_
      refine J_bipush (6 : Int32) dX12_pie_97 kb_6 ?_
      refine J_iadd dX12_pie_99 ?_
      refine J_iconst (-1 : Int32) dX12_pie_100 kc_m1 ?_
      obtain ⟨h38, e39, H⟩ := lt_el H
      refine J_sI dX12_pie_101 (kq c35 g15) (lq c36 g18) e39 ?_
      have c40 := (ekI e39).trans c35
      have c41 := (elI e39).trans c36
      have c42 := (epI e39).trans c37
      refine J_iconst (1 : Int32) dX12_pie_102 kc_1 ?_
      cases H
      exact J_rZ dX12_pie_103 rfl rfl
    · replace H := br0 q17 H
      refine J_iconst (0 : Int32) dX12_pie_42 kc_0 ?_
      cases H
      exact J_rZ dX12_pie_43 rfl rfl
  · replace H := br0 q12 H
    refine J_iconst (0 : Int32) dX12_pie_24 kc_0 ?_
    cases H
    exact J_rZ dX12_pie_25 rfl rfl
noncomputable def MX12_pie (h : Hp) (v0 : Nat) (v1 : Int32) : Option (Int32 × Hp) :=
  gg (β := (Int32 × Hp)) (kd h v0 = 11) <|
  Option.bind (α := Int32) (β := (Int32 × Hp)) (MX12_isSlug h v0 v1) fun (t3 : Int32) =>
  if t3 = 0 then
    MX12_pie_14 h v0 v1 v0 (1 : Int32)
  else
    MX12_pie_14 h v0 v1 v0 (0 : Int32)
set_option maxRecDepth 100000 in
set_option maxHeartbeats 8000000 in
theorem eX12_pie {d : Nat} {h : Hp} {v0 : Nat} {v1 : Int32} {r : Int32} {h9 : Hp} (H : MX12_pie h v0 v1 = some (r, h9)) : J (d + 1) YX12_pie 0 [.ref v0, .int v1, Value.null] [] h (oI r) h9 := by
  unfold MX12_pie at H
  refine J_aload_n 0 dX12_pie_0 rfl rfl ?_
  refine J_aload_n 0 dX12_pie_1 rfl rfl ?_
  refine J_iload_n 1 dX12_pie_2 rfl rfl ?_
  obtain ⟨g2, H⟩ := gd H
  obtain ⟨t3, e1, H⟩ := bd H
  refine J_cV (as := [.int v1]) 11 YX12_isSlug 1 dX12_pie_3 moX12_isSlug mvX12_isSlug mlX12_396 g2 rfl rfl (okX12_isSlug (d := d) e1) rfl rfl [.ref v0] rfl rfl (st2 := [.int t3, .ref v0]) rfl ?_
  refine J_if_ne 13 dX12_pie_6 rfl (fun q4 => ?_) (fun q4 => ?_)
  · replace H := br0 q4 H
    refine J_iconst (0 : Int32) dX12_pie_13 kc_0 ?_
    exact J_dr (kX12_pie_14 H ) ⟨rfl, ⟨rfl, trivial⟩⟩
  · replace H := br1 q4 H
    refine J_iconst (1 : Int32) dX12_pie_9 kc_1 ?_
    refine J_goto 14 dX12_pie_10 rfl ?_
    exact J_dr (kX12_pie_14 H ) ⟨rfl, ⟨rfl, trivial⟩⟩
theorem okX12_pie {d : Nat} {h : Hp} {v0 : Nat} {v1 : Int32} {r : Int32} {h9 : Hp} (H : MX12_pie h v0 v1 = some (r, h9)) : CT (d + 1) YX12_pie [.ref v0, .int v1] h (oI r) h9 := CT_of (by decide +kernel) (Nat.le_of_ble_eq_true rfl) (eX12_pie H)
noncomputable def MX12_proof_182 (h : Hp) (v1 : Int32) (v2 : Int32) (v3 : Int32) (v4 : Int32) (v5 : Int32) (v6 : Int32) : Option (Int32 × Hp) :=
  if v1 = (3 : Int32) then
    if v4 = 0 then
      some ((-1 : Int32), h)
    else
      gn (β := (Int32 × Hp)) (v4 = 0) <|
      some ((((v2 - v4) * (v3 - v4)) / v4), h)
  else
    if v1 = 0 then
      some (v2, h)
    else
      if v1 = (1 : Int32) then
        some (v3, h)
      else
        if v1 = (2 : Int32) then
          some (v4, h)
        else
          if v1 = (4 : Int32) then
            some (v5, h)
          else
            some (v6, h)
set_option maxRecDepth 100000 in
set_option maxHeartbeats 8000000 in
theorem kX12_proof_182 {d : Nat} {h : Hp} {v1 : Int32} {v2 : Int32} {v3 : Int32} {v4 : Int32} {v5 : Int32} {v6 : Int32} {r : Int32} {h9 : Hp} (H : MX12_proof_182 h v1 v2 v3 v4 v5 v6 = some (r, h9)) : J (d + 2) YX12_proof 182 [Value.null, .int v1, .int v2, .int v3, .int v4, .int v5, .int v6, Value.null, Value.null, Value.null, Value.null, Value.null] [] h (oI r) h9 := by
  unfold MX12_proof_182 at H
  refine J_iload_n 1 dX12_proof_182 rfl rfl ?_
  refine J_iconst (3 : Int32) dX12_proof_183 kc_3 ?_
  refine J_icmp_ne 209 dX12_proof_184 rfl (fun q16 => ?_) (fun q16 => ?_)
  · replace H := br0 q16 H
    refine J_iload_n 1 dX12_proof_209 rfl rfl ?_
    refine J_if_ne 217 dX12_proof_210 rfl (fun q17 => ?_) (fun q17 => ?_)
    · replace H := br0 q17 H
      refine J_iload_n 1 dX12_proof_217 rfl rfl ?_
      refine J_iconst (1 : Int32) dX12_proof_218 kc_1 ?_
      refine J_icmp_ne 226 dX12_proof_219 rfl (fun q18 => ?_) (fun q18 => ?_)
      · replace H := br0 q18 H
        refine J_iload_n 1 dX12_proof_226 rfl rfl ?_
        refine J_iconst (2 : Int32) dX12_proof_227 kc_2 ?_
        refine J_icmp_ne 236 dX12_proof_228 rfl (fun q19 => ?_) (fun q19 => ?_)
        · replace H := br0 q19 H
          refine J_iload_n 1 dX12_proof_236 rfl rfl ?_
          refine J_iconst (4 : Int32) dX12_proof_237 kc_4 ?_
          refine J_icmp_ne 246 dX12_proof_238 rfl (fun q20 => ?_) (fun q20 => ?_)
          · replace H := br0 q20 H
            refine J_iload dX12_proof_246 rfl ?_
            cases H
            exact J_iretI dX12_proof_248 rfl
          · replace H := br1 q20 H
            refine J_iload dX12_proof_241 rfl ?_
            refine J_goto 248 dX12_proof_243 rfl ?_
            cases H
            exact J_iretI dX12_proof_248 rfl
        · replace H := br1 q19 H
          refine J_iload dX12_proof_231 rfl ?_
          refine J_goto 248 dX12_proof_233 rfl ?_
          cases H
          exact J_iretI dX12_proof_248 rfl
      · replace H := br1 q18 H
        refine J_iload_n 3 dX12_proof_222 rfl rfl ?_
        refine J_goto 248 dX12_proof_223 rfl ?_
        cases H
        exact J_iretI dX12_proof_248 rfl
    · replace H := br1 q17 H
      refine J_iload_n 2 dX12_proof_213 rfl rfl ?_
      refine J_goto 248 dX12_proof_214 rfl ?_
      cases H
      exact J_iretI dX12_proof_248 rfl
  · replace H := br1 q16 H
    refine J_iload dX12_proof_187 rfl ?_
    refine J_if_ne 196 dX12_proof_189 rfl (fun q21 => ?_) (fun q21 => ?_)
    · replace H := br0 q21 H
      refine J_iload_n 2 dX12_proof_196 rfl rfl ?_
      refine J_iload dX12_proof_197 rfl ?_
      refine J_isub dX12_proof_199 ?_
      refine J_iload_n 3 dX12_proof_200 rfl rfl ?_
      refine J_iload dX12_proof_201 rfl ?_
      refine J_isub dX12_proof_203 ?_
      refine J_imul dX12_proof_204 ?_
      refine J_iload dX12_proof_205 rfl ?_
      obtain ⟨g22, H⟩ := gdn H
      refine J_idiv dX12_proof_207 g22 ?_
      cases H
      exact J_iretI dX12_proof_208 rfl
    · replace H := br1 q21 H
      refine J_iconst (-1 : Int32) dX12_proof_192 kc_m1 ?_
      refine J_goto 208 dX12_proof_193 rfl ?_
      cases H
      exact J_iretI dX12_proof_208 rfl
noncomputable def MX12_proof_173 (h : Hp) (v0 : Nat) (v1 : Int32) (v2 : Int32) (v3 : Int32) (v4 : Int32) (v5 : Int32) (v7 : Int32) (s0 : Int32) (s1 : Int32) : Option ((Int32 × Int32 × Int32 × Int32 × Int32 × Int32) ⊕ (Int32 × Hp)) :=
  some (.inl (v2, v3, v4, v5, (s0 + s1), (v7 + (1 : Int32))))
set_option maxRecDepth 100000 in
set_option maxHeartbeats 8000000 in
theorem kX12_proof_173 {d : Nat} {h : Hp} {v0 : Nat} {v1 : Int32} {v2 : Int32} {v3 : Int32} {v4 : Int32} {v5 : Int32} {v7 : Int32} {s0 : Int32} {s1 : Int32} {r : Int32} {h9 : Hp} {x : ((Int32 × Int32 × Int32 × Int32 × Int32 × Int32) ⊕ (Int32 × Hp))} (H : MX12_proof_173 h v0 v1 v2 v3 v4 v5 v7 s0 s1 = some x) (hb0 : ∀ s : Int32 × Int32 × Int32 × Int32 × Int32 × Int32, x = .inl s → J (d + 2) YX12_proof 43 [.ref v0, .int v1, .int s.1, .int s.2.1, .int s.2.2.1, .int s.2.2.2.1, .int s.2.2.2.2.1, .int s.2.2.2.2.2, Value.null, Value.null, Value.null, Value.null] [] h (oI r) h9) (hx : ∀ z : (Int32 × Hp), x = .inr (z) → z = (r, h9)) : J (d + 2) YX12_proof 173 [.ref v0, .int v1, .int v2, .int v3, .int v4, .int v5, Value.null, .int v7, Value.null, Value.null, Value.null, Value.null] [.int s1, .int s0] h (oI r) h9 := by
  unfold MX12_proof_173 at H
  refine J_iadd dX12_proof_173 ?_
  refine J_istore dX12_proof_174 (by decide) (ls' := [.ref v0, .int v1, .int v2, .int v3, .int v4, .int v5, .int (s0 + s1), .int v7, Value.null, Value.null, Value.null, Value.null]) rfl ?_
  refine J_iinc (v7 + (1 : Int32)) dX12_proof_176 rfl (congrArg (HAdd.hAdd v7) kc_1) (by decide) (ls' := [.ref v0, .int v1, .int v2, .int v3, .int v4, .int v5, .int (s0 + s1), .int (v7 + (1 : Int32)), Value.null, Value.null, Value.null, Value.null]) rfl ?_
  refine J_goto 43 dX12_proof_179 rfl ?_
  cases H
  exact J_dr (hb0 _ rfl) ⟨rfl, ⟨rfl, ⟨rfl, ⟨rfl, ⟨rfl, ⟨rfl, ⟨rfl, ⟨rfl, trivial⟩⟩⟩⟩⟩⟩⟩⟩
noncomputable def MX12_proof_172 (h : Hp) (v0 : Nat) (v1 : Int32) (v2 : Int32) (v3 : Int32) (v4 : Int32) (v5 : Int32) (v7 : Int32) (s0 : Int32) : Option ((Int32 × Int32 × Int32 × Int32 × Int32 × Int32) ⊕ (Int32 × Hp)) :=
  MX12_proof_173 h v0 v1 v2 v3 v4 v5 v7 s0 (0 : Int32)
set_option maxRecDepth 100000 in
set_option maxHeartbeats 8000000 in
theorem kX12_proof_172 {d : Nat} {h : Hp} {v0 : Nat} {v1 : Int32} {v2 : Int32} {v3 : Int32} {v4 : Int32} {v5 : Int32} {v7 : Int32} {s0 : Int32} {r : Int32} {h9 : Hp} {x : ((Int32 × Int32 × Int32 × Int32 × Int32 × Int32) ⊕ (Int32 × Hp))} (H : MX12_proof_172 h v0 v1 v2 v3 v4 v5 v7 s0 = some x) (hb0 : ∀ s : Int32 × Int32 × Int32 × Int32 × Int32 × Int32, x = .inl s → J (d + 2) YX12_proof 43 [.ref v0, .int v1, .int s.1, .int s.2.1, .int s.2.2.1, .int s.2.2.2.1, .int s.2.2.2.2.1, .int s.2.2.2.2.2, Value.null, Value.null, Value.null, Value.null] [] h (oI r) h9) (hx : ∀ z : (Int32 × Hp), x = .inr (z) → z = (r, h9)) : J (d + 2) YX12_proof 172 [.ref v0, .int v1, .int v2, .int v3, .int v4, .int v5, Value.null, .int v7, Value.null, Value.null, Value.null, Value.null] [.int s0] h (oI r) h9 := by
  unfold MX12_proof_172 at H
  refine J_iconst (0 : Int32) dX12_proof_172 kc_0 ?_
  exact J_dr (kX12_proof_173 H hb0 hx) ⟨rfl, ⟨rfl, ⟨rfl, ⟨rfl, ⟨rfl, ⟨rfl, ⟨rfl, trivial⟩⟩⟩⟩⟩⟩⟩
noncomputable def MX12_proof_150 (h : Hp) (v0 : Nat) (v1 : Int32) (v2 : Int32) (v3 : Int32) (v4 : Int32) (v6 : Int32) (v7 : Int32) (v9 : Int32) (v10 : Int32) (v11 : Int32) (s0 : Int32) (s1 : Int32) : Option ((Int32 × Int32 × Int32 × Int32 × Int32 × Int32) ⊕ (Int32 × Hp)) :=
  if (v9 + v10) = 0 then
    if v11 = 0 then
      MX12_proof_172 h v0 v1 v2 v3 v4 (s0 + s1) v7 v6
    else
      MX12_proof_173 h v0 v1 v2 v3 v4 (s0 + s1) v7 v6 (1 : Int32)
  else
    MX12_proof_172 h v0 v1 v2 v3 v4 (s0 + s1) v7 v6
set_option maxRecDepth 100000 in
set_option maxHeartbeats 8000000 in
theorem kX12_proof_150 {d : Nat} {h : Hp} {v0 : Nat} {v1 : Int32} {v2 : Int32} {v3 : Int32} {v4 : Int32} {v6 : Int32} {v7 : Int32} {v9 : Int32} {v10 : Int32} {v11 : Int32} {s0 : Int32} {s1 : Int32} {r : Int32} {h9 : Hp} {x : ((Int32 × Int32 × Int32 × Int32 × Int32 × Int32) ⊕ (Int32 × Hp))} (H : MX12_proof_150 h v0 v1 v2 v3 v4 v6 v7 v9 v10 v11 s0 s1 = some x) (hb0 : ∀ s : Int32 × Int32 × Int32 × Int32 × Int32 × Int32, x = .inl s → J (d + 2) YX12_proof 43 [.ref v0, .int v1, .int s.1, .int s.2.1, .int s.2.2.1, .int s.2.2.2.1, .int s.2.2.2.2.1, .int s.2.2.2.2.2, Value.null, Value.null, Value.null, Value.null] [] h (oI r) h9) (hx : ∀ z : (Int32 × Hp), x = .inr (z) → z = (r, h9)) : J (d + 2) YX12_proof 150 [.ref v0, .int v1, .int v2, .int v3, .int v4, Value.null, .int v6, .int v7, Value.null, .int v9, .int v10, .int v11] [.int s1, .int s0] h (oI r) h9 := by
  unfold MX12_proof_150 at H
  refine J_iadd dX12_proof_150 ?_
  refine J_istore dX12_proof_151 (by decide) (ls' := [.ref v0, .int v1, .int v2, .int v3, .int v4, .int (s0 + s1), .int v6, .int v7, Value.null, .int v9, .int v10, .int v11]) rfl ?_
  refine J_iload dX12_proof_153 rfl ?_
  refine J_iload dX12_proof_155 rfl ?_
  refine J_iload dX12_proof_157 rfl ?_
  refine J_iadd dX12_proof_159 ?_
  refine J_if_ne 172 dX12_proof_160 rfl (fun q36 => ?_) (fun q36 => ?_)
  · replace H := br0 q36 H
    exact J_dr (kX12_proof_172 H hb0 hx) ⟨rfl, ⟨rfl, ⟨rfl, ⟨rfl, ⟨rfl, ⟨rfl, ⟨rfl, trivial⟩⟩⟩⟩⟩⟩⟩
  · replace H := br1 q36 H
    refine J_iload dX12_proof_163 rfl ?_
    refine J_if_eq 172 dX12_proof_165 rfl (fun q37 => ?_) (fun q37 => ?_)
    · replace H := br1 q37 H
      exact J_dr (kX12_proof_172 H hb0 hx) ⟨rfl, ⟨rfl, ⟨rfl, ⟨rfl, ⟨rfl, ⟨rfl, ⟨rfl, trivial⟩⟩⟩⟩⟩⟩⟩
    · replace H := br0 q37 H
      refine J_iconst (1 : Int32) dX12_proof_168 kc_1 ?_
      refine J_goto 173 dX12_proof_169 rfl ?_
      exact J_dr (kX12_proof_173 H hb0 hx) ⟨rfl, ⟨rfl, ⟨rfl, ⟨rfl, ⟨rfl, ⟨rfl, ⟨rfl, trivial⟩⟩⟩⟩⟩⟩⟩
noncomputable def MX12_proof_149 (h : Hp) (v0 : Nat) (v1 : Int32) (v2 : Int32) (v3 : Int32) (v4 : Int32) (v6 : Int32) (v7 : Int32) (v9 : Int32) (v10 : Int32) (v11 : Int32) (s0 : Int32) : Option ((Int32 × Int32 × Int32 × Int32 × Int32 × Int32) ⊕ (Int32 × Hp)) :=
  MX12_proof_150 h v0 v1 v2 v3 v4 v6 v7 v9 v10 v11 s0 (0 : Int32)
set_option maxRecDepth 100000 in
set_option maxHeartbeats 8000000 in
theorem kX12_proof_149 {d : Nat} {h : Hp} {v0 : Nat} {v1 : Int32} {v2 : Int32} {v3 : Int32} {v4 : Int32} {v6 : Int32} {v7 : Int32} {v9 : Int32} {v10 : Int32} {v11 : Int32} {s0 : Int32} {r : Int32} {h9 : Hp} {x : ((Int32 × Int32 × Int32 × Int32 × Int32 × Int32) ⊕ (Int32 × Hp))} (H : MX12_proof_149 h v0 v1 v2 v3 v4 v6 v7 v9 v10 v11 s0 = some x) (hb0 : ∀ s : Int32 × Int32 × Int32 × Int32 × Int32 × Int32, x = .inl s → J (d + 2) YX12_proof 43 [.ref v0, .int v1, .int s.1, .int s.2.1, .int s.2.2.1, .int s.2.2.2.1, .int s.2.2.2.2.1, .int s.2.2.2.2.2, Value.null, Value.null, Value.null, Value.null] [] h (oI r) h9) (hx : ∀ z : (Int32 × Hp), x = .inr (z) → z = (r, h9)) : J (d + 2) YX12_proof 149 [.ref v0, .int v1, .int v2, .int v3, .int v4, Value.null, .int v6, .int v7, Value.null, .int v9, .int v10, .int v11] [.int s0] h (oI r) h9 := by
  unfold MX12_proof_149 at H
  refine J_iconst (0 : Int32) dX12_proof_149 kc_0 ?_
  exact J_dr (kX12_proof_150 H hb0 hx) ⟨rfl, ⟨rfl, ⟨rfl, ⟨rfl, ⟨rfl, ⟨rfl, ⟨rfl, ⟨rfl, ⟨rfl, ⟨rfl, trivial⟩⟩⟩⟩⟩⟩⟩⟩⟩⟩
noncomputable def BX12_proof_43 (h : Hp) (v0 : Nat) (v1 : Int32) (v2 : Int32) (v3 : Int32) (v4 : Int32) (v5 : Int32) (v6 : Int32) (v7 : Int32) : Option ((Int32 × Int32 × Int32 × Int32 × Int32 × Int32) ⊕ (Int32 × Hp)) :=
  gg (β := ((Int32 × Int32 × Int32 × Int32 × Int32 × Int32) ⊕ (Int32 × Hp))) (kd h v0 = 11) <|
  gg (β := ((Int32 × Int32 × Int32 × Int32 × Int32 × Int32) ⊕ (Int32 × Hp))) (kd h (gP h v0 1) = 20) <|
  gg (β := ((Int32 × Int32 × Int32 × Int32 × Int32 × Int32) ⊕ (Int32 × Hp))) (inB (4 : Int32) (ln h (gP h v0 1)) = true) <|
  if (gI h (gP h v0 1) (4 : Int32).toNatClampNeg) ≤ v7 then
    up1 (MX12_proof_182 h v1 v2 v3 v4 v5 v6)
  else
    Option.bind (α := Int32) (β := ((Int32 × Int32 × Int32 × Int32 × Int32 × Int32) ⊕ (Int32 × Hp))) (MX12_slug0 h v7) fun (t24 : Int32) =>
    gg (β := ((Int32 × Int32 × Int32 × Int32 × Int32 × Int32) ⊕ (Int32 × Hp))) (inB (t24 + (4 : Int32)) (ln h (gP h v0 1)) = true) <|
    if (gI h (gP h v0 1) (t24 + (4 : Int32)).toNatClampNeg) = 0 then
      gg (β := ((Int32 × Int32 × Int32 × Int32 × Int32 × Int32) ⊕ (Int32 × Hp))) (inB (t24 + (10 : Int32)) (ln h (gP h v0 1)) = true) <|
      gg (β := ((Int32 × Int32 × Int32 × Int32 × Int32 × Int32) ⊕ (Int32 × Hp))) (inB ((t24 + (10 : Int32)) + (1 : Int32)) (ln h (gP h v0 1)) = true) <|
      lt (α := Int32) (β := Option ((Int32 × Int32 × Int32 × Int32 × Int32 × Int32) ⊕ (Int32 × Hp))) (v3 + (gI h (gP h v0 1) ((t24 + (10 : Int32)) + (1 : Int32)).toNatClampNeg)) fun (w29 : Int32) =>
      lt (α := Int32) (β := Option ((Int32 × Int32 × Int32 × Int32 × Int32 × Int32) ⊕ (Int32 × Hp))) (v4 + ((gI h (gP h v0 1) (t24 + (10 : Int32)).toNatClampNeg) * (gI h (gP h v0 1) ((t24 + (10 : Int32)) + (1 : Int32)).toNatClampNeg))) fun (w31 : Int32) =>
      Option.bind (α := Int32) (β := ((Int32 × Int32 × Int32 × Int32 × Int32 × Int32) ⊕ (Int32 × Hp))) (MX12_isWrong h v0 v7) fun (t34 : Int32) =>
      if ((gI h (gP h v0 1) (t24 + (10 : Int32)).toNatClampNeg) + (gI h (gP h v0 1) ((t24 + (10 : Int32)) + (1 : Int32)).toNatClampNeg)) ≤ 0 then
        MX12_proof_149 h v0 v1 (v2 + (gI h (gP h v0 1) (t24 + (10 : Int32)).toNatClampNeg)) w29 w31 v6 v7 (gI h (gP h v0 1) (t24 + (10 : Int32)).toNatClampNeg) (gI h (gP h v0 1) ((t24 + (10 : Int32)) + (1 : Int32)).toNatClampNeg) t34 v5
      else
        if t34 = 0 then
          MX12_proof_150 h v0 v1 (v2 + (gI h (gP h v0 1) (t24 + (10 : Int32)).toNatClampNeg)) w29 w31 v6 v7 (gI h (gP h v0 1) (t24 + (10 : Int32)).toNatClampNeg) (gI h (gP h v0 1) ((t24 + (10 : Int32)) + (1 : Int32)).toNatClampNeg) t34 v5 (1 : Int32)
        else
          MX12_proof_149 h v0 v1 (v2 + (gI h (gP h v0 1) (t24 + (10 : Int32)).toNatClampNeg)) w29 w31 v6 v7 (gI h (gP h v0 1) (t24 + (10 : Int32)).toNatClampNeg) (gI h (gP h v0 1) ((t24 + (10 : Int32)) + (1 : Int32)).toNatClampNeg) t34 v5
    else
      some (.inl (v2, v3, v4, v5, v6, (v7 + (1 : Int32))))
set_option maxRecDepth 100000 in
set_option maxHeartbeats 8000000 in
theorem bX12_proof_43 {d : Nat} {h : Hp} {v0 : Nat} {v1 : Int32} {v2 : Int32} {v3 : Int32} {v4 : Int32} {v5 : Int32} {v6 : Int32} {v7 : Int32} {r : Int32} {h9 : Hp} {x : ((Int32 × Int32 × Int32 × Int32 × Int32 × Int32) ⊕ (Int32 × Hp))} (H : BX12_proof_43 h v0 v1 v2 v3 v4 v5 v6 v7 = some x) (hb0 : ∀ s : Int32 × Int32 × Int32 × Int32 × Int32 × Int32, x = .inl s → J (d + 2) YX12_proof 43 [.ref v0, .int v1, .int s.1, .int s.2.1, .int s.2.2.1, .int s.2.2.2.1, .int s.2.2.2.2.1, .int s.2.2.2.2.2, Value.null, Value.null, Value.null, Value.null] [] h (oI r) h9) (hx : ∀ z : (Int32 × Hp), x = .inr (z) → z = (r, h9)) : J (d + 2) YX12_proof 43 [.ref v0, .int v1, .int v2, .int v3, .int v4, .int v5, .int v6, .int v7, Value.null, Value.null, Value.null, Value.null] [] h (oI r) h9 := by
  unfold BX12_proof_43 at H
  refine J_iload dX12_proof_43 rfl ?_
  refine J_aload_n 0 dX12_proof_45 rfl rfl ?_
  obtain ⟨g12, H⟩ := gd H
  refine J_gP 11 1 dX12_proof_46 g12 flX12_8 rfl rfl ?_
  refine J_iconst (4 : Int32) dX12_proof_49 kc_4 ?_
  obtain ⟨g13, H⟩ := gd H
  obtain ⟨g14, H⟩ := gd H
  refine J_iald dX12_proof_50 g13 (inB_ok g14) ?_
  refine J_icmp_ge 182 dX12_proof_51 rfl (fun q15 => ?_) (fun q15 => ?_)
  · replace H := br1 q15 H
    obtain ⟨y0, H90, rfl⟩ := up1_el H
    replace H := H90
    obtain rfl := hx _ rfl
    exact J_dr (kX12_proof_182 H ) ⟨rfl, ⟨rfl, ⟨rfl, ⟨rfl, ⟨rfl, ⟨rfl, trivial⟩⟩⟩⟩⟩⟩
  · replace H := br0 q15 H
    refine J_iload dX12_proof_54 rfl ?_
    obtain ⟨t24, e23, H⟩ := bd H
    refine J_cS (as := [.int v7]) YX12_slug0 1 dX12_proof_56 moX12_slug0 msX12_slug0 mlX12_342 (okX12_slug0 (d := d + 1) e23) rfl rfl [] rfl rfl (st2 := [.int t24]) rfl ?_
    refine J_istore dX12_proof_59 (by decide) (ls' := [.ref v0, .int v1, .int v2, .int v3, .int v4, .int v5, .int v6, .int v7, .int t24, Value.null, Value.null, Value.null]) rfl ?_
    refine J_aload_n 0 dX12_proof_61 rfl rfl ?_
    refine J_gP 11 1 dX12_proof_62 g12 flX12_8 rfl rfl ?_
    refine J_iload dX12_proof_65 rfl ?_
    refine J_iconst (4 : Int32) dX12_proof_67 kc_4 ?_
    refine J_iadd dX12_proof_68 ?_
    obtain ⟨g25, H⟩ := gd H
    refine J_iald dX12_proof_69 g13 (inB_ok g25) ?_
    refine J_if_eq 76 dX12_proof_70 rfl (fun q26 => ?_) (fun q26 => ?_)
    · replace H := br1 q26 H
      refine J_aload_n 0 dX12_proof_76 rfl rfl ?_
      refine J_gP 11 1 dX12_proof_77 g12 flX12_8 rfl rfl ?_
      refine J_iload dX12_proof_80 rfl ?_
      refine J_bipush (10 : Int32) dX12_proof_82 kb_10 ?_
      refine J_iadd dX12_proof_84 ?_
      obtain ⟨g27, H⟩ := gd H
      refine J_iald dX12_proof_85 g13 (inB_ok g27) ?_
      refine J_istore dX12_proof_86 (by decide) (ls' := [.ref v0, .int v1, .int v2, .int v3, .int v4, .int v5, .int v6, .int v7, .int t24, .int (gI h (gP h v0 1) (t24 + (10 : Int32)).toNatClampNeg), Value.null, Value.null]) rfl ?_
      refine J_aload_n 0 dX12_proof_88 rfl rfl ?_
      refine J_gP 11 1 dX12_proof_89 g12 flX12_8 rfl rfl ?_
      refine J_iload dX12_proof_92 rfl ?_
      refine J_bipush (10 : Int32) dX12_proof_94 kb_10 ?_
      refine J_iadd dX12_proof_96 ?_
      refine J_iconst (1 : Int32) dX12_proof_97 kc_1 ?_
      refine J_iadd dX12_proof_98 ?_
      obtain ⟨g28, H⟩ := gd H
      refine J_iald dX12_proof_99 g13 (inB_ok g28) ?_
      refine J_istore dX12_proof_100 (by decide) (ls' := [.ref v0, .int v1, .int v2, .int v3, .int v4, .int v5, .int v6, .int v7, .int t24, .int (gI h (gP h v0 1) (t24 + (10 : Int32)).toNatClampNeg), .int (gI h (gP h v0 1) ((t24 + (10 : Int32)) + (1 : Int32)).toNatClampNeg), Value.null]) rfl ?_
      refine J_iload_n 2 dX12_proof_102 rfl rfl ?_
      refine J_iload dX12_proof_103 rfl ?_
      refine J_iadd dX12_proof_105 ?_
      refine J_istore_n 2 dX12_proof_106 rfl (by decide) (ls' := [.ref v0, .int v1, .int (v2 + (gI h (gP h v0 1) (t24 + (10 : Int32)).toNatClampNeg)), .int v3, .int v4, .int v5, .int v6, .int v7, .int t24, .int (gI h (gP h v0 1) (t24 + (10 : Int32)).toNatClampNeg), .int (gI h (gP h v0 1) ((t24 + (10 : Int32)) + (1 : Int32)).toNatClampNeg), Value.null]) rfl ?_
      refine J_iload_n 3 dX12_proof_107 rfl rfl ?_
      refine J_iload dX12_proof_108 rfl ?_
      refine J_iadd dX12_proof_110 ?_
      obtain ⟨w29, e30, H⟩ := lt_el H
      refine J_nmI e30 ?_
      refine J_istore_n 3 dX12_proof_111 rfl (by decide) (ls' := [.ref v0, .int v1, .int (v2 + (gI h (gP h v0 1) (t24 + (10 : Int32)).toNatClampNeg)), .int w29, .int v4, .int v5, .int v6, .int v7, .int t24, .int (gI h (gP h v0 1) (t24 + (10 : Int32)).toNatClampNeg), .int (gI h (gP h v0 1) ((t24 + (10 : Int32)) + (1 : Int32)).toNatClampNeg), Value.null]) rfl ?_
      refine J_iload dX12_proof_112 rfl ?_
      refine J_iload dX12_proof_114 rfl ?_
      refine J_iload dX12_proof_116 rfl ?_
      refine J_imul dX12_proof_118 ?_
      refine J_iadd dX12_proof_119 ?_
      obtain ⟨w31, e32, H⟩ := lt_el H
      refine J_nmI e32 ?_
      refine J_istore dX12_proof_120 (by decide) (ls' := [.ref v0, .int v1, .int (v2 + (gI h (gP h v0 1) (t24 + (10 : Int32)).toNatClampNeg)), .int w29, .int w31, .int v5, .int v6, .int v7, .int t24, .int (gI h (gP h v0 1) (t24 + (10 : Int32)).toNatClampNeg), .int (gI h (gP h v0 1) ((t24 + (10 : Int32)) + (1 : Int32)).toNatClampNeg), Value.null]) rfl ?_
      refine J_aload_n 0 dX12_proof_122 rfl rfl ?_
      refine J_iload dX12_proof_123 rfl ?_
      obtain ⟨t34, e33, H⟩ := bd H
      refine J_cV (as := [.int v7]) 11 YX12_isWrong 1 dX12_proof_125 moX12_isWrong mvX12_isWrong mlX12_399 g12 rfl rfl (okX12_isWrong (d := d) e33) rfl rfl [] rfl rfl (st2 := [.int t34]) rfl ?_
      refine J_istore dX12_proof_128 (by decide) (ls' := [.ref v0, .int v1, .int (v2 + (gI h (gP h v0 1) (t24 + (10 : Int32)).toNatClampNeg)), .int w29, .int w31, .int v5, .int v6, .int v7, .int t24, .int (gI h (gP h v0 1) (t24 + (10 : Int32)).toNatClampNeg), .int (gI h (gP h v0 1) ((t24 + (10 : Int32)) + (1 : Int32)).toNatClampNeg), .int t34]) rfl ?_
      refine J_iload dX12_proof_130 rfl ?_
      refine J_iload dX12_proof_132 rfl ?_
      refine J_iload dX12_proof_134 rfl ?_
      refine J_iadd dX12_proof_136 ?_
      refine J_if_le 149 dX12_proof_137 rfl (fun q35 => ?_) (fun q35 => ?_)
      · replace H := br1 q35 H
        exact J_dr (kX12_proof_149 H hb0 hx) ⟨rfl, ⟨rfl, ⟨rfl, ⟨rfl, ⟨rfl, ⟨rfl, ⟨rfl, ⟨rfl, ⟨rfl, ⟨rfl, trivial⟩⟩⟩⟩⟩⟩⟩⟩⟩⟩
      · replace H := br0 q35 H
        refine J_iload dX12_proof_140 rfl ?_
        refine J_if_ne 149 dX12_proof_142 rfl (fun q38 => ?_) (fun q38 => ?_)
        · replace H := br0 q38 H
          exact J_dr (kX12_proof_149 H hb0 hx) ⟨rfl, ⟨rfl, ⟨rfl, ⟨rfl, ⟨rfl, ⟨rfl, ⟨rfl, ⟨rfl, ⟨rfl, ⟨rfl, trivial⟩⟩⟩⟩⟩⟩⟩⟩⟩⟩
        · replace H := br1 q38 H
          refine J_iconst (1 : Int32) dX12_proof_145 kc_1 ?_
          refine J_goto 150 dX12_proof_146 rfl ?_
          exact J_dr (kX12_proof_150 H hb0 hx) ⟨rfl, ⟨rfl, ⟨rfl, ⟨rfl, ⟨rfl, ⟨rfl, ⟨rfl, ⟨rfl, ⟨rfl, ⟨rfl, trivial⟩⟩⟩⟩⟩⟩⟩⟩⟩⟩
    · replace H := br0 q26 H
      refine J_goto 176 dX12_proof_73 rfl ?_
      refine J_iinc (v7 + (1 : Int32)) dX12_proof_176 rfl (congrArg (HAdd.hAdd v7) kc_1) (by decide) (ls' := [.ref v0, .int v1, .int v2, .int v3, .int v4, .int v5, .int v6, .int (v7 + (1 : Int32)), .int t24, Value.null, Value.null, Value.null]) rfl ?_
      refine J_goto 43 dX12_proof_179 rfl ?_
      cases H
      exact J_dr (hb0 _ rfl) ⟨rfl, ⟨rfl, ⟨rfl, ⟨rfl, ⟨rfl, ⟨rfl, ⟨rfl, ⟨rfl, trivial⟩⟩⟩⟩⟩⟩⟩⟩
noncomputable def MX12_proof_43 (h : Hp) (v0 : Nat) (v1 : Int32) (v2 : Int32) (v3 : Int32) (v4 : Int32) (v5 : Int32) (v6 : Int32) (v7 : Int32) : Option (Int32 × Hp) := it (fun q : Int32 × Int32 × Int32 × Int32 × Int32 × Int32 => BX12_proof_43 h v0 v1 q.1 q.2.1 q.2.2.1 q.2.2.2.1 q.2.2.2.2.1 q.2.2.2.2.2) (v2, v3, v4, v5, v6, v7)
set_option maxRecDepth 100000 in
set_option maxHeartbeats 8000000 in
theorem kX12_proof_43 {d : Nat} {h : Hp} {v0 : Nat} {v1 : Int32} {v2 : Int32} {v3 : Int32} {v4 : Int32} {v5 : Int32} {v6 : Int32} {v7 : Int32} {r : Int32} {h9 : Hp} (H : MX12_proof_43 h v0 v1 v2 v3 v4 v5 v6 v7 = some (r, h9)) : J (d + 2) YX12_proof 43 [.ref v0, .int v1, .int v2, .int v3, .int v4, .int v5, .int v6, .int v7, Value.null, Value.null, Value.null, Value.null] [] h (oI r) h9 := by
  unfold MX12_proof_43 at H
  refine it_J (G := (fun q : Int32 × Int32 × Int32 × Int32 × Int32 × Int32 => J (d + 2) YX12_proof 43 [.ref v0, .int v1, .int q.1, .int q.2.1, .int q.2.2.1, .int q.2.2.2.1, .int q.2.2.2.2.1, .int q.2.2.2.2.2, Value.null, Value.null, Value.null, Value.null] [] h (oI r) h9)) (Q := (fun y : (Int32 × Hp) => y = (r, h9))) (fun q x Hq hm => ?_) H rfl
  exact bX12_proof_43 Hq (fun s hs => by subst hs; exact hm) (fun z hz => by subst hz; exact hm)
noncomputable def MX12_proof_15 (h : Hp) (v0 : Nat) (v1 : Int32) (s0 : Nat) (s1 : Int32) : Option (Int32 × Hp) :=
  gg (β := (Int32 × Hp)) (kd h s0 = 11) <|
  lt (α := Hp) (β := Option (Int32 × Hp)) (sI h s0 0 s1) fun (h5 : Hp) =>
  gg (β := (Int32 × Hp)) (kd h v0 = 11) <|
  if (gI h5 v0 0) ≤ 0 then
    MX12_proof_43 h5 v0 v1 (0 : Int32) (0 : Int32) (0 : Int32) (0 : Int32) (0 : Int32) (0 : Int32)
  else
    some ((0 : Int32), h5)
set_option maxRecDepth 100000 in
set_option maxHeartbeats 8000000 in
theorem kX12_proof_15 {d : Nat} {h : Hp} {v0 : Nat} {v1 : Int32} {s0 : Nat} {s1 : Int32} {r : Int32} {h9 : Hp} (H : MX12_proof_15 h v0 v1 s0 s1 = some (r, h9)) : J (d + 2) YX12_proof 15 [.ref v0, .int v1, Value.null, Value.null, Value.null, Value.null, Value.null, Value.null, Value.null, Value.null, Value.null, Value.null] [.int s1, .ref s0] h (oI r) h9 := by
  unfold MX12_proof_15 at H
  obtain ⟨g4, H⟩ := gd H
  obtain ⟨h5, e6, H⟩ := lt_el H
  refine J_pI 11 0 dX12_proof_15 g4 flX12_122 rfl rfl e6 ?_
  have c7 := ekI e6
  have c8 := elI e6
  have c9 := epI e6
  refine J_aload_n 0 dX12_proof_18 rfl rfl ?_
  obtain ⟨g10, H⟩ := gd H
  refine J_getI 11 0 dX12_proof_19 (kq c7 g10) flX12_122 rfl ?_
  refine J_if_le 27 dX12_proof_22 rfl (fun q11 => ?_) (fun q11 => ?_)
  · replace H := br1 q11 H
    refine J_iconst (0 : Int32) dX12_proof_27 kc_0 ?_
    refine J_istore_n 2 dX12_proof_28 rfl (by decide) (ls' := [.ref v0, .int v1, .int (0 : Int32), Value.null, Value.null, Value.null, Value.null, Value.null, Value.null, Value.null, Value.null, Value.null]) rfl ?_
    refine J_iconst (0 : Int32) dX12_proof_29 kc_0 ?_
    refine J_istore_n 3 dX12_proof_30 rfl (by decide) (ls' := [.ref v0, .int v1, .int (0 : Int32), .int (0 : Int32), Value.null, Value.null, Value.null, Value.null, Value.null, Value.null, Value.null, Value.null]) rfl ?_
    refine J_iconst (0 : Int32) dX12_proof_31 kc_0 ?_
    refine J_istore dX12_proof_32 (by decide) (ls' := [.ref v0, .int v1, .int (0 : Int32), .int (0 : Int32), .int (0 : Int32), Value.null, Value.null, Value.null, Value.null, Value.null, Value.null, Value.null]) rfl ?_
    refine J_iconst (0 : Int32) dX12_proof_34 kc_0 ?_
    refine J_istore dX12_proof_35 (by decide) (ls' := [.ref v0, .int v1, .int (0 : Int32), .int (0 : Int32), .int (0 : Int32), .int (0 : Int32), Value.null, Value.null, Value.null, Value.null, Value.null, Value.null]) rfl ?_
    refine J_iconst (0 : Int32) dX12_proof_37 kc_0 ?_
    refine J_istore dX12_proof_38 (by decide) (ls' := [.ref v0, .int v1, .int (0 : Int32), .int (0 : Int32), .int (0 : Int32), .int (0 : Int32), .int (0 : Int32), Value.null, Value.null, Value.null, Value.null, Value.null]) rfl ?_
    refine J_iconst (0 : Int32) dX12_proof_40 kc_0 ?_
    refine J_istore dX12_proof_41 (by decide) (ls' := [.ref v0, .int v1, .int (0 : Int32), .int (0 : Int32), .int (0 : Int32), .int (0 : Int32), .int (0 : Int32), .int (0 : Int32), Value.null, Value.null, Value.null, Value.null]) rfl ?_
    exact J_dr (kX12_proof_43 H ) ⟨rfl, ⟨rfl, ⟨rfl, ⟨rfl, ⟨rfl, ⟨rfl, ⟨rfl, ⟨rfl, trivial⟩⟩⟩⟩⟩⟩⟩⟩
  · replace H := br0 q11 H
    refine J_iconst (0 : Int32) dX12_proof_25 kc_0 ?_
    cases H
    exact J_iretI dX12_proof_26 rfl
noncomputable def MX12_proof (h : Hp) (v0 : Nat) (v1 : Int32) : Option (Int32 × Hp) :=
  Option.bind (α := Int32) (β := (Int32 × Hp)) (MX12_isIn h v1 (0 : Int32) (5 : Int32)) fun (t2 : Int32) =>
  if t2 = 0 then
    MX12_proof_15 h v0 v1 v0 (1 : Int32)
  else
    MX12_proof_15 h v0 v1 v0 (0 : Int32)
set_option maxRecDepth 100000 in
set_option maxHeartbeats 8000000 in
theorem eX12_proof {d : Nat} {h : Hp} {v0 : Nat} {v1 : Int32} {r : Int32} {h9 : Hp} (H : MX12_proof h v0 v1 = some (r, h9)) : J (d + 2) YX12_proof 0 [.ref v0, .int v1, Value.null, Value.null, Value.null, Value.null, Value.null, Value.null, Value.null, Value.null, Value.null, Value.null] [] h (oI r) h9 := by
  unfold MX12_proof at H
  refine J_aload_n 0 dX12_proof_0 rfl rfl ?_
  refine J_iload_n 1 dX12_proof_1 rfl rfl ?_
  refine J_iconst (0 : Int32) dX12_proof_2 kc_0 ?_
  refine J_iconst (5 : Int32) dX12_proof_3 kc_5 ?_
  obtain ⟨t2, e1, H⟩ := bd H
  refine J_cS (as := [.int v1, .int (0 : Int32), .int (5 : Int32)]) YX12_isIn 3 dX12_proof_4 moX12_isIn msX12_isIn mlX12_157 (okX12_isIn (d := d + 1) e1) rfl rfl [.ref v0] rfl rfl (st2 := [.int t2, .ref v0]) rfl ?_
  refine J_if_ne 14 dX12_proof_7 rfl (fun q3 => ?_) (fun q3 => ?_)
  · replace H := br0 q3 H
    refine J_iconst (0 : Int32) dX12_proof_14 kc_0 ?_
    exact J_dr (kX12_proof_15 H ) ⟨rfl, ⟨rfl, trivial⟩⟩
  · replace H := br1 q3 H
    refine J_iconst (1 : Int32) dX12_proof_10 kc_1 ?_
    refine J_goto 15 dX12_proof_11 rfl ?_
    exact J_dr (kX12_proof_15 H ) ⟨rfl, ⟨rfl, trivial⟩⟩
theorem okX12_proof {d : Nat} {h : Hp} {v0 : Nat} {v1 : Int32} {r : Int32} {h9 : Hp} (H : MX12_proof h v0 v1 = some (r, h9)) : CT (d + 2) YX12_proof [.ref v0, .int v1] h (oI r) h9 := CT_of (by decide +kernel) (Nat.le_of_ble_eq_true rfl) (eX12_proof H)
noncomputable def MX12_read_60 (h : Hp) (v0 : Nat) (v3 : Int32) (s0 : Int32) : Option (Int32 × Hp) :=
  gg (β := (Int32 × Hp)) (kd h v0 = 11) <|
  gg (β := (Int32 × Hp)) (kd h (gP h v0 1) = 20) <|
  gg (β := (Int32 × Hp)) (inB v3 (ln h (gP h v0 1)) = true) <|
  lt (α := Hp) (β := Option (Int32 × Hp)) (sI h (gP h v0 1) v3.toNatClampNeg (1 : Int32)) fun (h20 : Hp) =>
  if s0 = 0 then
    some ((1 : Int32), h20)
  else
    some ((0 : Int32), h20)
set_option maxRecDepth 100000 in
set_option maxHeartbeats 8000000 in
theorem kX12_read_60 {d : Nat} {h : Hp} {v0 : Nat} {v3 : Int32} {s0 : Int32} {r : Int32} {h9 : Hp} (H : MX12_read_60 h v0 v3 s0 = some (r, h9)) : J (d + 1) YX12_read 60 [.ref v0, Value.null, Value.null, .int v3, Value.null] [.int s0] h (oI r) h9 := by
  unfold MX12_read_60 at H
  refine J_istore dX12_read_60 (by decide) (ls' := [.ref v0, Value.null, Value.null, .int v3, .int s0]) rfl ?_
  refine J_aload_n 0 dX12_read_62 rfl rfl ?_
  obtain ⟨g17, H⟩ := gd H
  refine J_gP 11 1 dX12_read_63 g17 flX12_8 rfl rfl ?_
  refine J_iload_n 3 dX12_read_66 rfl rfl ?_
  refine J_iconst (1 : Int32) dX12_read_67 kc_1 ?_
  obtain ⟨g18, H⟩ := gd H
  obtain ⟨g19, H⟩ := gd H
  obtain ⟨h20, e21, H⟩ := lt_el H
  refine J_sI dX12_read_68 g18 (inB_ok g19) e21 ?_
  have c22 := ekI e21
  have c23 := elI e21
  have c24 := epI e21
  refine J_iload dX12_read_69 rfl ?_
  refine J_if_ne 78 dX12_read_71 rfl (fun q25 => ?_) (fun q25 => ?_)
  · replace H := br0 q25 H
    refine J_iconst (0 : Int32) dX12_read_78 kc_0 ?_
    cases H
    exact J_rZ dX12_read_79 rfl rfl
  · replace H := br1 q25 H
    refine J_iconst (1 : Int32) dX12_read_74 kc_1 ?_
    refine J_goto 79 dX12_read_75 rfl ?_
    cases H
    exact J_rZ dX12_read_79 rfl rfl
noncomputable def MX12_read_23 (h : Hp) (v0 : Nat) (v1 : Int32) (v2 : Int32) (s0 : Nat) (s1 : Int32) : Option (Int32 × Hp) :=
  gg (β := (Int32 × Hp)) (kd h s0 = 11) <|
  lt (α := Hp) (β := Option (Int32 × Hp)) (sI h s0 0 s1) fun (h5 : Hp) =>
  gg (β := (Int32 × Hp)) (kd h v0 = 11) <|
  if (gI h5 v0 0) ≤ 0 then
    Option.bind (α := Int32) (β := (Int32 × Hp)) (MX12_slug0 h5 v2) fun (t13 : Int32) =>
    gg (β := (Int32 × Hp)) (kd h (gP h v0 1) = 20) <|
    gg (β := (Int32 × Hp)) (inB ((t13 + (10 : Int32)) + v1) (ln h (gP h v0 1)) = true) <|
    if (gI h5 (gP h v0 1) ((t13 + (10 : Int32)) + v1).toNatClampNeg) = (1 : Int32) then
      MX12_read_60 h5 v0 ((t13 + (10 : Int32)) + v1) (1 : Int32)
    else
      MX12_read_60 h5 v0 ((t13 + (10 : Int32)) + v1) (0 : Int32)
  else
    some ((0 : Int32), h5)
set_option maxRecDepth 100000 in
set_option maxHeartbeats 8000000 in
theorem kX12_read_23 {d : Nat} {h : Hp} {v0 : Nat} {v1 : Int32} {v2 : Int32} {s0 : Nat} {s1 : Int32} {r : Int32} {h9 : Hp} (H : MX12_read_23 h v0 v1 v2 s0 s1 = some (r, h9)) : J (d + 1) YX12_read 23 [.ref v0, .int v1, .int v2, Value.null, Value.null] [.int s1, .ref s0] h (oI r) h9 := by
  unfold MX12_read_23 at H
  obtain ⟨g4, H⟩ := gd H
  obtain ⟨h5, e6, H⟩ := lt_el H
  refine J_pI 11 0 dX12_read_23 g4 flX12_122 rfl rfl e6 ?_
  have c7 := ekI e6
  have c8 := elI e6
  have c9 := epI e6
  refine J_aload_n 0 dX12_read_26 rfl rfl ?_
  obtain ⟨g10, H⟩ := gd H
  refine J_getI 11 0 dX12_read_27 (kq c7 g10) flX12_122 rfl ?_
  refine J_if_le 35 dX12_read_30 rfl (fun q11 => ?_) (fun q11 => ?_)
  · replace H := br1 q11 H
    refine J_iload_n 2 dX12_read_35 rfl rfl ?_
    obtain ⟨t13, e12, H⟩ := bd H
    refine J_cS (as := [.int v2]) YX12_slug0 1 dX12_read_36 moX12_slug0 msX12_slug0 mlX12_342 (okX12_slug0 (d := d) e12) rfl rfl [] rfl rfl (st2 := [.int t13]) rfl ?_
    refine J_bipush (10 : Int32) dX12_read_39 kb_10 ?_
    refine J_iadd dX12_read_41 ?_
    refine J_iload_n 1 dX12_read_42 rfl rfl ?_
    refine J_iadd dX12_read_43 ?_
    refine J_istore_n 3 dX12_read_44 rfl (by decide) (ls' := [.ref v0, .int v1, .int v2, .int ((t13 + (10 : Int32)) + v1), Value.null]) rfl ?_
    refine J_aload_n 0 dX12_read_45 rfl rfl ?_
    refine J_gP 11 1 dX12_read_46 (kq c7 g10) flX12_8 rfl (congrFun (congrFun c9 v0) 1) ?_
    refine J_iload_n 3 dX12_read_49 rfl rfl ?_
    obtain ⟨g14, H⟩ := gd H
    obtain ⟨g15, H⟩ := gd H
    refine J_iald dX12_read_50 (kq c7 g14) (lq c8 g15) ?_
    refine J_iconst (1 : Int32) dX12_read_51 kc_1 ?_
    refine J_icmp_ne 59 dX12_read_52 rfl (fun q16 => ?_) (fun q16 => ?_)
    · replace H := br0 q16 H
      refine J_iconst (0 : Int32) dX12_read_59 kc_0 ?_
      exact J_dr (kX12_read_60 H ) ⟨rfl, ⟨rfl, trivial⟩⟩
    · replace H := br1 q16 H
      refine J_iconst (1 : Int32) dX12_read_55 kc_1 ?_
      refine J_goto 60 dX12_read_56 rfl ?_
      exact J_dr (kX12_read_60 H ) ⟨rfl, ⟨rfl, trivial⟩⟩
  · replace H := br0 q11 H
    refine J_iconst (0 : Int32) dX12_read_33 kc_0 ?_
    cases H
    exact J_rZ dX12_read_34 rfl rfl
noncomputable def MX12_read_18 (h : Hp) (v0 : Nat) (v1 : Int32) (v2 : Int32) (s0 : Nat) : Option (Int32 × Hp) :=
  MX12_read_23 h v0 v1 v2 s0 (1 : Int32)
set_option maxRecDepth 100000 in
set_option maxHeartbeats 8000000 in
theorem kX12_read_18 {d : Nat} {h : Hp} {v0 : Nat} {v1 : Int32} {v2 : Int32} {s0 : Nat} {r : Int32} {h9 : Hp} (H : MX12_read_18 h v0 v1 v2 s0 = some (r, h9)) : J (d + 1) YX12_read 18 [.ref v0, .int v1, .int v2, Value.null, Value.null] [.ref s0] h (oI r) h9 := by
  unfold MX12_read_18 at H
  refine J_iconst (1 : Int32) dX12_read_18 kc_1 ?_
  refine J_goto 23 dX12_read_19 rfl ?_
  exact J_dr (kX12_read_23 H ) ⟨rfl, ⟨rfl, ⟨rfl, trivial⟩⟩⟩
noncomputable def MX12_read (h : Hp) (v0 : Nat) (v1 : Int32) (v2 : Int32) : Option (Int32 × Hp) :=
  Option.bind (α := Int32) (β := (Int32 × Hp)) (MX12_isIn h v1 (0 : Int32) (1 : Int32)) fun (t2 : Int32) =>
  if t2 = 0 then
    MX12_read_18 h v0 v1 v2 v0
  else
    gg (β := (Int32 × Hp)) (kd h v0 = 11) <|
    Option.bind (α := Int32) (β := (Int32 × Hp)) (MX12_isSlug h v0 v2) fun (t28 : Int32) =>
    if t28 = 0 then
      MX12_read_18 h v0 v1 v2 v0
    else
      MX12_read_23 h v0 v1 v2 v0 (0 : Int32)
set_option maxRecDepth 100000 in
set_option maxHeartbeats 8000000 in
theorem eX12_read {d : Nat} {h : Hp} {v0 : Nat} {v1 : Int32} {v2 : Int32} {r : Int32} {h9 : Hp} (H : MX12_read h v0 v1 v2 = some (r, h9)) : J (d + 1) YX12_read 0 [.ref v0, .int v1, .int v2, Value.null, Value.null] [] h (oI r) h9 := by
  unfold MX12_read at H
  refine J_aload_n 0 dX12_read_0 rfl rfl ?_
  refine J_iload_n 1 dX12_read_1 rfl rfl ?_
  refine J_iconst (0 : Int32) dX12_read_2 kc_0 ?_
  refine J_iconst (1 : Int32) dX12_read_3 kc_1 ?_
  obtain ⟨t2, e1, H⟩ := bd H
  refine J_cS (as := [.int v1, .int (0 : Int32), .int (1 : Int32)]) YX12_isIn 3 dX12_read_4 moX12_isIn msX12_isIn mlX12_157 (okX12_isIn (d := d) e1) rfl rfl [.ref v0] rfl rfl (st2 := [.int t2, .ref v0]) rfl ?_
  refine J_if_eq 18 dX12_read_7 rfl (fun q3 => ?_) (fun q3 => ?_)
  · replace H := br1 q3 H
    exact J_dr (kX12_read_18 H ) ⟨rfl, ⟨rfl, ⟨rfl, trivial⟩⟩⟩
  · replace H := br0 q3 H
    refine J_aload_n 0 dX12_read_10 rfl rfl ?_
    refine J_iload_n 2 dX12_read_11 rfl rfl ?_
    obtain ⟨g27, H⟩ := gd H
    obtain ⟨t28, e26, H⟩ := bd H
    refine J_cV (as := [.int v2]) 11 YX12_isSlug 1 dX12_read_12 moX12_isSlug mvX12_isSlug mlX12_396 g27 rfl rfl (okX12_isSlug (d := d) e26) rfl rfl [.ref v0] rfl rfl (st2 := [.int t28, .ref v0]) rfl ?_
    refine J_if_ne 22 dX12_read_15 rfl (fun q29 => ?_) (fun q29 => ?_)
    · replace H := br0 q29 H
      refine J_iconst (0 : Int32) dX12_read_22 kc_0 ?_
      exact J_dr (kX12_read_23 H ) ⟨rfl, ⟨rfl, ⟨rfl, trivial⟩⟩⟩
    · replace H := br1 q29 H
      exact J_dr (kX12_read_18 H ) ⟨rfl, ⟨rfl, ⟨rfl, trivial⟩⟩⟩
theorem okX12_read {d : Nat} {h : Hp} {v0 : Nat} {v1 : Int32} {v2 : Int32} {r : Int32} {h9 : Hp} (H : MX12_read h v0 v1 v2 = some (r, h9)) : CT (d + 1) YX12_read [.ref v0, .int v1, .int v2] h (oI r) h9 := CT_of (by decide +kernel) (Nat.le_of_ble_eq_true rfl) (eX12_read H)
noncomputable def MX12_readNumber_135 (h : Hp) (v0 : Nat) (v3 : Int32) (s0 : Int32) : Option (Int32 × Hp) :=
  if s0 = 0 then
    gg (β := (Int32 × Hp)) (kd h v0 = 11) <|
    lt (α := Hp) (β := Option (Int32 × Hp)) (sI h v0 9 v3) fun (h17 : Hp) =>
    gg (β := (Int32 × Hp)) (zOk s0 = true) <|
    some (s0, h17)
  else
    gg (β := (Int32 × Hp)) (zOk s0 = true) <|
    some (s0, h)
set_option maxRecDepth 100000 in
set_option maxHeartbeats 8000000 in
theorem kX12_readNumber_135 {d : Nat} {h : Hp} {v0 : Nat} {v3 : Int32} {s0 : Int32} {r : Int32} {h9 : Hp} (H : MX12_readNumber_135 h v0 v3 s0 = some (r, h9)) : J (d + 1) YX12_readNumber 135 [.ref v0, Value.null, Value.null, .int v3, Value.null] [.int s0] h (oI r) h9 := by
  unfold MX12_readNumber_135 at H
  refine J_istore dX12_readNumber_135 (by decide) (ls' := [.ref v0, Value.null, Value.null, .int v3, .int s0]) rfl ?_
  refine J_iload dX12_readNumber_137 rfl ?_
  refine J_if_ne 147 dX12_readNumber_139 rfl (fun q14 => ?_) (fun q14 => ?_)
  · replace H := br0 q14 H
    refine J_iload dX12_readNumber_147 rfl ?_
    obtain ⟨g15, H⟩ := gd H
    cases H
    exact J_rZ dX12_readNumber_149 rfl g15
  · replace H := br1 q14 H
    refine J_aload_n 0 dX12_readNumber_142 rfl rfl ?_
    refine J_iload_n 3 dX12_readNumber_143 rfl rfl ?_
    obtain ⟨g16, H⟩ := gd H
    obtain ⟨h17, e18, H⟩ := lt_el H
    refine J_pI 11 9 dX12_readNumber_144 g16 flX12_23 rfl rfl e18 ?_
    have c19 := ekI e18
    have c20 := elI e18
    have c21 := epI e18
    refine J_iload dX12_readNumber_147 rfl ?_
    obtain ⟨g22, H⟩ := gd H
    cases H
    exact J_rZ dX12_readNumber_149 rfl g22
noncomputable def MX12_readNumber_134 (h : Hp) (v0 : Nat) (v3 : Int32) : Option (Int32 × Hp) :=
  MX12_readNumber_135 h v0 v3 (0 : Int32)
set_option maxRecDepth 100000 in
set_option maxHeartbeats 8000000 in
theorem kX12_readNumber_134 {d : Nat} {h : Hp} {v0 : Nat} {v3 : Int32} {r : Int32} {h9 : Hp} (H : MX12_readNumber_134 h v0 v3 = some (r, h9)) : J (d + 1) YX12_readNumber 134 [.ref v0, Value.null, Value.null, .int v3, Value.null] [] h (oI r) h9 := by
  unfold MX12_readNumber_134 at H
  refine J_iconst (0 : Int32) dX12_readNumber_134 kc_0 ?_
  exact J_dr (kX12_readNumber_135 H ) ⟨rfl, ⟨rfl, trivial⟩⟩
noncomputable def MX12_readNumber_100 (h : Hp) (v0 : Nat) (v1 : Int32) (v2 : Int32) (v3 : Int32) : Option (Int32 × Hp) :=
  gg (β := (Int32 × Hp)) (kd h v0 = 11) <|
  if (gI h v0 8) ≤ v3 then
    MX12_readNumber_134 h v0 v3
  else
    if (4 : Int32) < ((gI h v0 8) - v3) then
      MX12_readNumber_134 h v0 v3
    else
      Option.bind (α := Int32) (β := (Int32 × Hp)) (MX12_isIn h (gI h v0 11) v1 v2) fun (t25 : Int32) =>
      if t25 = 0 then
        MX12_readNumber_134 h v0 v3
      else
        MX12_readNumber_135 h v0 v3 (1 : Int32)
set_option maxRecDepth 100000 in
set_option maxHeartbeats 8000000 in
theorem kX12_readNumber_100 {d : Nat} {h : Hp} {v0 : Nat} {v1 : Int32} {v2 : Int32} {v3 : Int32} {r : Int32} {h9 : Hp} (H : MX12_readNumber_100 h v0 v1 v2 v3 = some (r, h9)) : J (d + 1) YX12_readNumber 100 [.ref v0, .int v1, .int v2, .int v3, Value.null] [] h (oI r) h9 := by
  unfold MX12_readNumber_100 at H
  refine J_aload_n 0 dX12_readNumber_100 rfl rfl ?_
  obtain ⟨g12, H⟩ := gd H
  refine J_getI 11 8 dX12_readNumber_101 g12 flX12_137 rfl ?_
  refine J_iload_n 3 dX12_readNumber_104 rfl rfl ?_
  refine J_icmp_le 134 dX12_readNumber_105 rfl (fun q13 => ?_) (fun q13 => ?_)
  · replace H := br1 q13 H
    exact J_dr (kX12_readNumber_134 H ) ⟨rfl, ⟨rfl, trivial⟩⟩
  · replace H := br0 q13 H
    refine J_aload_n 0 dX12_readNumber_108 rfl rfl ?_
    refine J_getI 11 8 dX12_readNumber_109 g12 flX12_137 rfl ?_
    refine J_iload_n 3 dX12_readNumber_112 rfl rfl ?_
    refine J_isub dX12_readNumber_113 ?_
    refine J_iconst (4 : Int32) dX12_readNumber_114 kc_4 ?_
    refine J_icmp_gt 134 dX12_readNumber_115 rfl (fun q23 => ?_) (fun q23 => ?_)
    · replace H := br1 q23 H
      exact J_dr (kX12_readNumber_134 H ) ⟨rfl, ⟨rfl, trivial⟩⟩
    · replace H := br0 q23 H
      refine J_aload_n 0 dX12_readNumber_118 rfl rfl ?_
      refine J_getI 11 11 dX12_readNumber_119 g12 flX12_181 rfl ?_
      refine J_iload_n 1 dX12_readNumber_122 rfl rfl ?_
      refine J_iload_n 2 dX12_readNumber_123 rfl rfl ?_
      obtain ⟨t25, e24, H⟩ := bd H
      refine J_cS (as := [.int (gI h v0 11), .int v1, .int v2]) YX12_isIn 3 dX12_readNumber_124 moX12_isIn msX12_isIn mlX12_157 (okX12_isIn (d := d) e24) rfl rfl [] rfl rfl (st2 := [.int t25]) rfl ?_
      refine J_if_eq 134 dX12_readNumber_127 rfl (fun q26 => ?_) (fun q26 => ?_)
      · replace H := br1 q26 H
        exact J_dr (kX12_readNumber_134 H ) ⟨rfl, ⟨rfl, trivial⟩⟩
      · replace H := br0 q26 H
        refine J_iconst (1 : Int32) dX12_readNumber_130 kc_1 ?_
        refine J_goto 135 dX12_readNumber_131 rfl ?_
        exact J_dr (kX12_readNumber_135 H ) ⟨rfl, ⟨rfl, trivial⟩⟩
noncomputable def MX12_readNumber_87 (h : Hp) (v0 : Nat) (v1 : Int32) (v2 : Int32) (v3 : Int32) : Option ((Hp) ⊕ (Int32 × Hp)) :=
  gg (β := ((Hp) ⊕ (Int32 × Hp))) (kd h v0 = 11) <|
  lt (α := Hp) (β := Option ((Hp) ⊕ (Int32 × Hp))) (sI h v0 8 ((gI h v0 8) + (1 : Int32))) fun (h33 : Hp) =>
  some (.inl h33)
set_option maxRecDepth 100000 in
set_option maxHeartbeats 8000000 in
theorem kX12_readNumber_87 {d : Nat} {h : Hp} {v0 : Nat} {v1 : Int32} {v2 : Int32} {v3 : Int32} {r : Int32} {h9 : Hp} {x : ((Hp) ⊕ (Int32 × Hp))} (H : MX12_readNumber_87 h v0 v1 v2 v3 = some x) (hb0 : ∀ s : Hp, x = .inl s → J (d + 1) YX12_readNumber 14 [.ref v0, .int v1, .int v2, .int v3, Value.null] [] s (oI r) h9) (hx : ∀ z : (Int32 × Hp), x = .inr (z) → z = (r, h9)) : J (d + 1) YX12_readNumber 87 [.ref v0, .int v1, .int v2, .int v3, Value.null] [] h (oI r) h9 := by
  unfold MX12_readNumber_87 at H
  refine J_aload_n 0 dX12_readNumber_87 rfl rfl ?_
  refine J_dup dX12_readNumber_88 rfl ?_
  obtain ⟨g32, H⟩ := gd H
  refine J_getI 11 8 dX12_readNumber_89 g32 flX12_137 rfl ?_
  refine J_iconst (1 : Int32) dX12_readNumber_92 kc_1 ?_
  refine J_iadd dX12_readNumber_93 ?_
  obtain ⟨h33, e34, H⟩ := lt_el H
  refine J_pI 11 8 dX12_readNumber_94 g32 flX12_137 rfl rfl e34 ?_
  have c35 := ekI e34
  have c36 := elI e34
  have c37 := epI e34
  refine J_goto 14 dX12_readNumber_97 rfl ?_
  cases H
  exact J_dr (hb0 _ rfl) ⟨rfl, ⟨rfl, ⟨rfl, ⟨rfl, trivial⟩⟩⟩⟩
noncomputable def BX12_readNumber_14 (h : Hp) (v0 : Nat) (v1 : Int32) (v2 : Int32) (v3 : Int32) : Option ((Hp) ⊕ (Int32 × Hp)) :=
  gg (β := ((Hp) ⊕ (Int32 × Hp))) (kd h v0 = 11) <|
  if (gI h v0 7) ≤ (gI h v0 8) then
    up1 (MX12_readNumber_100 h v0 v1 v2 v3)
  else
    gg (β := ((Hp) ⊕ (Int32 × Hp))) (kd h (gP h v0 5) = 20) <|
    gg (β := ((Hp) ⊕ (Int32 × Hp))) (inB (gI h v0 8) (ln h (gP h v0 5)) = true) <|
    if (gI h (gP h v0 5) (gI h v0 8).toNatClampNeg) < (48 : Int32) then
      up1 (MX12_readNumber_100 h v0 v1 v2 v3)
    else
      if (57 : Int32) < (gI h (gP h v0 5) (gI h v0 8).toNatClampNeg) then
        up1 (MX12_readNumber_100 h v0 v1 v2 v3)
      else
        if (4 : Int32) ≤ ((gI h v0 8) - v3) then
          MX12_readNumber_87 h v0 v1 v2 v3
        else
          lt (α := Hp) (β := Option ((Hp) ⊕ (Int32 × Hp))) (sI h v0 11 ((((10 : Int32) * (gI h v0 11)) + (gI h (gP h v0 5) (gI h v0 8).toNatClampNeg)) - (48 : Int32))) fun (h38 : Hp) =>
          MX12_readNumber_87 h38 v0 v1 v2 v3
set_option maxRecDepth 100000 in
set_option maxHeartbeats 8000000 in
theorem bX12_readNumber_14 {d : Nat} {h : Hp} {v0 : Nat} {v1 : Int32} {v2 : Int32} {v3 : Int32} {r : Int32} {h9 : Hp} {x : ((Hp) ⊕ (Int32 × Hp))} (H : BX12_readNumber_14 h v0 v1 v2 v3 = some x) (hb0 : ∀ s : Hp, x = .inl s → J (d + 1) YX12_readNumber 14 [.ref v0, .int v1, .int v2, .int v3, Value.null] [] s (oI r) h9) (hx : ∀ z : (Int32 × Hp), x = .inr (z) → z = (r, h9)) : J (d + 1) YX12_readNumber 14 [.ref v0, .int v1, .int v2, .int v3, Value.null] [] h (oI r) h9 := by
  unfold BX12_readNumber_14 at H
  refine J_aload_n 0 dX12_readNumber_14 rfl rfl ?_
  obtain ⟨g10, H⟩ := gd H
  refine J_getI 11 8 dX12_readNumber_15 g10 flX12_137 rfl ?_
  refine J_aload_n 0 dX12_readNumber_18 rfl rfl ?_
  refine J_getI 11 7 dX12_readNumber_19 g10 flX12_134 rfl ?_
  refine J_icmp_ge 100 dX12_readNumber_22 rfl (fun q11 => ?_) (fun q11 => ?_)
  · replace H := br1 q11 H
    obtain ⟨y0, H90, rfl⟩ := up1_el H
    replace H := H90
    obtain rfl := hx _ rfl
    exact J_dr (kX12_readNumber_100 H ) ⟨rfl, ⟨rfl, ⟨rfl, ⟨rfl, trivial⟩⟩⟩⟩
  · replace H := br0 q11 H
    refine J_aload_n 0 dX12_readNumber_25 rfl rfl ?_
    refine J_gP 11 5 dX12_readNumber_26 g10 flX12_20 rfl rfl ?_
    refine J_aload_n 0 dX12_readNumber_29 rfl rfl ?_
    refine J_getI 11 8 dX12_readNumber_30 g10 flX12_137 rfl ?_
    obtain ⟨g27, H⟩ := gd H
    obtain ⟨g28, H⟩ := gd H
    refine J_iald dX12_readNumber_33 g27 (inB_ok g28) ?_
    refine J_bipush (48 : Int32) dX12_readNumber_34 kb_48 ?_
    refine J_icmp_lt 100 dX12_readNumber_36 rfl (fun q29 => ?_) (fun q29 => ?_)
    · replace H := br1 q29 H
      obtain ⟨y0, H90, rfl⟩ := up1_el H
      replace H := H90
      obtain rfl := hx _ rfl
      exact J_dr (kX12_readNumber_100 H ) ⟨rfl, ⟨rfl, ⟨rfl, ⟨rfl, trivial⟩⟩⟩⟩
    · replace H := br0 q29 H
      refine J_aload_n 0 dX12_readNumber_39 rfl rfl ?_
      refine J_gP 11 5 dX12_readNumber_40 g10 flX12_20 rfl rfl ?_
      refine J_aload_n 0 dX12_readNumber_43 rfl rfl ?_
      refine J_getI 11 8 dX12_readNumber_44 g10 flX12_137 rfl ?_
      refine J_iald dX12_readNumber_47 g27 (inB_ok g28) ?_
      refine J_bipush (57 : Int32) dX12_readNumber_48 kb_57 ?_
      refine J_icmp_gt 100 dX12_readNumber_50 rfl (fun q30 => ?_) (fun q30 => ?_)
      · replace H := br1 q30 H
        obtain ⟨y0, H90, rfl⟩ := up1_el H
        replace H := H90
        obtain rfl := hx _ rfl
        exact J_dr (kX12_readNumber_100 H ) ⟨rfl, ⟨rfl, ⟨rfl, ⟨rfl, trivial⟩⟩⟩⟩
      · replace H := br0 q30 H
        refine J_aload_n 0 dX12_readNumber_53 rfl rfl ?_
        refine J_getI 11 8 dX12_readNumber_54 g10 flX12_137 rfl ?_
        refine J_iload_n 3 dX12_readNumber_57 rfl rfl ?_
        refine J_isub dX12_readNumber_58 ?_
        refine J_iconst (4 : Int32) dX12_readNumber_59 kc_4 ?_
        refine J_icmp_ge 87 dX12_readNumber_60 rfl (fun q31 => ?_) (fun q31 => ?_)
        · replace H := br1 q31 H
          exact J_dr (kX12_readNumber_87 H hb0 hx) ⟨rfl, ⟨rfl, ⟨rfl, ⟨rfl, trivial⟩⟩⟩⟩
        · replace H := br0 q31 H
          refine J_aload_n 0 dX12_readNumber_63 rfl rfl ?_
          refine J_bipush (10 : Int32) dX12_readNumber_64 kb_10 ?_
          refine J_aload_n 0 dX12_readNumber_66 rfl rfl ?_
          refine J_getI 11 11 dX12_readNumber_67 g10 flX12_181 rfl ?_
          refine J_imul dX12_readNumber_70 ?_
          refine J_aload_n 0 dX12_readNumber_71 rfl rfl ?_
          refine J_gP 11 5 dX12_readNumber_72 g10 flX12_20 rfl rfl ?_
          refine J_aload_n 0 dX12_readNumber_75 rfl rfl ?_
          refine J_getI 11 8 dX12_readNumber_76 g10 flX12_137 rfl ?_
          refine J_iald dX12_readNumber_79 g27 (inB_ok g28) ?_
          refine J_iadd dX12_readNumber_80 ?_
          refine J_bipush (48 : Int32) dX12_readNumber_81 kb_48 ?_
          refine J_isub dX12_readNumber_83 ?_
          obtain ⟨h38, e39, H⟩ := lt_el H
          refine J_pI 11 11 dX12_readNumber_84 g10 flX12_181 rfl rfl e39 ?_
          have c40 := ekI e39
          have c41 := elI e39
          have c42 := epI e39
          exact J_dr (kX12_readNumber_87 H hb0 hx) ⟨rfl, ⟨rfl, ⟨rfl, ⟨rfl, trivial⟩⟩⟩⟩
noncomputable def MX12_readNumber_14 (h : Hp) (v0 : Nat) (v1 : Int32) (v2 : Int32) (v3 : Int32) : Option (Int32 × Hp) := it (fun q : Hp => BX12_readNumber_14 q v0 v1 v2 v3) (h)
set_option maxRecDepth 100000 in
set_option maxHeartbeats 8000000 in
theorem kX12_readNumber_14 {d : Nat} {h : Hp} {v0 : Nat} {v1 : Int32} {v2 : Int32} {v3 : Int32} {r : Int32} {h9 : Hp} (H : MX12_readNumber_14 h v0 v1 v2 v3 = some (r, h9)) : J (d + 1) YX12_readNumber 14 [.ref v0, .int v1, .int v2, .int v3, Value.null] [] h (oI r) h9 := by
  unfold MX12_readNumber_14 at H
  refine it_J (G := (fun q : Hp => J (d + 1) YX12_readNumber 14 [.ref v0, .int v1, .int v2, .int v3, Value.null] [] q (oI r) h9)) (Q := (fun y : (Int32 × Hp) => y = (r, h9))) (fun q x Hq hm => ?_) H rfl
  exact bX12_readNumber_14 Hq (fun s hs => by subst hs; exact hm) (fun z hz => by subst hz; exact hm)
noncomputable def MX12_readNumber (h : Hp) (v0 : Nat) (v1 : Int32) (v2 : Int32) : Option (Int32 × Hp) :=
  gg (β := (Int32 × Hp)) (kd h v0 = 11) <|
  Option.bind (α := Hp) (β := (Int32 × Hp)) (MX12_blanks h v0) fun (h3 : Hp) =>
  gg (β := (Int32 × Hp)) (kd h3 v0 = 11) <|
  lt (α := Hp) (β := Option (Int32 × Hp)) (sI h3 v0 11 (0 : Int32)) fun (h5 : Hp) =>
  MX12_readNumber_14 h5 v0 v1 v2 (gI h3 v0 8)
set_option maxRecDepth 100000 in
set_option maxHeartbeats 8000000 in
theorem eX12_readNumber {d : Nat} {h : Hp} {v0 : Nat} {v1 : Int32} {v2 : Int32} {r : Int32} {h9 : Hp} (H : MX12_readNumber h v0 v1 v2 = some (r, h9)) : J (d + 1) YX12_readNumber 0 [.ref v0, .int v1, .int v2, Value.null, Value.null] [] h (oI r) h9 := by
  unfold MX12_readNumber at H
  refine J_aload_n 0 dX12_readNumber_0 rfl rfl ?_
  obtain ⟨g2, H⟩ := gd H
  obtain ⟨h3, e1, H⟩ := bd H
  refine J_cV (as := []) 11 YX12_blanks 0 dX12_readNumber_1 moX12_blanks mvX12_blanks mlX12_147 g2 rfl rfl (okX12_blanks (d := d) e1) rfl rfl [] rfl rfl (st2 := []) rfl ?_
  refine J_aload_n 0 dX12_readNumber_4 rfl rfl ?_
  obtain ⟨g4, H⟩ := gd H
  refine J_getI 11 8 dX12_readNumber_5 g4 flX12_137 rfl ?_
  refine J_istore_n 3 dX12_readNumber_8 rfl (by decide) (ls' := [.ref v0, .int v1, .int v2, .int (gI h3 v0 8), Value.null]) rfl ?_
  refine J_aload_n 0 dX12_readNumber_9 rfl rfl ?_
  refine J_iconst (0 : Int32) dX12_readNumber_10 kc_0 ?_
  obtain ⟨h5, e6, H⟩ := lt_el H
  refine J_pI 11 11 dX12_readNumber_11 g4 flX12_181 rfl rfl e6 ?_
  have c7 := ekI e6
  have c8 := elI e6
  have c9 := epI e6
  exact J_dr (kX12_readNumber_14 H ) ⟨rfl, ⟨rfl, ⟨rfl, ⟨rfl, trivial⟩⟩⟩⟩
theorem okX12_readNumber {d : Nat} {h : Hp} {v0 : Nat} {v1 : Int32} {v2 : Int32} {r : Int32} {h9 : Hp} (H : MX12_readNumber h v0 v1 v2 = some (r, h9)) : CT (d + 1) YX12_readNumber [.ref v0, .int v1, .int v2] h (oI r) h9 := CT_of (by decide +kernel) (Nat.le_of_ble_eq_true rfl) (eX12_readNumber H)
noncomputable def MX12_tagHere (h : Hp) (v0 : Nat) : Option (Int32 × Hp) :=
  gg (β := (Int32 × Hp)) (kd h v0 = 11) <|
  b2 (α := Int32) (β := Hp) (γ := (Int32 × Hp)) (MX12_takes h v0 8) fun (t4 : Int32) (h3 : Hp) =>
  if t4 = 0 then
    gg (β := (Int32 × Hp)) (kd h3 v0 = 11) <|
    b2 (α := Int32) (β := Hp) (γ := (Int32 × Hp)) (MX12_takes h3 v0 10) fun (t9 : Int32) (h8 : Hp) =>
    if t9 = 0 then
      gg (β := (Int32 × Hp)) (kd h8 v0 = 11) <|
      b2 (α := Int32) (β := Hp) (γ := (Int32 × Hp)) (MX12_takes h8 v0 4) fun (t14 : Int32) (h13 : Hp) =>
      if t14 = 0 then
        some ((-1 : Int32), h13)
      else
        some ((2 : Int32), h13)
    else
      some ((1 : Int32), h8)
  else
    some ((0 : Int32), h3)
set_option maxRecDepth 100000 in
set_option maxHeartbeats 8000000 in
theorem eX12_tagHere {d : Nat} {h : Hp} {v0 : Nat} {r : Int32} {h9 : Hp} (H : MX12_tagHere h v0 = some (r, h9)) : J (d + 5) YX12_tagHere 0 [.ref v0] [] h (oI r) h9 := by
  unfold MX12_tagHere at H
  refine J_aload_n 0 dX12_tagHere_0 rfl rfl ?_
  refine J_lS (tx := "head") dX12_tagHere_1 8 (by decide +kernel) ?_
  obtain ⟨g2, H⟩ := gd H
  obtain ⟨t4, h3, e1, H⟩ := b2_el H
  refine J_cV (as := [.retAddr 8]) 11 YX12_takes 1 dX12_tagHere_3 moX12_takes mvX12_takes mlX12_189 g2 rfl rfl (okX12_takes (d := d) e1) rfl rfl [] rfl rfl (st2 := [.int t4]) rfl ?_
  refine J_if_eq 13 dX12_tagHere_6 rfl (fun q5 => ?_) (fun q5 => ?_)
  · replace H := br1 q5 H
    refine J_aload_n 0 dX12_tagHere_13 rfl rfl ?_
    refine J_lS (tx := "late") dX12_tagHere_14 10 (by decide +kernel) ?_
    obtain ⟨g7, H⟩ := gd H
    obtain ⟨t9, h8, e6, H⟩ := b2_el H
    refine J_cV (as := [.retAddr 10]) 11 YX12_takes 1 dX12_tagHere_16 moX12_takes mvX12_takes mlX12_189 g7 rfl rfl (okX12_takes (d := d) e6) rfl rfl [] rfl rfl (st2 := [.int t9]) rfl ?_
    refine J_if_eq 26 dX12_tagHere_19 rfl (fun q10 => ?_) (fun q10 => ?_)
    · replace H := br1 q10 H
      refine J_aload_n 0 dX12_tagHere_26 rfl rfl ?_
      refine J_lS (tx := "corrected") dX12_tagHere_27 4 (by decide +kernel) ?_
      obtain ⟨g12, H⟩ := gd H
      obtain ⟨t14, h13, e11, H⟩ := b2_el H
      refine J_cV (as := [.retAddr 4]) 11 YX12_takes 1 dX12_tagHere_29 moX12_takes mvX12_takes mlX12_189 g12 rfl rfl (okX12_takes (d := d) e11) rfl rfl [] rfl rfl (st2 := [.int t14]) rfl ?_
      refine J_if_eq 39 dX12_tagHere_32 rfl (fun q15 => ?_) (fun q15 => ?_)
      · replace H := br1 q15 H
        refine J_iconst (-1 : Int32) dX12_tagHere_39 kc_m1 ?_
        cases H
        exact J_iretI dX12_tagHere_40 rfl
      · replace H := br0 q15 H
        refine J_iconst (2 : Int32) dX12_tagHere_35 kc_2 ?_
        refine J_goto 40 dX12_tagHere_36 rfl ?_
        cases H
        exact J_iretI dX12_tagHere_40 rfl
    · replace H := br0 q10 H
      refine J_iconst (1 : Int32) dX12_tagHere_22 kc_1 ?_
      refine J_goto 40 dX12_tagHere_23 rfl ?_
      cases H
      exact J_iretI dX12_tagHere_40 rfl
  · replace H := br0 q5 H
    refine J_iconst (0 : Int32) dX12_tagHere_9 kc_0 ?_
    refine J_goto 40 dX12_tagHere_10 rfl ?_
    cases H
    exact J_iretI dX12_tagHere_40 rfl
theorem okX12_tagHere {d : Nat} {h : Hp} {v0 : Nat} {r : Int32} {h9 : Hp} (H : MX12_tagHere h v0 = some (r, h9)) : CT (d + 5) YX12_tagHere [.ref v0] h (oI r) h9 := CT_of (by decide +kernel) (Nat.le_of_ble_eq_true rfl) (eX12_tagHere H)
def YgX12_readAny (t : Nat) : Mt := if t = 0 then YX12_readAny else if t = 1 then YX12_readAtom else YX12_readAll
noncomputable def BX12_readAny_9 (rc : Nat → Hp → Nat → Option (Int32 × Hp)) (h : Hp) (v0 : Nat) : Option ((Hp) ⊕ (Int32 × Hp)) :=
  gg (β := ((Hp) ⊕ (Int32 × Hp))) (kd h v0 = 11) <|
  b2 (α := Int32) (β := Hp) (γ := ((Hp) ⊕ (Int32 × Hp))) (MX12_takes h v0 16) fun (t9 : Int32) (h8 : Hp) =>
  if t9 = 0 then
    some (.inr (((1 : Int32), h8)))
  else
    gg (β := ((Hp) ⊕ (Int32 × Hp))) (kd h8 v0 = 11) <|
    b2 (α := Int32) (β := Hp) (γ := ((Hp) ⊕ (Int32 × Hp))) (rc 2 h8 v0) fun (t14 : Int32) (h13 : Hp) =>
    if t14 = 0 then
      some (.inr (((0 : Int32), h13)))
    else
      gg (β := ((Hp) ⊕ (Int32 × Hp))) (kd h13 v0 = 11) <|
      Option.bind (α := Hp) (β := ((Hp) ⊕ (Int32 × Hp))) (MX12_act h13 v0 (6 : Int32)) fun (h18 : Hp) =>
      some (.inl h18)
set_option maxRecDepth 100000 in
set_option maxHeartbeats 8000000 in
theorem bX12_readAny_9 {d u : Nat} {rc : Nat → Hp → Nat → Option (Int32 × Hp)} {h : Hp} {v0 : Nat} {r : Int32} {h9 : Hp} {x : ((Hp) ⊕ (Int32 × Hp))} (hrc : ∀ (t : Nat) (h : Hp) (a0 : Nat) (r1 : Int32) (h1 : Hp), rc t h a0 = some (r1, h1) → CT (d + u + 5) (YgX12_readAny t) [.ref a0] h (oI r1) h1) (H : BX12_readAny_9 rc h v0 = some x) (hb0 : ∀ s : Hp, x = .inl s → J (d + u + 5 + 1) YX12_readAny 9 [.ref v0] [] s (oI r) h9) (hx : ∀ z : (Int32 × Hp), x = .inr (z) → z = (r, h9)) : J (d + u + 5 + 1) YX12_readAny 9 [.ref v0] [] h (oI r) h9 := by
  unfold BX12_readAny_9 at H
  refine J_aload_n 0 dX12_readAny_9 rfl rfl ?_
  refine J_lS (tx := "or") dX12_readAny_10 16 (by decide +kernel) ?_
  obtain ⟨g7, H⟩ := gd H
  obtain ⟨t9, h8, e6, H⟩ := b2_el H
  refine J_cV (as := [.retAddr 16]) 11 YX12_takes 1 dX12_readAny_12 moX12_takes mvX12_takes mlX12_189 g7 rfl rfl (okX12_takes (d := d + u + 1) e6) rfl rfl [] rfl rfl (st2 := [.int t9]) rfl ?_
  refine J_if_eq 36 dX12_readAny_15 rfl (fun q10 => ?_) (fun q10 => ?_)
  · replace H := br1 q10 H
    refine J_iconst (1 : Int32) dX12_readAny_36 kc_1 ?_
    cases H
    cases hx _ rfl
    exact J_rZ dX12_readAny_37 rfl rfl
  · replace H := br0 q10 H
    refine J_aload_n 0 dX12_readAny_18 rfl rfl ?_
    obtain ⟨g12, H⟩ := gd H
    obtain ⟨t14, h13, e11, H⟩ := b2_el H
    refine J_cV (as := []) 11 YX12_readAll 0 dX12_readAny_19 moX12_readAll mvX12_readAll mlX12_238 g12 rfl rfl (hrc 2 _ _ _ _ e11) rfl rfl [] rfl rfl (st2 := [.int t14]) rfl ?_
    refine J_if_ne 27 dX12_readAny_22 rfl (fun q15 => ?_) (fun q15 => ?_)
    · replace H := br0 q15 H
      refine J_aload_n 0 dX12_readAny_27 rfl rfl ?_
      refine J_bipush (6 : Int32) dX12_readAny_28 kb_6 ?_
      obtain ⟨g17, H⟩ := gd H
      obtain ⟨h18, e16, H⟩ := bd H
      refine J_cV (as := [.int (6 : Int32)]) 11 YX12_act 1 dX12_readAny_30 moX12_act mvX12_act mlX12_220 g17 rfl rfl (okX12_act (d := d + u + 5) e16) rfl rfl [] rfl rfl (st2 := []) rfl ?_
      refine J_goto 9 dX12_readAny_33 rfl ?_
      cases H
      exact J_dr (hb0 _ rfl) ⟨rfl, trivial⟩
    · replace H := br1 q15 H
      refine J_iconst (0 : Int32) dX12_readAny_25 kc_0 ?_
      cases H
      cases hx _ rfl
      exact J_rZ dX12_readAny_26 rfl rfl
noncomputable def MX12_readAny_9 (rc : Nat → Hp → Nat → Option (Int32 × Hp)) (h : Hp) (v0 : Nat) : Option (Int32 × Hp) := it (fun q : Hp => BX12_readAny_9 rc q v0) (h)
set_option maxRecDepth 100000 in
set_option maxHeartbeats 8000000 in
theorem kX12_readAny_9 {d u : Nat} {rc : Nat → Hp → Nat → Option (Int32 × Hp)} {h : Hp} {v0 : Nat} {r : Int32} {h9 : Hp} (hrc : ∀ (t : Nat) (h : Hp) (a0 : Nat) (r1 : Int32) (h1 : Hp), rc t h a0 = some (r1, h1) → CT (d + u + 5) (YgX12_readAny t) [.ref a0] h (oI r1) h1) (H : MX12_readAny_9 rc h v0 = some (r, h9)) : J (d + u + 5 + 1) YX12_readAny 9 [.ref v0] [] h (oI r) h9 := by
  unfold MX12_readAny_9 at H
  refine it_J (G := (fun q : Hp => J (d + u + 5 + 1) YX12_readAny 9 [.ref v0] [] q (oI r) h9)) (Q := (fun y : (Int32 × Hp) => y = (r, h9))) (fun q x Hq hm => ?_) H rfl
  exact bX12_readAny_9 hrc Hq (fun s hs => by subst hs; exact hm) (fun z hz => by subst hz; exact hm)
noncomputable def BX12_readAny (rc : Nat → Hp → Nat → Option (Int32 × Hp)) (h : Hp) (v0 : Nat) : Option (Int32 × Hp) :=
  gg (β := (Int32 × Hp)) (kd h v0 = 11) <|
  b2 (α := Int32) (β := Hp) (γ := (Int32 × Hp)) (rc 2 h v0) fun (t4 : Int32) (h3 : Hp) =>
  if t4 = 0 then
    some ((0 : Int32), h3)
  else
    MX12_readAny_9 rc h3 v0
set_option maxRecDepth 100000 in
set_option maxHeartbeats 8000000 in
theorem eX12_readAny {d u : Nat} {rc : Nat → Hp → Nat → Option (Int32 × Hp)} {h : Hp} {v0 : Nat} {r : Int32} {h9 : Hp} (hrc : ∀ (t : Nat) (h : Hp) (a0 : Nat) (r1 : Int32) (h1 : Hp), rc t h a0 = some (r1, h1) → CT (d + u + 5) (YgX12_readAny t) [.ref a0] h (oI r1) h1) (H : BX12_readAny rc h v0 = some (r, h9)) : J (d + u + 5 + 1) YX12_readAny 0 [.ref v0] [] h (oI r) h9 := by
  unfold BX12_readAny at H
  refine J_aload_n 0 dX12_readAny_0 rfl rfl ?_
  obtain ⟨g2, H⟩ := gd H
  obtain ⟨t4, h3, e1, H⟩ := b2_el H
  refine J_cV (as := []) 11 YX12_readAll 0 dX12_readAny_1 moX12_readAll mvX12_readAll mlX12_238 g2 rfl rfl (hrc 2 _ _ _ _ e1) rfl rfl [] rfl rfl (st2 := [.int t4]) rfl ?_
  refine J_if_ne 9 dX12_readAny_4 rfl (fun q5 => ?_) (fun q5 => ?_)
  · replace H := br0 q5 H
    exact J_dr (kX12_readAny_9 hrc H ) ⟨rfl, trivial⟩
  · replace H := br1 q5 H
    refine J_iconst (0 : Int32) dX12_readAny_7 kc_0 ?_
    cases H
    exact J_rZ dX12_readAny_8 rfl rfl
noncomputable def MX12_readAtom_162 (rc : Nat → Hp → Nat → Option (Int32 × Hp)) (h : Hp) (v0 : Nat) : Option (Int32 × Hp) :=
  gg (β := (Int32 × Hp)) (kd h v0 = 11) <|
  b2 (α := Int32) (β := Hp) (γ := (Int32 × Hp)) (MX12_fails h v0) fun (t33 : Int32) (h32 : Hp) =>
  gg (β := (Int32 × Hp)) (zOk t33 = true) <|
  some (t33, h32)
set_option maxRecDepth 100000 in
set_option maxHeartbeats 8000000 in
theorem kX12_readAtom_162 {d u : Nat} {rc : Nat → Hp → Nat → Option (Int32 × Hp)} {h : Hp} {v0 : Nat} {r : Int32} {h9 : Hp} (hrc : ∀ (t : Nat) (h : Hp) (a0 : Nat) (r1 : Int32) (h1 : Hp), rc t h a0 = some (r1, h1) → CT (d + u + 5) (YgX12_readAny t) [.ref a0] h (oI r1) h1) (H : MX12_readAtom_162 rc h v0 = some (r, h9)) : J (d + u + 5 + 1) YX12_readAtom 162 [.ref v0, Value.null, Value.null, Value.null, Value.null, Value.null, Value.null] [] h (oI r) h9 := by
  unfold MX12_readAtom_162 at H
  refine J_aload_n 0 dX12_readAtom_162 rfl rfl ?_
  obtain ⟨g31, H⟩ := gd H
  obtain ⟨t33, h32, e30, H⟩ := b2_el H
  refine J_cV (as := []) 11 YX12_fails 0 dX12_readAtom_163 moX12_fails mvX12_fails mlX12_223 g31 rfl rfl (okX12_fails (d := d + u + 5) e30) rfl rfl [] rfl rfl (st2 := [.int t33]) rfl ?_
  obtain ⟨g34, H⟩ := gd H
  cases H
  exact J_rZ dX12_readAtom_166 rfl g34
noncomputable def MX12_readAtom_177 (rc : Nat → Hp → Nat → Option (Int32 × Hp)) (h : Hp) (v0 : Nat) : Option (Int32 × Hp) :=
  gg (β := (Int32 × Hp)) (kd h v0 = 11) <|
  lt (α := Hp) (β := Option (Int32 × Hp)) (sI h v0 10 ((gI h v0 10) - (1 : Int32))) fun (h44 : Hp) =>
  some ((1 : Int32), h44)
set_option maxRecDepth 100000 in
set_option maxHeartbeats 8000000 in
theorem kX12_readAtom_177 {d u : Nat} {rc : Nat → Hp → Nat → Option (Int32 × Hp)} {h : Hp} {v0 : Nat} {r : Int32} {h9 : Hp} (hrc : ∀ (t : Nat) (h : Hp) (a0 : Nat) (r1 : Int32) (h1 : Hp), rc t h a0 = some (r1, h1) → CT (d + u + 5) (YgX12_readAny t) [.ref a0] h (oI r1) h1) (H : MX12_readAtom_177 rc h v0 = some (r, h9)) : J (d + u + 5 + 1) YX12_readAtom 177 [.ref v0, Value.null, Value.null, Value.null, Value.null, Value.null, Value.null] [] h (oI r) h9 := by
  unfold MX12_readAtom_177 at H
  refine J_aload_n 0 dX12_readAtom_177 rfl rfl ?_
  refine J_dup dX12_readAtom_178 rfl ?_
  obtain ⟨g43, H⟩ := gd H
  refine J_getI 11 10 dX12_readAtom_179 g43 flX12_211 rfl ?_
  refine J_iconst (1 : Int32) dX12_readAtom_182 kc_1 ?_
  refine J_isub dX12_readAtom_183 ?_
  obtain ⟨h44, e45, H⟩ := lt_el H
  refine J_pI 11 10 dX12_readAtom_184 g43 flX12_211 rfl rfl e45 ?_
  have c46 := ekI e45
  have c47 := elI e45
  have c48 := epI e45
  refine J_iconst (1 : Int32) dX12_readAtom_187 kc_1 ?_
  cases H
  exact J_rZ dX12_readAtom_188 rfl rfl
noncomputable def MX12_readAtom_121 (rc : Nat → Hp → Nat → Option (Int32 × Hp)) (h : Hp) (v0 : Nat) (v2 : Int32) : Option (Int32 × Hp) :=
  if v2 = 0 then
    gg (β := (Int32 × Hp)) (kd h v0 = 11) <|
    Option.bind (α := Hp) (β := (Int32 × Hp)) (MX12_blanks h v0) fun (h27 : Hp) =>
    gg (β := (Int32 × Hp)) (kd h27 v0 = 11) <|
    if (gI h27 v0 7) ≤ (gI h27 v0 8) then
      MX12_readAtom_162 rc h27 v0
    else
      gg (β := (Int32 × Hp)) (kd h27 (gP h27 v0 5) = 20) <|
      gg (β := (Int32 × Hp)) (inB (gI h27 v0 8) (ln h27 (gP h27 v0 5)) = true) <|
      if (gI h27 (gP h27 v0 5) (gI h27 v0 8).toNatClampNeg) = (41 : Int32) then
        lt (α := Hp) (β := Option (Int32 × Hp)) (sI h27 v0 8 ((gI h27 v0 8) + (1 : Int32))) fun (h38 : Hp) =>
        MX12_readAtom_177 rc h38 v0
      else
        MX12_readAtom_162 rc h27 v0
  else
    gg (β := (Int32 × Hp)) (kd h v0 = 11) <|
    Option.bind (α := Hp) (β := (Int32 × Hp)) (MX12_act h v0 (4 : Int32)) fun (h51 : Hp) =>
    MX12_readAtom_177 rc h51 v0
set_option maxRecDepth 100000 in
set_option maxHeartbeats 8000000 in
theorem kX12_readAtom_121 {d u : Nat} {rc : Nat → Hp → Nat → Option (Int32 × Hp)} {h : Hp} {v0 : Nat} {v2 : Int32} {r : Int32} {h9 : Hp} (hrc : ∀ (t : Nat) (h : Hp) (a0 : Nat) (r1 : Int32) (h1 : Hp), rc t h a0 = some (r1, h1) → CT (d + u + 5) (YgX12_readAny t) [.ref a0] h (oI r1) h1) (H : MX12_readAtom_121 rc h v0 v2 = some (r, h9)) : J (d + u + 5 + 1) YX12_readAtom 121 [.ref v0, Value.null, .int v2, Value.null, Value.null, Value.null, Value.null] [] h (oI r) h9 := by
  unfold MX12_readAtom_121 at H
  refine J_iload_n 2 dX12_readAtom_121 rfl rfl ?_
  refine J_if_eq 133 dX12_readAtom_122 rfl (fun q24 => ?_) (fun q24 => ?_)
  · replace H := br1 q24 H
    refine J_aload_n 0 dX12_readAtom_133 rfl rfl ?_
    obtain ⟨g26, H⟩ := gd H
    obtain ⟨h27, e25, H⟩ := bd H
    refine J_cV (as := []) 11 YX12_blanks 0 dX12_readAtom_134 moX12_blanks mvX12_blanks mlX12_147 g26 rfl rfl (okX12_blanks (d := d + u + 5) e25) rfl rfl [] rfl rfl (st2 := []) rfl ?_
    refine J_aload_n 0 dX12_readAtom_137 rfl rfl ?_
    obtain ⟨g28, H⟩ := gd H
    refine J_getI 11 8 dX12_readAtom_138 g28 flX12_137 rfl ?_
    refine J_aload_n 0 dX12_readAtom_141 rfl rfl ?_
    refine J_getI 11 7 dX12_readAtom_142 g28 flX12_134 rfl ?_
    refine J_icmp_ge 162 dX12_readAtom_145 rfl (fun q29 => ?_) (fun q29 => ?_)
    · replace H := br1 q29 H
      exact J_dr (kX12_readAtom_162 hrc H ) ⟨rfl, trivial⟩
    · replace H := br0 q29 H
      refine J_aload_n 0 dX12_readAtom_148 rfl rfl ?_
      refine J_gP 11 5 dX12_readAtom_149 g28 flX12_20 rfl rfl ?_
      refine J_aload_n 0 dX12_readAtom_152 rfl rfl ?_
      refine J_getI 11 8 dX12_readAtom_153 g28 flX12_137 rfl ?_
      obtain ⟨g35, H⟩ := gd H
      obtain ⟨g36, H⟩ := gd H
      refine J_iald dX12_readAtom_156 g35 (inB_ok g36) ?_
      refine J_bipush (41 : Int32) dX12_readAtom_157 kb_41 ?_
      refine J_icmp_eq 167 dX12_readAtom_159 rfl (fun q37 => ?_) (fun q37 => ?_)
      · replace H := br1 q37 H
        refine J_aload_n 0 dX12_readAtom_167 rfl rfl ?_
        refine J_dup dX12_readAtom_168 rfl ?_
        refine J_getI 11 8 dX12_readAtom_169 g28 flX12_137 rfl ?_
        refine J_iconst (1 : Int32) dX12_readAtom_172 kc_1 ?_
        refine J_iadd dX12_readAtom_173 ?_
        obtain ⟨h38, e39, H⟩ := lt_el H
        refine J_pI 11 8 dX12_readAtom_174 g28 flX12_137 rfl rfl e39 ?_
        have c40 := ekI e39
        have c41 := elI e39
        have c42 := epI e39
        exact J_dr (kX12_readAtom_177 hrc H ) ⟨rfl, trivial⟩
      · replace H := br0 q37 H
        exact J_dr (kX12_readAtom_162 hrc H ) ⟨rfl, trivial⟩
  · replace H := br0 q24 H
    refine J_aload_n 0 dX12_readAtom_125 rfl rfl ?_
    refine J_iconst (4 : Int32) dX12_readAtom_126 kc_4 ?_
    obtain ⟨g50, H⟩ := gd H
    obtain ⟨h51, e49, H⟩ := bd H
    refine J_cV (as := [.int (4 : Int32)]) 11 YX12_act 1 dX12_readAtom_127 moX12_act mvX12_act mlX12_220 g50 rfl rfl (okX12_act (d := d + u + 5) e49) rfl rfl [] rfl rfl (st2 := []) rfl ?_
    refine J_goto 177 dX12_readAtom_130 rfl ?_
    exact J_dr (kX12_readAtom_177 hrc H ) ⟨rfl, trivial⟩
noncomputable def MX12_readAtom_98 (rc : Nat → Hp → Nat → Option (Int32 × Hp)) (h : Hp) (v0 : Nat) (v2 : Int32) : Option (Int32 × Hp) :=
  if v2 = 0 then
    gg (β := (Int32 × Hp)) (kd h v0 = 11) <|
    b2 (α := Int32) (β := Hp) (γ := (Int32 × Hp)) (rc 0 h v0) fun (t22 : Int32) (h21 : Hp) =>
    if t22 = 0 then
      some ((0 : Int32), h21)
    else
      MX12_readAtom_121 rc h21 v0 v2
  else
    gg (β := (Int32 × Hp)) (kd h v0 = 11) <|
    b2 (α := Int32) (β := Hp) (γ := (Int32 × Hp)) (rc 1 h v0) fun (t55 : Int32) (h54 : Hp) =>
    if t55 = 0 then
      some ((0 : Int32), h54)
    else
      MX12_readAtom_121 rc h54 v0 v2
set_option maxRecDepth 100000 in
set_option maxHeartbeats 8000000 in
theorem kX12_readAtom_98 {d u : Nat} {rc : Nat → Hp → Nat → Option (Int32 × Hp)} {h : Hp} {v0 : Nat} {v2 : Int32} {r : Int32} {h9 : Hp} (hrc : ∀ (t : Nat) (h : Hp) (a0 : Nat) (r1 : Int32) (h1 : Hp), rc t h a0 = some (r1, h1) → CT (d + u + 5) (YgX12_readAny t) [.ref a0] h (oI r1) h1) (H : MX12_readAtom_98 rc h v0 v2 = some (r, h9)) : J (d + u + 5 + 1) YX12_readAtom 98 [.ref v0, Value.null, .int v2, Value.null, Value.null, Value.null, Value.null] [] h (oI r) h9 := by
  unfold MX12_readAtom_98 at H
  refine J_iload_n 2 dX12_readAtom_98 rfl rfl ?_
  refine J_if_eq 112 dX12_readAtom_99 rfl (fun q18 => ?_) (fun q18 => ?_)
  · replace H := br1 q18 H
    refine J_aload_n 0 dX12_readAtom_112 rfl rfl ?_
    obtain ⟨g20, H⟩ := gd H
    obtain ⟨t22, h21, e19, H⟩ := b2_el H
    refine J_cV (as := []) 11 YX12_readAny 0 dX12_readAtom_113 moX12_readAny mvX12_readAny mlX12_217 g20 rfl rfl (hrc 0 _ _ _ _ e19) rfl rfl [] rfl rfl (st2 := [.int t22]) rfl ?_
    refine J_if_ne 121 dX12_readAtom_116 rfl (fun q23 => ?_) (fun q23 => ?_)
    · replace H := br0 q23 H
      exact J_dr (kX12_readAtom_121 hrc H ) ⟨rfl, ⟨rfl, trivial⟩⟩
    · replace H := br1 q23 H
      refine J_iconst (0 : Int32) dX12_readAtom_119 kc_0 ?_
      cases H
      exact J_rZ dX12_readAtom_120 rfl rfl
  · replace H := br0 q18 H
    refine J_aload_n 0 dX12_readAtom_102 rfl rfl ?_
    obtain ⟨g53, H⟩ := gd H
    obtain ⟨t55, h54, e52, H⟩ := b2_el H
    refine J_cV (as := []) 11 YX12_readAtom 0 dX12_readAtom_103 moX12_readAtom mvX12_readAtom mlX12_214 g53 rfl rfl (hrc 1 _ _ _ _ e52) rfl rfl [] rfl rfl (st2 := [.int t55]) rfl ?_
    refine J_if_ne 121 dX12_readAtom_106 rfl (fun q56 => ?_) (fun q56 => ?_)
    · replace H := br0 q56 H
      exact J_dr (kX12_readAtom_121 hrc H ) ⟨rfl, ⟨rfl, trivial⟩⟩
    · replace H := br1 q56 H
      refine J_goto 119 dX12_readAtom_109 rfl ?_
      refine J_iconst (0 : Int32) dX12_readAtom_119 kc_0 ?_
      cases H
      exact J_rZ dX12_readAtom_120 rfl rfl
noncomputable def MX12_readAtom_59 (rc : Nat → Hp → Nat → Option (Int32 × Hp)) (h : Hp) (v0 : Nat) (v1 : Int32) (v2 : Int32) (v3 : Int32) : Option (Int32 × Hp) :=
  gg (β := (Int32 × Hp)) (kd h v0 = 11) <|
  if (gI h v0 10) = (5 : Int32) then
    lt (α := Hp) (β := Option (Int32 × Hp)) (sI h v0 9 v1) fun (h62 : Hp) =>
    some ((0 : Int32), h62)
  else
    lt (α := Hp) (β := Option (Int32 × Hp)) (sI h v0 10 ((gI h v0 10) + (1 : Int32))) fun (h12 : Hp) =>
    if v3 = 0 then
      MX12_readAtom_98 rc h12 v0 v2
    else
      lt (α := Hp) (β := Option (Int32 × Hp)) (sI h12 v0 8 ((gI h12 v0 8) + (1 : Int32))) fun (h57 : Hp) =>
      MX12_readAtom_98 rc h57 v0 v2
set_option maxRecDepth 100000 in
set_option maxHeartbeats 8000000 in
theorem kX12_readAtom_59 {d u : Nat} {rc : Nat → Hp → Nat → Option (Int32 × Hp)} {h : Hp} {v0 : Nat} {v1 : Int32} {v2 : Int32} {v3 : Int32} {r : Int32} {h9 : Hp} (hrc : ∀ (t : Nat) (h : Hp) (a0 : Nat) (r1 : Int32) (h1 : Hp), rc t h a0 = some (r1, h1) → CT (d + u + 5) (YgX12_readAny t) [.ref a0] h (oI r1) h1) (H : MX12_readAtom_59 rc h v0 v1 v2 v3 = some (r, h9)) : J (d + u + 5 + 1) YX12_readAtom 59 [.ref v0, .int v1, .int v2, .int v3, Value.null, Value.null, Value.null] [] h (oI r) h9 := by
  unfold MX12_readAtom_59 at H
  refine J_aload_n 0 dX12_readAtom_59 rfl rfl ?_
  obtain ⟨g10, H⟩ := gd H
  refine J_getI 11 10 dX12_readAtom_60 g10 flX12_211 rfl ?_
  refine J_iconst (5 : Int32) dX12_readAtom_63 kc_5 ?_
  refine J_icmp_ne 74 dX12_readAtom_64 rfl (fun q11 => ?_) (fun q11 => ?_)
  · replace H := br0 q11 H
    refine J_aload_n 0 dX12_readAtom_74 rfl rfl ?_
    refine J_dup dX12_readAtom_75 rfl ?_
    refine J_getI 11 10 dX12_readAtom_76 g10 flX12_211 rfl ?_
    refine J_iconst (1 : Int32) dX12_readAtom_79 kc_1 ?_
    refine J_iadd dX12_readAtom_80 ?_
    obtain ⟨h12, e13, H⟩ := lt_el H
    refine J_pI 11 10 dX12_readAtom_81 g10 flX12_211 rfl rfl e13 ?_
    have c14 := ekI e13
    have c15 := elI e13
    have c16 := epI e13
    refine J_iload_n 3 dX12_readAtom_84 rfl rfl ?_
    refine J_if_eq 98 dX12_readAtom_85 rfl (fun q17 => ?_) (fun q17 => ?_)
    · replace H := br1 q17 H
      exact J_dr (kX12_readAtom_98 hrc H ) ⟨rfl, ⟨rfl, trivial⟩⟩
    · replace H := br0 q17 H
      refine J_aload_n 0 dX12_readAtom_88 rfl rfl ?_
      refine J_dup dX12_readAtom_89 rfl ?_
      refine J_getI 11 8 dX12_readAtom_90 (kq c14 g10) flX12_137 rfl ?_
      refine J_iconst (1 : Int32) dX12_readAtom_93 kc_1 ?_
      refine J_iadd dX12_readAtom_94 ?_
      obtain ⟨h57, e58, H⟩ := lt_el H
      refine J_pI 11 8 dX12_readAtom_95 (kq c14 g10) flX12_137 rfl rfl e58 ?_
      have c59 := (ekI e58).trans c14
      have c60 := (elI e58).trans c15
      have c61 := (epI e58).trans c16
      exact J_dr (kX12_readAtom_98 hrc H ) ⟨rfl, ⟨rfl, trivial⟩⟩
  · replace H := br1 q11 H
    refine J_aload_n 0 dX12_readAtom_67 rfl rfl ?_
    refine J_iload_n 1 dX12_readAtom_68 rfl rfl ?_
    obtain ⟨h62, e63, H⟩ := lt_el H
    refine J_pI 11 9 dX12_readAtom_69 g10 flX12_23 rfl rfl e63 ?_
    have c64 := ekI e63
    have c65 := elI e63
    have c66 := epI e63
    refine J_iconst (0 : Int32) dX12_readAtom_72 kc_0 ?_
    cases H
    exact J_rZ dX12_readAtom_73 rfl rfl
noncomputable def MX12_readAtom_274 (rc : Nat → Hp → Nat → Option (Int32 × Hp)) (h : Hp) (v0 : Nat) : Option (Int32 × Hp) :=
  gg (β := (Int32 × Hp)) (kd h v0 = 11) <|
  b2 (α := Int32) (β := Hp) (γ := (Int32 × Hp)) (MX12_fails h v0) fun (t86 : Int32) (h85 : Hp) =>
  gg (β := (Int32 × Hp)) (zOk t86 = true) <|
  some (t86, h85)
set_option maxRecDepth 100000 in
set_option maxHeartbeats 8000000 in
theorem kX12_readAtom_274 {d u : Nat} {rc : Nat → Hp → Nat → Option (Int32 × Hp)} {h : Hp} {v0 : Nat} {r : Int32} {h9 : Hp} (hrc : ∀ (t : Nat) (h : Hp) (a0 : Nat) (r1 : Int32) (h1 : Hp), rc t h a0 = some (r1, h1) → CT (d + u + 5) (YgX12_readAny t) [.ref a0] h (oI r1) h1) (H : MX12_readAtom_274 rc h v0 = some (r, h9)) : J (d + u + 5 + 1) YX12_readAtom 274 [.ref v0, Value.null, Value.null, Value.null, Value.null, Value.null, Value.null] [] h (oI r) h9 := by
  unfold MX12_readAtom_274 at H
  refine J_aload_n 0 dX12_readAtom_274 rfl rfl ?_
  obtain ⟨g84, H⟩ := gd H
  obtain ⟨t86, h85, e83, H⟩ := b2_el H
  refine J_cV (as := []) 11 YX12_fails 0 dX12_readAtom_275 moX12_fails mvX12_fails mlX12_223 g84 rfl rfl (okX12_fails (d := d + u + 5) e83) rfl rfl [] rfl rfl (st2 := [.int t86]) rfl ?_
  obtain ⟨g87, H⟩ := gd H
  cases H
  exact J_rZ dX12_readAtom_278 rfl g87
noncomputable def MX12_readAtom_298 (rc : Nat → Hp → Nat → Option (Int32 × Hp)) (h : Hp) (v0 : Nat) (v5 : Int32) (s0 : Int32) : Option (Int32 × Hp) :=
  gg (β := (Int32 × Hp)) (kd h v0 = 11) <|
  lt (α := Hp) (β := Option (Int32 × Hp)) (sI h v0 8 ((gI h v0 8) + (1 : Int32))) fun (h96 : Hp) =>
  b2 (α := Int32) (β := Hp) (γ := (Int32 × Hp)) (MX12_readNumber h96 v0 (0 : Int32) (9999 : Int32)) fun (t103 : Int32) (h102 : Hp) =>
  if t103 = 0 then
    some ((0 : Int32), h102)
  else
    gg (β := (Int32 × Hp)) (kd h102 v0 = 11) <|
    Option.bind (α := Hp) (β := (Int32 × Hp)) (MX12_act h102 v0 s0) fun (h107 : Hp) =>
    gg (β := (Int32 × Hp)) (kd h107 v0 = 11) <|
    Option.bind (α := Hp) (β := (Int32 × Hp)) (MX12_act h107 v0 v5) fun (h110 : Hp) =>
    gg (β := (Int32 × Hp)) (kd h110 v0 = 11) <|
    Option.bind (α := Hp) (β := (Int32 × Hp)) (MX12_act h110 v0 (gI h110 v0 11)) fun (h113 : Hp) =>
    some ((1 : Int32), h113)
set_option maxRecDepth 100000 in
set_option maxHeartbeats 8000000 in
theorem kX12_readAtom_298 {d u : Nat} {rc : Nat → Hp → Nat → Option (Int32 × Hp)} {h : Hp} {v0 : Nat} {v5 : Int32} {s0 : Int32} {r : Int32} {h9 : Hp} (hrc : ∀ (t : Nat) (h : Hp) (a0 : Nat) (r1 : Int32) (h1 : Hp), rc t h a0 = some (r1, h1) → CT (d + u + 5) (YgX12_readAny t) [.ref a0] h (oI r1) h1) (H : MX12_readAtom_298 rc h v0 v5 s0 = some (r, h9)) : J (d + u + 5 + 1) YX12_readAtom 298 [.ref v0, Value.null, Value.null, Value.null, Value.null, .int v5, Value.null] [.int s0] h (oI r) h9 := by
  unfold MX12_readAtom_298 at H
  refine J_istore dX12_readAtom_298 (by decide) (ls' := [.ref v0, Value.null, Value.null, Value.null, Value.null, .int v5, .int s0]) rfl ?_
  refine J_aload_n 0 dX12_readAtom_300 rfl rfl ?_
  refine J_dup dX12_readAtom_301 rfl ?_
  obtain ⟨g95, H⟩ := gd H
  refine J_getI 11 8 dX12_readAtom_302 g95 flX12_137 rfl ?_
  refine J_iconst (1 : Int32) dX12_readAtom_305 kc_1 ?_
  refine J_iadd dX12_readAtom_306 ?_
  obtain ⟨h96, e97, H⟩ := lt_el H
  refine J_pI 11 8 dX12_readAtom_307 g95 flX12_137 rfl rfl e97 ?_
  have c98 := ekI e97
  have c99 := elI e97
  have c100 := epI e97
  refine J_aload_n 0 dX12_readAtom_310 rfl rfl ?_
  refine J_iconst (0 : Int32) dX12_readAtom_311 kc_0 ?_
  refine J_sipush (9999 : Int32) dX12_readAtom_312 ks_9999 ?_
  obtain ⟨t103, h102, e101, H⟩ := b2_el H
  refine J_cV (as := [.int (0 : Int32), .int (9999 : Int32)]) 11 YX12_readNumber 2 dX12_readAtom_315 moX12_readNumber mvX12_readNumber mlX12_232 (kq c98 g95) rfl rfl (okX12_readNumber (d := d + u + 4) e101) rfl rfl [] rfl rfl (st2 := [.int t103]) rfl ?_
  refine J_if_ne 323 dX12_readAtom_318 rfl (fun q104 => ?_) (fun q104 => ?_)
  · replace H := br0 q104 H
    refine J_aload_n 0 dX12_readAtom_323 rfl rfl ?_
    refine J_iload dX12_readAtom_324 rfl ?_
    obtain ⟨g106, H⟩ := gd H
    obtain ⟨h107, e105, H⟩ := bd H
    refine J_cV (as := [.int s0]) 11 YX12_act 1 dX12_readAtom_326 moX12_act mvX12_act mlX12_220 g106 rfl rfl (okX12_act (d := d + u + 5) e105) rfl rfl [] rfl rfl (st2 := []) rfl ?_
    refine J_aload_n 0 dX12_readAtom_329 rfl rfl ?_
    refine J_iload dX12_readAtom_330 rfl ?_
    obtain ⟨g109, H⟩ := gd H
    obtain ⟨h110, e108, H⟩ := bd H
    refine J_cV (as := [.int v5]) 11 YX12_act 1 dX12_readAtom_332 moX12_act mvX12_act mlX12_220 g109 rfl rfl (okX12_act (d := d + u + 5) e108) rfl rfl [] rfl rfl (st2 := []) rfl ?_
    refine J_aload_n 0 dX12_readAtom_335 rfl rfl ?_
    refine J_aload_n 0 dX12_readAtom_336 rfl rfl ?_
    obtain ⟨g111, H⟩ := gd H
    refine J_getI 11 11 dX12_readAtom_337 g111 flX12_181 rfl ?_
    obtain ⟨h113, e112, H⟩ := bd H
    refine J_cV (as := [.int (gI h110 v0 11)]) 11 YX12_act 1 dX12_readAtom_340 moX12_act mvX12_act mlX12_220 g111 rfl rfl (okX12_act (d := d + u + 5) e112) rfl rfl [] rfl rfl (st2 := []) rfl ?_
    refine J_iconst (1 : Int32) dX12_readAtom_343 kc_1 ?_
    cases H
    exact J_rZ dX12_readAtom_344 rfl rfl
  · replace H := br1 q104 H
    refine J_iconst (0 : Int32) dX12_readAtom_321 kc_0 ?_
    cases H
    exact J_rZ dX12_readAtom_322 rfl rfl
noncomputable def MX12_readAtom_279 (rc : Nat → Hp → Nat → Option (Int32 × Hp)) (h : Hp) (v0 : Nat) (v5 : Int32) : Option (Int32 × Hp) :=
  gg (β := (Int32 × Hp)) (kd h v0 = 11) <|
  gg (β := (Int32 × Hp)) (kd h (gP h v0 5) = 20) <|
  gg (β := (Int32 × Hp)) (inB (gI h v0 8) (ln h (gP h v0 5)) = true) <|
  if (gI h (gP h v0 5) (gI h v0 8).toNatClampNeg) = (60 : Int32) then
    MX12_readAtom_298 rc h v0 v5 (2 : Int32)
  else
    MX12_readAtom_298 rc h v0 v5 (3 : Int32)
set_option maxRecDepth 100000 in
set_option maxHeartbeats 8000000 in
theorem kX12_readAtom_279 {d u : Nat} {rc : Nat → Hp → Nat → Option (Int32 × Hp)} {h : Hp} {v0 : Nat} {v5 : Int32} {r : Int32} {h9 : Hp} (hrc : ∀ (t : Nat) (h : Hp) (a0 : Nat) (r1 : Int32) (h1 : Hp), rc t h a0 = some (r1, h1) → CT (d + u + 5) (YgX12_readAny t) [.ref a0] h (oI r1) h1) (H : MX12_readAtom_279 rc h v0 v5 = some (r, h9)) : J (d + u + 5 + 1) YX12_readAtom 279 [.ref v0, Value.null, Value.null, Value.null, Value.null, .int v5, Value.null] [] h (oI r) h9 := by
  unfold MX12_readAtom_279 at H
  refine J_aload_n 0 dX12_readAtom_279 rfl rfl ?_
  obtain ⟨g91, H⟩ := gd H
  refine J_gP 11 5 dX12_readAtom_280 g91 flX12_20 rfl rfl ?_
  refine J_aload_n 0 dX12_readAtom_283 rfl rfl ?_
  refine J_getI 11 8 dX12_readAtom_284 g91 flX12_137 rfl ?_
  obtain ⟨g92, H⟩ := gd H
  obtain ⟨g93, H⟩ := gd H
  refine J_iald dX12_readAtom_287 g92 (inB_ok g93) ?_
  refine J_bipush (60 : Int32) dX12_readAtom_288 kb_60 ?_
  refine J_icmp_ne 297 dX12_readAtom_290 rfl (fun q94 => ?_) (fun q94 => ?_)
  · replace H := br0 q94 H
    refine J_iconst (3 : Int32) dX12_readAtom_297 kc_3 ?_
    exact J_dr (kX12_readAtom_298 hrc H ) ⟨rfl, ⟨rfl, trivial⟩⟩
  · replace H := br1 q94 H
    refine J_iconst (2 : Int32) dX12_readAtom_293 kc_2 ?_
    refine J_goto 298 dX12_readAtom_294 rfl ?_
    exact J_dr (kX12_readAtom_298 hrc H ) ⟨rfl, ⟨rfl, trivial⟩⟩
noncomputable def MX12_readAtom_50 (rc : Nat → Hp → Nat → Option (Int32 × Hp)) (h : Hp) (v0 : Nat) (v1 : Int32) (v2 : Int32) (s0 : Int32) : Option (Int32 × Hp) :=
  if v2 = 0 then
    if s0 = 0 then
      gg (β := (Int32 × Hp)) (kd h v0 = 11) <|
      b2 (α := Int32) (β := Hp) (γ := (Int32 × Hp)) (MX12_tagHere h v0) fun (t71 : Int32) (h70 : Hp) =>
      if t71 = (-1 : Int32) then
        gg (β := (Int32 × Hp)) (kd h70 v0 = 11) <|
        b2 (α := Int32) (β := Hp) (γ := (Int32 × Hp)) (MX12_factHere h70 v0) fun (t76 : Int32) (h75 : Hp) =>
        if t76 = (-1 : Int32) then
          gg (β := (Int32 × Hp)) (kd h75 v0 = 11) <|
          b2 (α := Int32) (β := Hp) (γ := (Int32 × Hp)) (MX12_fails h75 v0) fun (t118 : Int32) (h117 : Hp) =>
          gg (β := (Int32 × Hp)) (zOk t118 = true) <|
          some (t118, h117)
        else
          gg (β := (Int32 × Hp)) (kd h75 v0 = 11) <|
          Option.bind (α := Hp) (β := (Int32 × Hp)) (MX12_blanks h75 v0) fun (h80 : Hp) =>
          gg (β := (Int32 × Hp)) (kd h80 v0 = 11) <|
          if (gI h80 v0 7) ≤ (gI h80 v0 8) then
            MX12_readAtom_274 rc h80 v0
          else
            gg (β := (Int32 × Hp)) (kd h80 (gP h80 v0 5) = 20) <|
            gg (β := (Int32 × Hp)) (inB (gI h80 v0 8) (ln h80 (gP h80 v0 5)) = true) <|
            if (gI h80 (gP h80 v0 5) (gI h80 v0 8).toNatClampNeg) = (60 : Int32) then
              MX12_readAtom_279 rc h80 v0 t76
            else
              if (gI h80 (gP h80 v0 5) (gI h80 v0 8).toNatClampNeg) = (62 : Int32) then
                MX12_readAtom_279 rc h80 v0 t76
              else
                MX12_readAtom_274 rc h80 v0
      else
        gg (β := (Int32 × Hp)) (kd h70 v0 = 11) <|
        Option.bind (α := Hp) (β := (Int32 × Hp)) (MX12_act h70 v0 (1 : Int32)) fun (h122 : Hp) =>
        gg (β := (Int32 × Hp)) (kd h122 v0 = 11) <|
        Option.bind (α := Hp) (β := (Int32 × Hp)) (MX12_act h122 v0 t71) fun (h125 : Hp) =>
        some ((1 : Int32), h125)
    else
      MX12_readAtom_59 rc h v0 v1 v2 s0
  else
    MX12_readAtom_59 rc h v0 v1 v2 s0
set_option maxRecDepth 100000 in
set_option maxHeartbeats 8000000 in
theorem kX12_readAtom_50 {d u : Nat} {rc : Nat → Hp → Nat → Option (Int32 × Hp)} {h : Hp} {v0 : Nat} {v1 : Int32} {v2 : Int32} {s0 : Int32} {r : Int32} {h9 : Hp} (hrc : ∀ (t : Nat) (h : Hp) (a0 : Nat) (r1 : Int32) (h1 : Hp), rc t h a0 = some (r1, h1) → CT (d + u + 5) (YgX12_readAny t) [.ref a0] h (oI r1) h1) (H : MX12_readAtom_50 rc h v0 v1 v2 s0 = some (r, h9)) : J (d + u + 5 + 1) YX12_readAtom 50 [.ref v0, .int v1, .int v2, Value.null, Value.null, Value.null, Value.null] [.int s0] h (oI r) h9 := by
  unfold MX12_readAtom_50 at H
  refine J_istore_n 3 dX12_readAtom_50 rfl (by decide) (ls' := [.ref v0, .int v1, .int v2, .int s0, Value.null, Value.null, Value.null]) rfl ?_
  refine J_iload_n 2 dX12_readAtom_51 rfl rfl ?_
  refine J_if_ne 59 dX12_readAtom_52 rfl (fun q9 => ?_) (fun q9 => ?_)
  · replace H := br0 q9 H
    exact J_dr (kX12_readAtom_59 hrc H ) ⟨rfl, ⟨rfl, ⟨rfl, ⟨rfl, trivial⟩⟩⟩⟩
  · replace H := br1 q9 H
    refine J_iload_n 3 dX12_readAtom_55 rfl rfl ?_
    refine J_if_eq 189 dX12_readAtom_56 rfl (fun q67 => ?_) (fun q67 => ?_)
    · replace H := br1 q67 H
      refine J_aload_n 0 dX12_readAtom_189 rfl rfl ?_
      obtain ⟨g69, H⟩ := gd H
      obtain ⟨t71, h70, e68, H⟩ := b2_el H
      refine J_cV (as := []) 11 YX12_tagHere 0 dX12_readAtom_190 moX12_tagHere mvX12_tagHere mlX12_226 g69 rfl rfl (okX12_tagHere (d := d + u) e68) rfl rfl [] rfl rfl (st2 := [.int t71]) rfl ?_
      refine J_istore dX12_readAtom_193 (by decide) (ls' := [.ref v0, .int v1, .int v2, .int s0, .int t71, Value.null, Value.null]) rfl ?_
      refine J_iload dX12_readAtom_195 rfl ?_
      refine J_iconst (-1 : Int32) dX12_readAtom_197 kc_m1 ?_
      refine J_icmp_eq 214 dX12_readAtom_198 rfl (fun q72 => ?_) (fun q72 => ?_)
      · replace H := br1 q72 H
        refine J_aload_n 0 dX12_readAtom_214 rfl rfl ?_
        obtain ⟨g74, H⟩ := gd H
        obtain ⟨t76, h75, e73, H⟩ := b2_el H
        refine J_cV (as := []) 11 YX12_factHere 0 dX12_readAtom_215 moX12_factHere mvX12_factHere mlX12_229 g74 rfl rfl (okX12_factHere (d := d + u) e73) rfl rfl [] rfl rfl (st2 := [.int t76]) rfl ?_
        refine J_istore dX12_readAtom_218 (by decide) (ls' := [.ref v0, .int v1, .int v2, .int s0, .int t71, .int t76, Value.null]) rfl ?_
        refine J_iload dX12_readAtom_220 rfl ?_
        refine J_iconst (-1 : Int32) dX12_readAtom_222 kc_m1 ?_
        refine J_icmp_ne 231 dX12_readAtom_223 rfl (fun q77 => ?_) (fun q77 => ?_)
        · replace H := br0 q77 H
          refine J_aload_n 0 dX12_readAtom_231 rfl rfl ?_
          obtain ⟨g79, H⟩ := gd H
          obtain ⟨h80, e78, H⟩ := bd H
          refine J_cV (as := []) 11 YX12_blanks 0 dX12_readAtom_232 moX12_blanks mvX12_blanks mlX12_147 g79 rfl rfl (okX12_blanks (d := d + u + 5) e78) rfl rfl [] rfl rfl (st2 := []) rfl ?_
          refine J_aload_n 0 dX12_readAtom_235 rfl rfl ?_
          obtain ⟨g81, H⟩ := gd H
          refine J_getI 11 8 dX12_readAtom_236 g81 flX12_137 rfl ?_
          refine J_aload_n 0 dX12_readAtom_239 rfl rfl ?_
          refine J_getI 11 7 dX12_readAtom_240 g81 flX12_134 rfl ?_
          refine J_icmp_ge 274 dX12_readAtom_243 rfl (fun q82 => ?_) (fun q82 => ?_)
          · replace H := br1 q82 H
            exact J_dr (kX12_readAtom_274 hrc H ) ⟨rfl, trivial⟩
          · replace H := br0 q82 H
            refine J_aload_n 0 dX12_readAtom_246 rfl rfl ?_
            refine J_gP 11 5 dX12_readAtom_247 g81 flX12_20 rfl rfl ?_
            refine J_aload_n 0 dX12_readAtom_250 rfl rfl ?_
            refine J_getI 11 8 dX12_readAtom_251 g81 flX12_137 rfl ?_
            obtain ⟨g88, H⟩ := gd H
            obtain ⟨g89, H⟩ := gd H
            refine J_iald dX12_readAtom_254 g88 (inB_ok g89) ?_
            refine J_bipush (60 : Int32) dX12_readAtom_255 kb_60 ?_
            refine J_icmp_eq 279 dX12_readAtom_257 rfl (fun q90 => ?_) (fun q90 => ?_)
            · replace H := br1 q90 H
              exact J_dr (kX12_readAtom_279 hrc H ) ⟨rfl, ⟨rfl, trivial⟩⟩
            · replace H := br0 q90 H
              refine J_aload_n 0 dX12_readAtom_260 rfl rfl ?_
              refine J_gP 11 5 dX12_readAtom_261 g81 flX12_20 rfl rfl ?_
              refine J_aload_n 0 dX12_readAtom_264 rfl rfl ?_
              refine J_getI 11 8 dX12_readAtom_265 g81 flX12_137 rfl ?_
              refine J_iald dX12_readAtom_268 g88 (inB_ok g89) ?_
              refine J_bipush (62 : Int32) dX12_readAtom_269 kb_62 ?_
              refine J_icmp_eq 279 dX12_readAtom_271 rfl (fun q114 => ?_) (fun q114 => ?_)
              · replace H := br1 q114 H
                exact J_dr (kX12_readAtom_279 hrc H ) ⟨rfl, ⟨rfl, trivial⟩⟩
              · replace H := br0 q114 H
                exact J_dr (kX12_readAtom_274 hrc H ) ⟨rfl, trivial⟩
        · replace H := br1 q77 H
          refine J_aload_n 0 dX12_readAtom_226 rfl rfl ?_
          obtain ⟨g116, H⟩ := gd H
          obtain ⟨t118, h117, e115, H⟩ := b2_el H
          refine J_cV (as := []) 11 YX12_fails 0 dX12_readAtom_227 moX12_fails mvX12_fails mlX12_223 g116 rfl rfl (okX12_fails (d := d + u + 5) e115) rfl rfl [] rfl rfl (st2 := [.int t118]) rfl ?_
          obtain ⟨g119, H⟩ := gd H
          cases H
          exact J_rZ dX12_readAtom_230 rfl g119
      · replace H := br0 q72 H
        refine J_aload_n 0 dX12_readAtom_201 rfl rfl ?_
        refine J_iconst (1 : Int32) dX12_readAtom_202 kc_1 ?_
        obtain ⟨g121, H⟩ := gd H
        obtain ⟨h122, e120, H⟩ := bd H
        refine J_cV (as := [.int (1 : Int32)]) 11 YX12_act 1 dX12_readAtom_203 moX12_act mvX12_act mlX12_220 g121 rfl rfl (okX12_act (d := d + u + 5) e120) rfl rfl [] rfl rfl (st2 := []) rfl ?_
        refine J_aload_n 0 dX12_readAtom_206 rfl rfl ?_
        refine J_iload dX12_readAtom_207 rfl ?_
        obtain ⟨g124, H⟩ := gd H
        obtain ⟨h125, e123, H⟩ := bd H
        refine J_cV (as := [.int t71]) 11 YX12_act 1 dX12_readAtom_209 moX12_act mvX12_act mlX12_220 g124 rfl rfl (okX12_act (d := d + u + 5) e123) rfl rfl [] rfl rfl (st2 := []) rfl ?_
        refine J_iconst (1 : Int32) dX12_readAtom_212 kc_1 ?_
        cases H
        exact J_rZ dX12_readAtom_213 rfl rfl
    · replace H := br0 q67 H
      exact J_dr (kX12_readAtom_59 hrc H ) ⟨rfl, ⟨rfl, ⟨rfl, ⟨rfl, trivial⟩⟩⟩⟩
noncomputable def MX12_readAtom_49 (rc : Nat → Hp → Nat → Option (Int32 × Hp)) (h : Hp) (v0 : Nat) (v1 : Int32) (v2 : Int32) : Option (Int32 × Hp) :=
  MX12_readAtom_50 rc h v0 v1 v2 (0 : Int32)
set_option maxRecDepth 100000 in
set_option maxHeartbeats 8000000 in
theorem kX12_readAtom_49 {d u : Nat} {rc : Nat → Hp → Nat → Option (Int32 × Hp)} {h : Hp} {v0 : Nat} {v1 : Int32} {v2 : Int32} {r : Int32} {h9 : Hp} (hrc : ∀ (t : Nat) (h : Hp) (a0 : Nat) (r1 : Int32) (h1 : Hp), rc t h a0 = some (r1, h1) → CT (d + u + 5) (YgX12_readAny t) [.ref a0] h (oI r1) h1) (H : MX12_readAtom_49 rc h v0 v1 v2 = some (r, h9)) : J (d + u + 5 + 1) YX12_readAtom 49 [.ref v0, .int v1, .int v2, Value.null, Value.null, Value.null, Value.null] [] h (oI r) h9 := by
  unfold MX12_readAtom_49 at H
  refine J_iconst (0 : Int32) dX12_readAtom_49 kc_0 ?_
  exact J_dr (kX12_readAtom_50 hrc H ) ⟨rfl, ⟨rfl, ⟨rfl, trivial⟩⟩⟩
noncomputable def BX12_readAtom (rc : Nat → Hp → Nat → Option (Int32 × Hp)) (h : Hp) (v0 : Nat) : Option (Int32 × Hp) :=
  gg (β := (Int32 × Hp)) (kd h v0 = 11) <|
  Option.bind (α := Hp) (β := (Int32 × Hp)) (MX12_blanks h v0) fun (h3 : Hp) =>
  gg (β := (Int32 × Hp)) (kd h3 v0 = 11) <|
  b2 (α := Int32) (β := Hp) (γ := (Int32 × Hp)) (MX12_takes h3 v0 15) fun (t7 : Int32) (h6 : Hp) =>
  if t7 = 0 then
    gg (β := (Int32 × Hp)) (kd h6 v0 = 11) <|
    if (gI h6 v0 7) ≤ (gI h6 v0 8) then
      MX12_readAtom_49 rc h6 v0 (gI h3 v0 8) t7
    else
      gg (β := (Int32 × Hp)) (kd h6 (gP h6 v0 5) = 20) <|
      gg (β := (Int32 × Hp)) (inB (gI h6 v0 8) (ln h6 (gP h6 v0 5)) = true) <|
      if (gI h6 (gP h6 v0 5) (gI h6 v0 8).toNatClampNeg) = (40 : Int32) then
        MX12_readAtom_50 rc h6 v0 (gI h3 v0 8) t7 (1 : Int32)
      else
        MX12_readAtom_49 rc h6 v0 (gI h3 v0 8) t7
  else
    MX12_readAtom_49 rc h6 v0 (gI h3 v0 8) t7
set_option maxRecDepth 100000 in
set_option maxHeartbeats 8000000 in
theorem eX12_readAtom {d u : Nat} {rc : Nat → Hp → Nat → Option (Int32 × Hp)} {h : Hp} {v0 : Nat} {r : Int32} {h9 : Hp} (hrc : ∀ (t : Nat) (h : Hp) (a0 : Nat) (r1 : Int32) (h1 : Hp), rc t h a0 = some (r1, h1) → CT (d + u + 5) (YgX12_readAny t) [.ref a0] h (oI r1) h1) (H : BX12_readAtom rc h v0 = some (r, h9)) : J (d + u + 5 + 1) YX12_readAtom 0 [.ref v0, Value.null, Value.null, Value.null, Value.null, Value.null, Value.null] [] h (oI r) h9 := by
  unfold BX12_readAtom at H
  refine J_aload_n 0 dX12_readAtom_0 rfl rfl ?_
  obtain ⟨g2, H⟩ := gd H
  obtain ⟨h3, e1, H⟩ := bd H
  refine J_cV (as := []) 11 YX12_blanks 0 dX12_readAtom_1 moX12_blanks mvX12_blanks mlX12_147 g2 rfl rfl (okX12_blanks (d := d + u + 5) e1) rfl rfl [] rfl rfl (st2 := []) rfl ?_
  refine J_aload_n 0 dX12_readAtom_4 rfl rfl ?_
  obtain ⟨g4, H⟩ := gd H
  refine J_getI 11 8 dX12_readAtom_5 g4 flX12_137 rfl ?_
  refine J_istore_n 1 dX12_readAtom_8 rfl (by decide) (ls' := [.ref v0, .int (gI h3 v0 8), Value.null, Value.null, Value.null, Value.null, Value.null]) rfl ?_
  refine J_aload_n 0 dX12_readAtom_9 rfl rfl ?_
  refine J_lS (tx := "not") dX12_readAtom_10 15 (by decide +kernel) ?_
  obtain ⟨t7, h6, e5, H⟩ := b2_el H
  refine J_cV (as := [.retAddr 15]) 11 YX12_takes 1 dX12_readAtom_12 moX12_takes mvX12_takes mlX12_189 g4 rfl rfl (okX12_takes (d := d + u + 1) e5) rfl rfl [] rfl rfl (st2 := [.int t7]) rfl ?_
  refine J_istore_n 2 dX12_readAtom_15 rfl (by decide) (ls' := [.ref v0, .int (gI h3 v0 8), .int t7, Value.null, Value.null, Value.null, Value.null]) rfl ?_
  refine J_iload_n 2 dX12_readAtom_16 rfl rfl ?_
  refine J_if_ne 49 dX12_readAtom_17 rfl (fun q8 => ?_) (fun q8 => ?_)
  · replace H := br0 q8 H
    exact J_dr (kX12_readAtom_49 hrc H ) ⟨rfl, ⟨rfl, ⟨rfl, trivial⟩⟩⟩
  · replace H := br1 q8 H
    refine J_aload_n 0 dX12_readAtom_20 rfl rfl ?_
    obtain ⟨g126, H⟩ := gd H
    refine J_getI 11 8 dX12_readAtom_21 g126 flX12_137 rfl ?_
    refine J_aload_n 0 dX12_readAtom_24 rfl rfl ?_
    refine J_getI 11 7 dX12_readAtom_25 g126 flX12_134 rfl ?_
    refine J_icmp_ge 49 dX12_readAtom_28 rfl (fun q127 => ?_) (fun q127 => ?_)
    · replace H := br1 q127 H
      exact J_dr (kX12_readAtom_49 hrc H ) ⟨rfl, ⟨rfl, ⟨rfl, trivial⟩⟩⟩
    · replace H := br0 q127 H
      refine J_aload_n 0 dX12_readAtom_31 rfl rfl ?_
      refine J_gP 11 5 dX12_readAtom_32 g126 flX12_20 rfl rfl ?_
      refine J_aload_n 0 dX12_readAtom_35 rfl rfl ?_
      refine J_getI 11 8 dX12_readAtom_36 g126 flX12_137 rfl ?_
      obtain ⟨g128, H⟩ := gd H
      obtain ⟨g129, H⟩ := gd H
      refine J_iald dX12_readAtom_39 g128 (inB_ok g129) ?_
      refine J_bipush (40 : Int32) dX12_readAtom_40 kb_40 ?_
      refine J_icmp_ne 49 dX12_readAtom_42 rfl (fun q130 => ?_) (fun q130 => ?_)
      · replace H := br0 q130 H
        exact J_dr (kX12_readAtom_49 hrc H ) ⟨rfl, ⟨rfl, ⟨rfl, trivial⟩⟩⟩
      · replace H := br1 q130 H
        refine J_iconst (1 : Int32) dX12_readAtom_45 kc_1 ?_
        refine J_goto 50 dX12_readAtom_46 rfl ?_
        exact J_dr (kX12_readAtom_50 hrc H ) ⟨rfl, ⟨rfl, ⟨rfl, trivial⟩⟩⟩
noncomputable def BX12_readAll_9 (rc : Nat → Hp → Nat → Option (Int32 × Hp)) (h : Hp) (v0 : Nat) : Option ((Hp) ⊕ (Int32 × Hp)) :=
  gg (β := ((Hp) ⊕ (Int32 × Hp))) (kd h v0 = 11) <|
  b2 (α := Int32) (β := Hp) (γ := ((Hp) ⊕ (Int32 × Hp))) (MX12_takes h v0 0) fun (t9 : Int32) (h8 : Hp) =>
  if t9 = 0 then
    some (.inr (((1 : Int32), h8)))
  else
    gg (β := ((Hp) ⊕ (Int32 × Hp))) (kd h8 v0 = 11) <|
    b2 (α := Int32) (β := Hp) (γ := ((Hp) ⊕ (Int32 × Hp))) (rc 1 h8 v0) fun (t14 : Int32) (h13 : Hp) =>
    if t14 = 0 then
      some (.inr (((0 : Int32), h13)))
    else
      gg (β := ((Hp) ⊕ (Int32 × Hp))) (kd h13 v0 = 11) <|
      Option.bind (α := Hp) (β := ((Hp) ⊕ (Int32 × Hp))) (MX12_act h13 v0 (5 : Int32)) fun (h18 : Hp) =>
      some (.inl h18)
set_option maxRecDepth 100000 in
set_option maxHeartbeats 8000000 in
theorem bX12_readAll_9 {d u : Nat} {rc : Nat → Hp → Nat → Option (Int32 × Hp)} {h : Hp} {v0 : Nat} {r : Int32} {h9 : Hp} {x : ((Hp) ⊕ (Int32 × Hp))} (hrc : ∀ (t : Nat) (h : Hp) (a0 : Nat) (r1 : Int32) (h1 : Hp), rc t h a0 = some (r1, h1) → CT (d + u + 5) (YgX12_readAny t) [.ref a0] h (oI r1) h1) (H : BX12_readAll_9 rc h v0 = some x) (hb0 : ∀ s : Hp, x = .inl s → J (d + u + 5 + 1) YX12_readAll 9 [.ref v0] [] s (oI r) h9) (hx : ∀ z : (Int32 × Hp), x = .inr (z) → z = (r, h9)) : J (d + u + 5 + 1) YX12_readAll 9 [.ref v0] [] h (oI r) h9 := by
  unfold BX12_readAll_9 at H
  refine J_aload_n 0 dX12_readAll_9 rfl rfl ?_
  refine J_lS (tx := "and") dX12_readAll_10 0 (by decide +kernel) ?_
  obtain ⟨g7, H⟩ := gd H
  obtain ⟨t9, h8, e6, H⟩ := b2_el H
  refine J_cV (as := [.retAddr 0]) 11 YX12_takes 1 dX12_readAll_12 moX12_takes mvX12_takes mlX12_189 g7 rfl rfl (okX12_takes (d := d + u + 1) e6) rfl rfl [] rfl rfl (st2 := [.int t9]) rfl ?_
  refine J_if_eq 35 dX12_readAll_15 rfl (fun q10 => ?_) (fun q10 => ?_)
  · replace H := br1 q10 H
    refine J_iconst (1 : Int32) dX12_readAll_35 kc_1 ?_
    cases H
    cases hx _ rfl
    exact J_rZ dX12_readAll_36 rfl rfl
  · replace H := br0 q10 H
    refine J_aload_n 0 dX12_readAll_18 rfl rfl ?_
    obtain ⟨g12, H⟩ := gd H
    obtain ⟨t14, h13, e11, H⟩ := b2_el H
    refine J_cV (as := []) 11 YX12_readAtom 0 dX12_readAll_19 moX12_readAtom mvX12_readAtom mlX12_214 g12 rfl rfl (hrc 1 _ _ _ _ e11) rfl rfl [] rfl rfl (st2 := [.int t14]) rfl ?_
    refine J_if_ne 27 dX12_readAll_22 rfl (fun q15 => ?_) (fun q15 => ?_)
    · replace H := br0 q15 H
      refine J_aload_n 0 dX12_readAll_27 rfl rfl ?_
      refine J_iconst (5 : Int32) dX12_readAll_28 kc_5 ?_
      obtain ⟨g17, H⟩ := gd H
      obtain ⟨h18, e16, H⟩ := bd H
      refine J_cV (as := [.int (5 : Int32)]) 11 YX12_act 1 dX12_readAll_29 moX12_act mvX12_act mlX12_220 g17 rfl rfl (okX12_act (d := d + u + 5) e16) rfl rfl [] rfl rfl (st2 := []) rfl ?_
      refine J_goto 9 dX12_readAll_32 rfl ?_
      cases H
      exact J_dr (hb0 _ rfl) ⟨rfl, trivial⟩
    · replace H := br1 q15 H
      refine J_iconst (0 : Int32) dX12_readAll_25 kc_0 ?_
      cases H
      cases hx _ rfl
      exact J_rZ dX12_readAll_26 rfl rfl
noncomputable def MX12_readAll_9 (rc : Nat → Hp → Nat → Option (Int32 × Hp)) (h : Hp) (v0 : Nat) : Option (Int32 × Hp) := it (fun q : Hp => BX12_readAll_9 rc q v0) (h)
set_option maxRecDepth 100000 in
set_option maxHeartbeats 8000000 in
theorem kX12_readAll_9 {d u : Nat} {rc : Nat → Hp → Nat → Option (Int32 × Hp)} {h : Hp} {v0 : Nat} {r : Int32} {h9 : Hp} (hrc : ∀ (t : Nat) (h : Hp) (a0 : Nat) (r1 : Int32) (h1 : Hp), rc t h a0 = some (r1, h1) → CT (d + u + 5) (YgX12_readAny t) [.ref a0] h (oI r1) h1) (H : MX12_readAll_9 rc h v0 = some (r, h9)) : J (d + u + 5 + 1) YX12_readAll 9 [.ref v0] [] h (oI r) h9 := by
  unfold MX12_readAll_9 at H
  refine it_J (G := (fun q : Hp => J (d + u + 5 + 1) YX12_readAll 9 [.ref v0] [] q (oI r) h9)) (Q := (fun y : (Int32 × Hp) => y = (r, h9))) (fun q x Hq hm => ?_) H rfl
  exact bX12_readAll_9 hrc Hq (fun s hs => by subst hs; exact hm) (fun z hz => by subst hz; exact hm)
noncomputable def BX12_readAll (rc : Nat → Hp → Nat → Option (Int32 × Hp)) (h : Hp) (v0 : Nat) : Option (Int32 × Hp) :=
  gg (β := (Int32 × Hp)) (kd h v0 = 11) <|
  b2 (α := Int32) (β := Hp) (γ := (Int32 × Hp)) (rc 1 h v0) fun (t4 : Int32) (h3 : Hp) =>
  if t4 = 0 then
    some ((0 : Int32), h3)
  else
    MX12_readAll_9 rc h3 v0
set_option maxRecDepth 100000 in
set_option maxHeartbeats 8000000 in
theorem eX12_readAll {d u : Nat} {rc : Nat → Hp → Nat → Option (Int32 × Hp)} {h : Hp} {v0 : Nat} {r : Int32} {h9 : Hp} (hrc : ∀ (t : Nat) (h : Hp) (a0 : Nat) (r1 : Int32) (h1 : Hp), rc t h a0 = some (r1, h1) → CT (d + u + 5) (YgX12_readAny t) [.ref a0] h (oI r1) h1) (H : BX12_readAll rc h v0 = some (r, h9)) : J (d + u + 5 + 1) YX12_readAll 0 [.ref v0] [] h (oI r) h9 := by
  unfold BX12_readAll at H
  refine J_aload_n 0 dX12_readAll_0 rfl rfl ?_
  obtain ⟨g2, H⟩ := gd H
  obtain ⟨t4, h3, e1, H⟩ := b2_el H
  refine J_cV (as := []) 11 YX12_readAtom 0 dX12_readAll_1 moX12_readAtom mvX12_readAtom mlX12_214 g2 rfl rfl (hrc 1 _ _ _ _ e1) rfl rfl [] rfl rfl (st2 := [.int t4]) rfl ?_
  refine J_if_ne 9 dX12_readAll_4 rfl (fun q5 => ?_) (fun q5 => ?_)
  · replace H := br0 q5 H
    exact J_dr (kX12_readAll_9 hrc H ) ⟨rfl, trivial⟩
  · replace H := br1 q5 H
    refine J_iconst (0 : Int32) dX12_readAll_7 kc_0 ?_
    cases H
    exact J_rZ dX12_readAll_8 rfl rfl
noncomputable def RX12_readAny : Nat → Nat → Hp → Nat → Option (Int32 × Hp)
  | 0 => fun _ _ _ => none
  | u + 1 => fun t h a0 => if t = 0 then BX12_readAny (RX12_readAny u) h a0 else if t = 1 then BX12_readAtom (RX12_readAny u) h a0 else BX12_readAll (RX12_readAny u) h a0
theorem okRX12_readAny (d : Nat) : ∀ (u t : Nat) (h : Hp) (a0 : Nat) (r1 : Int32) (h1 : Hp), RX12_readAny u t h a0 = some (r1, h1) → CT (d + u + 5) (YgX12_readAny t) [.ref a0] h (oI r1) h1 := by
  intro u
  induction u with
  | zero => intro t h a0 r1 h1 H; cases H
  | succ u ih =>
    intro t h a0 r1 h1 H
    simp only [RX12_readAny] at H
    by_cases q0 : t = 0
    · subst q0
      exact CT_of (by decide +kernel) (Nat.le_of_ble_eq_true rfl) (eX12_readAny (d := d) (u := u) ih H)
    rw [if_neg q0] at H
    by_cases q1 : t = 1
    · subst q1
      exact CT_of (by decide +kernel) (Nat.le_of_ble_eq_true rfl) (eX12_readAtom (d := d) (u := u) ih H)
    rw [if_neg q1] at H
    have eY : YgX12_readAny t = YX12_readAll := by simp only [YgX12_readAny]; rw [if_neg q0]; rw [if_neg q1]
    rw [eY]
    exact CT_of (by decide +kernel) (Nat.le_of_ble_eq_true rfl) (eX12_readAll (d := d) (u := u) ih H)
noncomputable def MX12_readAny (u : Nat) (h : Hp) (v0 : Nat) : Option (Int32 × Hp) := RX12_readAny u 0 h v0
theorem okX12_readAny {d : Nat} {h : Hp} {v0 : Nat} {r : Int32} {h9 : Hp} (H : MX12_readAny 30 h v0 = some (r, h9)) : CT (d + 35) YX12_readAny [.ref v0] h (oI r) h9 := okRX12_readAny d 30 0 _ _ _ _ H
noncomputable def MX12_readAtom (u : Nat) (h : Hp) (v0 : Nat) : Option (Int32 × Hp) := RX12_readAny u 1 h v0
theorem okX12_readAtom {d : Nat} {h : Hp} {v0 : Nat} {r : Int32} {h9 : Hp} (H : MX12_readAtom 30 h v0 = some (r, h9)) : CT (d + 35) YX12_readAtom [.ref v0] h (oI r) h9 := okRX12_readAny d 30 1 _ _ _ _ H
noncomputable def MX12_readAll (u : Nat) (h : Hp) (v0 : Nat) : Option (Int32 × Hp) := RX12_readAny u 2 h v0
theorem okX12_readAll {d : Nat} {h : Hp} {v0 : Nat} {r : Int32} {h9 : Hp} (H : MX12_readAll 30 h v0 = some (r, h9)) : CT (d + 35) YX12_readAll [.ref v0] h (oI r) h9 := okRX12_readAny d 30 2 _ _ _ _ H
noncomputable def MX12_readIf (h : Hp) (v0 : Nat) (v1 : Int32) : Option (Int32 × Hp) :=
  gg (β := (Int32 × Hp)) (kd h v0 = 11) <|
  b2 (α := Int32) (β := Hp) (γ := (Int32 × Hp)) (MX12_takes h v0 9) fun (t4 : Int32) (h3 : Hp) =>
  if t4 = 0 then
    if v1 = 0 then
      some ((1 : Int32), h3)
    else
      gg (β := (Int32 × Hp)) (kd h3 v0 = 11) <|
      b2 (α := Int32) (β := Hp) (γ := (Int32 × Hp)) (MX12_fails h3 v0) fun (t31 : Int32) (h30 : Hp) =>
      if t31 = 0 then
        some ((0 : Int32), h30)
      else
        some ((1 : Int32), h30)
  else
    gg (β := (Int32 × Hp)) (kd h3 v0 = 11) <|
    gg (β := (Int32 × Hp)) (kd h3 (gP h3 v0 18) = 20) <|
    gg (β := (Int32 × Hp)) (inB (((2 : Int32) + ((5 : Int32) * (gI h3 v0 19))) + (3 : Int32)) (ln h3 (gP h3 v0 18)) = true) <|
    lt (α := Hp) (β := Option (Int32 × Hp)) (sI h3 (gP h3 v0 18) (((2 : Int32) + ((5 : Int32) * (gI h3 v0 19))) + (3 : Int32)).toNatClampNeg (gI h3 v0 20)) fun (h9 : Hp) =>
    b2 (α := Int32) (β := Hp) (γ := (Int32 × Hp)) (MX12_readAny 30 h9 v0) fun (t16 : Int32) (h15 : Hp) =>
    if t16 = 0 then
      some ((0 : Int32), h15)
    else
      gg (β := (Int32 × Hp)) (kd h15 v0 = 11) <|
      gg (β := (Int32 × Hp)) (kd h15 (gP h15 v0 18) = 20) <|
      gg (β := (Int32 × Hp)) (inB (((2 : Int32) + ((5 : Int32) * (gI h3 v0 19))) + (3 : Int32)) (ln h15 (gP h15 v0 18)) = true) <|
      gg (β := (Int32 × Hp)) (inB (((2 : Int32) + ((5 : Int32) * (gI h3 v0 19))) + (4 : Int32)) (ln h15 (gP h15 v0 18)) = true) <|
      lt (α := Hp) (β := Option (Int32 × Hp)) (sI h15 (gP h15 v0 18) (((2 : Int32) + ((5 : Int32) * (gI h3 v0 19))) + (4 : Int32)).toNatClampNeg ((gI h15 v0 20) - (gI h15 (gP h15 v0 18) (((2 : Int32) + ((5 : Int32) * (gI h3 v0 19))) + (3 : Int32)).toNatClampNeg))) fun (h22 : Hp) =>
      some ((1 : Int32), h22)
set_option maxRecDepth 100000 in
set_option maxHeartbeats 8000000 in
theorem eX12_readIf {d : Nat} {h : Hp} {v0 : Nat} {v1 : Int32} {r : Int32} {h9 : Hp} (H : MX12_readIf h v0 v1 = some (r, h9)) : J (d + 36) YX12_readIf 0 [.ref v0, .int v1, Value.null] [] h (oI r) h9 := by
  unfold MX12_readIf at H
  refine J_aload_n 0 dX12_readIf_0 rfl rfl ?_
  refine J_lS (tx := "if") dX12_readIf_1 9 (by decide +kernel) ?_
  obtain ⟨g2, H⟩ := gd H
  obtain ⟨t4, h3, e1, H⟩ := b2_el H
  refine J_cV (as := [.retAddr 9]) 11 YX12_takes 1 dX12_readIf_3 moX12_takes mvX12_takes mlX12_189 g2 rfl rfl (okX12_takes (d := d + 31) e1) rfl rfl [] rfl rfl (st2 := [.int t4]) rfl ?_
  refine J_if_ne 26 dX12_readIf_6 rfl (fun q5 => ?_) (fun q5 => ?_)
  · replace H := br0 q5 H
    refine J_iconst (2 : Int32) dX12_readIf_26 kc_2 ?_
    refine J_iconst (5 : Int32) dX12_readIf_27 kc_5 ?_
    refine J_aload_n 0 dX12_readIf_28 rfl rfl ?_
    obtain ⟨g6, H⟩ := gd H
    refine J_getI 11 19 dX12_readIf_29 g6 flX12_245 rfl ?_
    refine J_imul dX12_readIf_32 ?_
    refine J_iadd dX12_readIf_33 ?_
    refine J_istore_n 2 dX12_readIf_34 rfl (by decide) (ls' := [.ref v0, .int v1, .int ((2 : Int32) + ((5 : Int32) * (gI h3 v0 19)))]) rfl ?_
    refine J_aload_n 0 dX12_readIf_35 rfl rfl ?_
    refine J_gP 11 18 dX12_readIf_36 g6 flX12_42 rfl rfl ?_
    refine J_iload_n 2 dX12_readIf_39 rfl rfl ?_
    refine J_iconst (3 : Int32) dX12_readIf_40 kc_3 ?_
    refine J_iadd dX12_readIf_41 ?_
    refine J_aload_n 0 dX12_readIf_42 rfl rfl ?_
    refine J_getI 11 20 dX12_readIf_43 g6 flX12_184 rfl ?_
    obtain ⟨g7, H⟩ := gd H
    obtain ⟨g8, H⟩ := gd H
    obtain ⟨h9, e10, H⟩ := lt_el H
    refine J_sI dX12_readIf_46 g7 (inB_ok g8) e10 ?_
    have c11 := ekI e10
    have c12 := elI e10
    have c13 := epI e10
    refine J_aload_n 0 dX12_readIf_47 rfl rfl ?_
    obtain ⟨t16, h15, e14, H⟩ := b2_el H
    refine J_cV (as := []) 11 YX12_readAny 0 dX12_readIf_48 moX12_readAny mvX12_readAny mlX12_217 (kq c11 g6) rfl rfl (okX12_readAny (d := d) e14) rfl rfl [] rfl rfl (st2 := [.int t16]) rfl ?_
    refine J_if_ne 56 dX12_readIf_51 rfl (fun q17 => ?_) (fun q17 => ?_)
    · replace H := br0 q17 H
      refine J_aload_n 0 dX12_readIf_56 rfl rfl ?_
      obtain ⟨g18, H⟩ := gd H
      refine J_gP 11 18 dX12_readIf_57 g18 flX12_42 rfl rfl ?_
      refine J_iload_n 2 dX12_readIf_60 rfl rfl ?_
      refine J_iconst (4 : Int32) dX12_readIf_61 kc_4 ?_
      refine J_iadd dX12_readIf_62 ?_
      refine J_aload_n 0 dX12_readIf_63 rfl rfl ?_
      refine J_getI 11 20 dX12_readIf_64 g18 flX12_184 rfl ?_
      refine J_aload_n 0 dX12_readIf_67 rfl rfl ?_
      refine J_gP 11 18 dX12_readIf_68 g18 flX12_42 rfl rfl ?_
      refine J_iload_n 2 dX12_readIf_71 rfl rfl ?_
      refine J_iconst (3 : Int32) dX12_readIf_72 kc_3 ?_
      refine J_iadd dX12_readIf_73 ?_
      obtain ⟨g19, H⟩ := gd H
      obtain ⟨g20, H⟩ := gd H
      refine J_iald dX12_readIf_74 g19 (inB_ok g20) ?_
      refine J_isub dX12_readIf_75 ?_
      obtain ⟨g21, H⟩ := gd H
      obtain ⟨h22, e23, H⟩ := lt_el H
      refine J_sI dX12_readIf_76 g19 (inB_ok g21) e23 ?_
      have c24 := ekI e23
      have c25 := elI e23
      have c26 := epI e23
      refine J_iconst (1 : Int32) dX12_readIf_77 kc_1 ?_
      cases H
      exact J_rZ dX12_readIf_78 rfl rfl
    · replace H := br1 q17 H
      refine J_iconst (0 : Int32) dX12_readIf_54 kc_0 ?_
      cases H
      exact J_rZ dX12_readIf_55 rfl rfl
  · replace H := br1 q5 H
    refine J_iload_n 1 dX12_readIf_9 rfl rfl ?_
    refine J_if_eq 20 dX12_readIf_10 rfl (fun q27 => ?_) (fun q27 => ?_)
    · replace H := br1 q27 H
      refine J_iconst (1 : Int32) dX12_readIf_20 kc_1 ?_
      refine J_goto 25 dX12_readIf_21 rfl ?_
      cases H
      exact J_rZ dX12_readIf_25 rfl rfl
    · replace H := br0 q27 H
      refine J_aload_n 0 dX12_readIf_13 rfl rfl ?_
      obtain ⟨g29, H⟩ := gd H
      obtain ⟨t31, h30, e28, H⟩ := b2_el H
      refine J_cV (as := []) 11 YX12_fails 0 dX12_readIf_14 moX12_fails mvX12_fails mlX12_223 g29 rfl rfl (okX12_fails (d := d + 35) e28) rfl rfl [] rfl rfl (st2 := [.int t31]) rfl ?_
      refine J_if_eq 24 dX12_readIf_17 rfl (fun q32 => ?_) (fun q32 => ?_)
      · replace H := br1 q32 H
        refine J_iconst (0 : Int32) dX12_readIf_24 kc_0 ?_
        cases H
        exact J_rZ dX12_readIf_25 rfl rfl
      · replace H := br0 q32 H
        refine J_iconst (1 : Int32) dX12_readIf_20 kc_1 ?_
        refine J_goto 25 dX12_readIf_21 rfl ?_
        cases H
        exact J_rZ dX12_readIf_25 rfl rfl
theorem okX12_readIf {d : Nat} {h : Hp} {v0 : Nat} {v1 : Int32} {r : Int32} {h9 : Hp} (H : MX12_readIf h v0 v1 = some (r, h9)) : CT (d + 36) YX12_readIf [.ref v0, .int v1] h (oI r) h9 := CT_of (by decide +kernel) (Nat.le_of_ble_eq_true rfl) (eX12_readIf H)
