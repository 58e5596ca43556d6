noncomputable def MX12_proof_182 (h : Hp) (v1 : Int32) (v2 : Int32) (v3 : Int32) (v4 : Int32) (v5 : Int32) (v6 : Int32) : Option (Int32 × Hp) :=
  if v1 = (3 : Int32) then
    if v4 = 0 then
      some ((-1 : Int32), h)
    else
      gn (v4 = 0) <|
      some ((((v2 - v4) * (v3 - v4)) / v4), h)
  else
    if v1 = 0 then
      some (v2, h)
    else
      if v1 = (1 : Int32) then
        some (v3, h)
      else
        if v1 = (2 : Int32) then
          some (v4, h)
        else
          if v1 = (4 : Int32) then
            some (v5, h)
          else
            some (v6, h)
set_option maxRecDepth 100000 in
set_option maxHeartbeats 8000000 in
theorem kX12_proof_182 {d : Nat} {h : Hp} {v1 : Int32} {v2 : Int32} {v3 : Int32} {v4 : Int32} {v5 : Int32} {v6 : Int32} {r : Int32} {h9 : Hp} (H : MX12_proof_182 h v1 v2 v3 v4 v5 v6 = some (r, h9)) : J (d + 2) YX12_proof 182 [Value.null, .int v1, .int v2, .int v3, .int v4, .int v5, .int v6, Value.null, Value.null, Value.null, Value.null, Value.null] [] h (oI r) h9 := by
  unfold MX12_proof_182 at H
  refine J_iload_n 1 dX12_proof_182 rfl rfl ?_
  refine J_iconst (3 : Int32) dX12_proof_183 kc_3 ?_
  refine J_icmp_ne 209 dX12_proof_184 rfl (fun q16 => ?_) (fun q16 => ?_)
  · replace H := br0 q16 H
    refine J_iload_n 1 dX12_proof_209 rfl rfl ?_
    refine J_if_ne 217 dX12_proof_210 rfl (fun q17 => ?_) (fun q17 => ?_)
    · replace H := br0 q17 H
      refine J_iload_n 1 dX12_proof_217 rfl rfl ?_
      refine J_iconst (1 : Int32) dX12_proof_218 kc_1 ?_
      refine J_icmp_ne 226 dX12_proof_219 rfl (fun q18 => ?_) (fun q18 => ?_)
      · replace H := br0 q18 H
        refine J_iload_n 1 dX12_proof_226 rfl rfl ?_
        refine J_iconst (2 : Int32) dX12_proof_227 kc_2 ?_
        refine J_icmp_ne 236 dX12_proof_228 rfl (fun q19 => ?_) (fun q19 => ?_)
        · replace H := br0 q19 H
          refine J_iload_n 1 dX12_proof_236 rfl rfl ?_
          refine J_iconst (4 : Int32) dX12_proof_237 kc_4 ?_
          refine J_icmp_ne 246 dX12_proof_238 rfl (fun q20 => ?_) (fun q20 => ?_)
          · replace H := br0 q20 H
            refine J_iload dX12_proof_246 rfl ?_
            cases H
            exact J_iretI dX12_proof_248 rfl
          · replace H := br1 q20 H
            refine J_iload dX12_proof_241 rfl ?_
            refine J_goto 248 dX12_proof_243 rfl ?_
            cases H
            exact J_iretI dX12_proof_248 rfl
        · replace H := br1 q19 H
          refine J_iload dX12_proof_231 rfl ?_
          refine J_goto 248 dX12_proof_233 rfl ?_
          cases H
          exact J_iretI dX12_proof_248 rfl
      · replace H := br1 q18 H
        refine J_iload_n 3 dX12_proof_222 rfl rfl ?_
        refine J_goto 248 dX12_proof_223 rfl ?_
        cases H
        exact J_iretI dX12_proof_248 rfl
    · replace H := br1 q17 H
      refine J_iload_n 2 dX12_proof_213 rfl rfl ?_
      refine J_goto 248 dX12_proof_214 rfl ?_
      cases H
      exact J_iretI dX12_proof_248 rfl
  · replace H := br1 q16 H
    refine J_iload dX12_proof_187 rfl ?_
    refine J_if_ne 196 dX12_proof_189 rfl (fun q21 => ?_) (fun q21 => ?_)
    · replace H := br0 q21 H
      refine J_iload_n 2 dX12_proof_196 rfl rfl ?_
      refine J_iload dX12_proof_197 rfl ?_
      refine J_isub dX12_proof_199 ?_
      refine J_iload_n 3 dX12_proof_200 rfl rfl ?_
      refine J_iload dX12_proof_201 rfl ?_
      refine J_isub dX12_proof_203 ?_
      refine J_imul dX12_proof_204 ?_
      refine J_iload dX12_proof_205 rfl ?_
      obtain ⟨g22, H⟩ := gdn H
      refine J_idiv dX12_proof_207 g22 ?_
      cases H
      exact J_iretI dX12_proof_208 rfl
    · replace H := br1 q21 H
      refine J_iconst (-1 : Int32) dX12_proof_192 kc_m1 ?_
      refine J_goto 208 dX12_proof_193 rfl ?_
      cases H
      exact J_iretI dX12_proof_208 rfl
noncomputable def MX12_proof_173 (h : Hp) (v0 : Nat) (v1 : Int32) (v2 : Int32) (v3 : Int32) (v4 : Int32) (v5 : Int32) (v7 : Int32) (s0 : Int32) (s1 : Int32) : Option ((Int32 × Int32 × Int32 × Int32 × Int32 × Int32) ⊕ (Int32 × Hp)) :=
  some (.inl (v2, v3, v4, v5, (s0 + s1), (v7 + (1 : Int32))))
set_option maxRecDepth 100000 in
set_option maxHeartbeats 8000000 in
theorem kX12_proof_173 {d : Nat} {h : Hp} {v0 : Nat} {v1 : Int32} {v2 : Int32} {v3 : Int32} {v4 : Int32} {v5 : Int32} {v7 : Int32} {s0 : Int32} {s1 : Int32} {r : Int32} {h9 : Hp} {x : ((Int32 × Int32 × Int32 × Int32 × Int32 × Int32) ⊕ (Int32 × Hp))} (H : MX12_proof_173 h v0 v1 v2 v3 v4 v5 v7 s0 s1 = some x) (hb0 : ∀ s : Int32 × Int32 × Int32 × Int32 × Int32 × Int32, x = .inl s → J (d + 2) YX12_proof 43 [.ref v0, .int v1, .int s.1, .int s.2.1, .int s.2.2.1, .int s.2.2.2.1, .int s.2.2.2.2.1, .int s.2.2.2.2.2, Value.null, Value.null, Value.null, Value.null] [] h (oI r) h9) (hx : ∀ z : (Int32 × Hp), x = .inr (z) → z = (r, h9)) : J (d + 2) YX12_proof 173 [.ref v0, .int v1, .int v2, .int v3, .int v4, .int v5, Value.null, .int v7, Value.null, Value.null, Value.null, Value.null] [.int s1, .int s0] h (oI r) h9 := by
  unfold MX12_proof_173 at H
  refine J_iadd dX12_proof_173 ?_
  refine J_istore dX12_proof_174 (by decide) (ls' := [.ref v0, .int v1, .int v2, .int v3, .int v4, .int v5, .int (s0 + s1), .int v7, Value.null, Value.null, Value.null, Value.null]) rfl ?_
  refine J_iinc (v7 + (1 : Int32)) dX12_proof_176 rfl (congrArg (HAdd.hAdd v7) kc_1) (by decide) (ls' := [.ref v0, .int v1, .int v2, .int v3, .int v4, .int v5, .int (s0 + s1), .int (v7 + (1 : Int32)), Value.null, Value.null, Value.null, Value.null]) rfl ?_
  refine J_goto 43 dX12_proof_179 rfl ?_
  cases H
  exact J_dr (hb0 _ rfl) ⟨rfl, ⟨rfl, ⟨rfl, ⟨rfl, ⟨rfl, ⟨rfl, ⟨rfl, ⟨rfl, trivial⟩⟩⟩⟩⟩⟩⟩⟩
noncomputable def MX12_proof_172 (h : Hp) (v0 : Nat) (v1 : Int32) (v2 : Int32) (v3 : Int32) (v4 : Int32) (v5 : Int32) (v7 : Int32) (s0 : Int32) : Option ((Int32 × Int32 × Int32 × Int32 × Int32 × Int32) ⊕ (Int32 × Hp)) :=
  MX12_proof_173 h v0 v1 v2 v3 v4 v5 v7 s0 (0 : Int32)
set_option maxRecDepth 100000 in
set_option maxHeartbeats 8000000 in
theorem kX12_proof_172 {d : Nat} {h : Hp} {v0 : Nat} {v1 : Int32} {v2 : Int32} {v3 : Int32} {v4 : Int32} {v5 : Int32} {v7 : Int32} {s0 : Int32} {r : Int32} {h9 : Hp} {x : ((Int32 × Int32 × Int32 × Int32 × Int32 × Int32) ⊕ (Int32 × Hp))} (H : MX12_proof_172 h v0 v1 v2 v3 v4 v5 v7 s0 = some x) (hb0 : ∀ s : Int32 × Int32 × Int32 × Int32 × Int32 × Int32, x = .inl s → J (d + 2) YX12_proof 43 [.ref v0, .int v1, .int s.1, .int s.2.1, .int s.2.2.1, .int s.2.2.2.1, .int s.2.2.2.2.1, .int s.2.2.2.2.2, Value.null, Value.null, Value.null, Value.null] [] h (oI r) h9) (hx : ∀ z : (Int32 × Hp), x = .inr (z) → z = (r, h9)) : J (d + 2) YX12_proof 172 [.ref v0, .int v1, .int v2, .int v3, .int v4, .int v5, Value.null, .int v7, Value.null, Value.null, Value.null, Value.null] [.int s0] h (oI r) h9 := by
  unfold MX12_proof_172 at H
  refine J_iconst (0 : Int32) dX12_proof_172 kc_0 ?_
  exact J_dr (kX12_proof_173 H hb0 hx) ⟨rfl, ⟨rfl, ⟨rfl, ⟨rfl, ⟨rfl, ⟨rfl, ⟨rfl, trivial⟩⟩⟩⟩⟩⟩⟩
noncomputable def MX12_proof_150 (h : Hp) (v0 : Nat) (v1 : Int32) (v2 : Int32) (v3 : Int32) (v4 : Int32) (v6 : Int32) (v7 : Int32) (v9 : Int32) (v10 : Int32) (v11 : Int32) (s0 : Int32) (s1 : Int32) : Option ((Int32 × Int32 × Int32 × Int32 × Int32 × Int32) ⊕ (Int32 × Hp)) :=
  if (v9 + v10) = 0 then
    if v11 = 0 then
      MX12_proof_172 h v0 v1 v2 v3 v4 (s0 + s1) v7 v6
    else
      MX12_proof_173 h v0 v1 v2 v3 v4 (s0 + s1) v7 v6 (1 : Int32)
  else
    MX12_proof_172 h v0 v1 v2 v3 v4 (s0 + s1) v7 v6
set_option maxRecDepth 100000 in
set_option maxHeartbeats 8000000 in
theorem kX12_proof_150 {d : Nat} {h : Hp} {v0 : Nat} {v1 : Int32} {v2 : Int32} {v3 : Int32} {v4 : Int32} {v6 : Int32} {v7 : Int32} {v9 : Int32} {v10 : Int32} {v11 : Int32} {s0 : Int32} {s1 : Int32} {r : Int32} {h9 : Hp} {x : ((Int32 × Int32 × Int32 × Int32 × Int32 × Int32) ⊕ (Int32 × Hp))} (H : MX12_proof_150 h v0 v1 v2 v3 v4 v6 v7 v9 v10 v11 s0 s1 = some x) (hb0 : ∀ s : Int32 × Int32 × Int32 × Int32 × Int32 × Int32, x = .inl s → J (d + 2) YX12_proof 43 [.ref v0, .int v1, .int s.1, .int s.2.1, .int s.2.2.1, .int s.2.2.2.1, .int s.2.2.2.2.1, .int s.2.2.2.2.2, Value.null, Value.null, Value.null, Value.null] [] h (oI r) h9) (hx : ∀ z : (Int32 × Hp), x = .inr (z) → z = (r, h9)) : J (d + 2) YX12_proof 150 [.ref v0, .int v1, .int v2, .int v3, .int v4, Value.null, .int v6, .int v7, Value.null, .int v9, .int v10, .int v11] [.int s1, .int s0] h (oI r) h9 := by
  unfold MX12_proof_150 at H
  refine J_iadd dX12_proof_150 ?_
  refine J_istore dX12_proof_151 (by decide) (ls' := [.ref v0, .int v1, .int v2, .int v3, .int v4, .int (s0 + s1), .int v6, .int v7, Value.null, .int v9, .int v10, .int v11]) rfl ?_
  refine J_iload dX12_proof_153 rfl ?_
  refine J_iload dX12_proof_155 rfl ?_
  refine J_iload dX12_proof_157 rfl ?_
  refine J_iadd dX12_proof_159 ?_
  refine J_if_ne 172 dX12_proof_160 rfl (fun q36 => ?_) (fun q36 => ?_)
  · replace H := br0 q36 H
    exact J_dr (kX12_proof_172 H hb0 hx) ⟨rfl, ⟨rfl, ⟨rfl, ⟨rfl, ⟨rfl, ⟨rfl, ⟨rfl, trivial⟩⟩⟩⟩⟩⟩⟩
  · replace H := br1 q36 H
    refine J_iload dX12_proof_163 rfl ?_
    refine J_if_eq 172 dX12_proof_165 rfl (fun q37 => ?_) (fun q37 => ?_)
    · replace H := br1 q37 H
      exact J_dr (kX12_proof_172 H hb0 hx) ⟨rfl, ⟨rfl, ⟨rfl, ⟨rfl, ⟨rfl, ⟨rfl, ⟨rfl, trivial⟩⟩⟩⟩⟩⟩⟩
    · replace H := br0 q37 H
      refine J_iconst (1 : Int32) dX12_proof_168 kc_1 ?_
      refine J_goto 173 dX12_proof_169 rfl ?_
      exact J_dr (kX12_proof_173 H hb0 hx) ⟨rfl, ⟨rfl, ⟨rfl, ⟨rfl, ⟨rfl, ⟨rfl, ⟨rfl, trivial⟩⟩⟩⟩⟩⟩⟩
noncomputable def MX12_proof_149 (h : Hp) (v0 : Nat) (v1 : Int32) (v2 : Int32) (v3 : Int32) (v4 : Int32) (v6 : Int32) (v7 : Int32) (v9 : Int32) (v10 : Int32) (v11 : Int32) (s0 : Int32) : Option ((Int32 × Int32 × Int32 × Int32 × Int32 × Int32) ⊕ (Int32 × Hp)) :=
  MX12_proof_150 h v0 v1 v2 v3 v4 v6 v7 v9 v10 v11 s0 (0 : Int32)
set_option maxRecDepth 100000 in
set_option maxHeartbeats 8000000 in
theorem kX12_proof_149 {d : Nat} {h : Hp} {v0 : Nat} {v1 : Int32} {v2 : Int32} {v3 : Int32} {v4 : Int32} {v6 : Int32} {v7 : Int32} {v9 : Int32} {v10 : Int32} {v11 : Int32} {s0 : Int32} {r : Int32} {h9 : Hp} {x : ((Int32 × Int32 × Int32 × Int32 × Int32 × Int32) ⊕ (Int32 × Hp))} (H : MX12_proof_149 h v0 v1 v2 v3 v4 v6 v7 v9 v10 v11 s0 = some x) (hb0 : ∀ s : Int32 × Int32 × Int32 × Int32 × Int32 × Int32, x = .inl s → J (d + 2) YX12_proof 43 [.ref v0, .int v1, .int s.1, .int s.2.1, .int s.2.2.1, .int s.2.2.2.1, .int s.2.2.2.2.1, .int s.2.2.2.2.2, Value.null, Value.null, Value.null, Value.null] [] h (oI r) h9) (hx : ∀ z : (Int32 × Hp), x = .inr (z) → z = (r, h9)) : J (d + 2) YX12_proof 149 [.ref v0, .int v1, .int v2, .int v3, .int v4, Value.null, .int v6, .int v7, Value.null, .int v9, .int v10, .int v11] [.int s0] h (oI r) h9 := by
  unfold MX12_proof_149 at H
  refine J_iconst (0 : Int32) dX12_proof_149 kc_0 ?_
  exact J_dr (kX12_proof_150 H hb0 hx) ⟨rfl, ⟨rfl, ⟨rfl, ⟨rfl, ⟨rfl, ⟨rfl, ⟨rfl, ⟨rfl, ⟨rfl, ⟨rfl, trivial⟩⟩⟩⟩⟩⟩⟩⟩⟩⟩
noncomputable def BX12_proof_43 (h : Hp) (v0 : Nat) (v1 : Int32) (v2 : Int32) (v3 : Int32) (v4 : Int32) (v5 : Int32) (v6 : Int32) (v7 : Int32) : Option ((Int32 × Int32 × Int32 × Int32 × Int32 × Int32) ⊕ (Int32 × Hp)) :=
  gg (kd h v0 = 11) <|
  gg (kd h (gP h v0 1) = 20) <|
  gg (inB (4 : Int32) (ln h (gP h v0 1)) = true) <|
  if (gI h (gP h v0 1) (4 : Int32).toNatClampNeg) ≤ v7 then
    up1 (MX12_proof_182 h v1 v2 v3 v4 v5 v6)
  else
    Option.bind (MX12_slug0 h v7) fun t24 =>
    gg (inB (t24 + (4 : Int32)) (ln h (gP h v0 1)) = true) <|
    if (gI h (gP h v0 1) (t24 + (4 : Int32)).toNatClampNeg) = 0 then
      gg (inB (t24 + (10 : Int32)) (ln h (gP h v0 1)) = true) <|
      gg (inB ((t24 + (10 : Int32)) + (1 : Int32)) (ln h (gP h v0 1)) = true) <|
      lt (v3 + (gI h (gP h v0 1) ((t24 + (10 : Int32)) + (1 : Int32)).toNatClampNeg)) fun w29 =>
      lt (v4 + ((gI h (gP h v0 1) (t24 + (10 : Int32)).toNatClampNeg) * (gI h (gP h v0 1) ((t24 + (10 : Int32)) + (1 : Int32)).toNatClampNeg))) fun w31 =>
      Option.bind (MX12_isWrong h v0 v7) fun t34 =>
      if ((gI h (gP h v0 1) (t24 + (10 : Int32)).toNatClampNeg) + (gI h (gP h v0 1) ((t24 + (10 : Int32)) + (1 : Int32)).toNatClampNeg)) ≤ 0 then
        MX12_proof_149 h v0 v1 (v2 + (gI h (gP h v0 1) (t24 + (10 : Int32)).toNatClampNeg)) w29 w31 v6 v7 (gI h (gP h v0 1) (t24 + (10 : Int32)).toNatClampNeg) (gI h (gP h v0 1) ((t24 + (10 : Int32)) + (1 : Int32)).toNatClampNeg) t34 v5
      else
        if t34 = 0 then
          MX12_proof_150 h v0 v1 (v2 + (gI h (gP h v0 1) (t24 + (10 : Int32)).toNatClampNeg)) w29 w31 v6 v7 (gI h (gP h v0 1) (t24 + (10 : Int32)).toNatClampNeg) (gI h (gP h v0 1) ((t24 + (10 : Int32)) + (1 : Int32)).toNatClampNeg) t34 v5 (1 : Int32)
        else
          MX12_proof_149 h v0 v1 (v2 + (gI h (gP h v0 1) (t24 + (10 : Int32)).toNatClampNeg)) w29 w31 v6 v7 (gI h (gP h v0 1) (t24 + (10 : Int32)).toNatClampNeg) (gI h (gP h v0 1) ((t24 + (10 : Int32)) + (1 : Int32)).toNatClampNeg) t34 v5
    else
      some (.inl (v2, v3, v4, v5, v6, (v7 + (1 : Int32))))
set_option maxRecDepth 100000 in
set_option maxHeartbeats 8000000 in
theorem bX12_proof_43 {d : Nat} {h : Hp} {v0 : Nat} {v1 : Int32} {v2 : Int32} {v3 : Int32} {v4 : Int32} {v5 : Int32} {v6 : Int32} {v7 : Int32} {r : Int32} {h9 : Hp} {x : ((Int32 × Int32 × Int32 × Int32 × Int32 × Int32) ⊕ (Int32 × Hp))} (H : BX12_proof_43 h v0 v1 v2 v3 v4 v5 v6 v7 = some x) (hb0 : ∀ s : Int32 × Int32 × Int32 × Int32 × Int32 × Int32, x = .inl s → J (d + 2) YX12_proof 43 [.ref v0, .int v1, .int s.1, .int s.2.1, .int s.2.2.1, .int s.2.2.2.1, .int s.2.2.2.2.1, .int s.2.2.2.2.2, Value.null, Value.null, Value.null, Value.null] [] h (oI r) h9) (hx : ∀ z : (Int32 × Hp), x = .inr (z) → z = (r, h9)) : J (d + 2) YX12_proof 43 [.ref v0, .int v1, .int v2, .int v3, .int v4, .int v5, .int v6, .int v7, Value.null, Value.null, Value.null, Value.null] [] h (oI r) h9 := by
  unfold BX12_proof_43 at H
  refine J_iload dX12_proof_43 rfl ?_
  refine J_aload_n 0 dX12_proof_45 rfl rfl ?_
  obtain ⟨g12, H⟩ := gd H
  refine J_gP 11 1 dX12_proof_46 g12 flX12_8 rfl rfl ?_
  refine J_iconst (4 : Int32) dX12_proof_49 kc_4 ?_
  obtain ⟨g13, H⟩ := gd H
  obtain ⟨g14, H⟩ := gd H
  refine J_iald dX12_proof_50 g13 (inB_ok g14) ?_
  refine J_icmp_ge 182 dX12_proof_51 rfl (fun q15 => ?_) (fun q15 => ?_)
  · replace H := br1 q15 H
    obtain ⟨y, H9, rfl⟩ := up1_el H
    replace H := H9
    obtain rfl := hx _ rfl
    exact J_dr (kX12_proof_182 H ) ⟨rfl, ⟨rfl, ⟨rfl, ⟨rfl, ⟨rfl, ⟨rfl, trivial⟩⟩⟩⟩⟩⟩
  · replace H := br0 q15 H
    refine J_iload dX12_proof_54 rfl ?_
    obtain ⟨t24, e23, H⟩ := bd H
    refine J_cS (as := [.int v7]) YX12_slug0 1 dX12_proof_56 moX12_slug0 msX12_slug0 mlX12_342 (okX12_slug0 (d := d + 1) e23) rfl rfl [] rfl rfl (st2 := [.int t24]) rfl ?_
    refine J_istore dX12_proof_59 (by decide) (ls' := [.ref v0, .int v1, .int v2, .int v3, .int v4, .int v5, .int v6, .int v7, .int t24, Value.null, Value.null, Value.null]) rfl ?_
    refine J_aload_n 0 dX12_proof_61 rfl rfl ?_
    refine J_gP 11 1 dX12_proof_62 g12 flX12_8 rfl rfl ?_
    refine J_iload dX12_proof_65 rfl ?_
    refine J_iconst (4 : Int32) dX12_proof_67 kc_4 ?_
    refine J_iadd dX12_proof_68 ?_
    obtain ⟨g25, H⟩ := gd H
    refine J_iald dX12_proof_69 g13 (inB_ok g25) ?_
    refine J_if_eq 76 dX12_proof_70 rfl (fun q26 => ?_) (fun q26 => ?_)
    · replace H := br1 q26 H
      refine J_aload_n 0 dX12_proof_76 rfl rfl ?_
      refine J_gP 11 1 dX12_proof_77 g12 flX12_8 rfl rfl ?_
      refine J_iload dX12_proof_80 rfl ?_
      refine J_bipush (10 : Int32) dX12_proof_82 kb_10 ?_
      refine J_iadd dX12_proof_84 ?_
      obtain ⟨g27, H⟩ := gd H
      refine J_iald dX12_proof_85 g13 (inB_ok g27) ?_
      refine J_istore dX12_proof_86 (by decide) (ls' := [.ref v0, .int v1, .int v2, .int v3, .int v4, .int v5, .int v6, .int v7, .int t24, .int (gI h (gP h v0 1) (t24 + (10 : Int32)).toNatClampNeg), Value.null, Value.null]) rfl ?_
      refine J_aload_n 0 dX12_proof_88 rfl rfl ?_
      refine J_gP 11 1 dX12_proof_89 g12 flX12_8 rfl rfl ?_
      refine J_iload dX12_proof_92 rfl ?_
      refine J_bipush (10 : Int32) dX12_proof_94 kb_10 ?_
      refine J_iadd dX12_proof_96 ?_
      refine J_iconst (1 : Int32) dX12_proof_97 kc_1 ?_
      refine J_iadd dX12_proof_98 ?_
      obtain ⟨g28, H⟩ := gd H
      refine J_iald dX12_proof_99 g13 (inB_ok g28) ?_
      refine J_istore dX12_proof_100 (by decide) (ls' := [.ref v0, .int v1, .int v2, .int v3, .int v4, .int v5, .int v6, .int v7, .int t24, .int (gI h (gP h v0 1) (t24 + (10 : Int32)).toNatClampNeg), .int (gI h (gP h v0 1) ((t24 + (10 : Int32)) + (1 : Int32)).toNatClampNeg), Value.null]) rfl ?_
      refine J_iload_n 2 dX12_proof_102 rfl rfl ?_
      refine J_iload dX12_proof_103 rfl ?_
      refine J_iadd dX12_proof_105 ?_
      refine J_istore_n 2 dX12_proof_106 rfl (by decide) (ls' := [.ref v0, .int v1, .int (v2 + (gI h (gP h v0 1) (t24 + (10 : Int32)).toNatClampNeg)), .int v3, .int v4, .int v5, .int v6, .int v7, .int t24, .int (gI h (gP h v0 1) (t24 + (10 : Int32)).toNatClampNeg), .int (gI h (gP h v0 1) ((t24 + (10 : Int32)) + (1 : Int32)).toNatClampNeg), Value.null]) rfl ?_
      refine J_iload_n 3 dX12_proof_107 rfl rfl ?_
      refine J_iload dX12_proof_108 rfl ?_
      refine J_iadd dX12_proof_110 ?_
      obtain ⟨w29, e30, H⟩ := lt_el H
      refine J_nmI e30 ?_
      refine J_istore_n 3 dX12_proof_111 rfl (by decide) (ls' := [.ref v0, .int v1, .int (v2 + (gI h (gP h v0 1) (t24 + (10 : Int32)).toNatClampNeg)), .int w29, .int v4, .int v5, .int v6, .int v7, .int t24, .int (gI h (gP h v0 1) (t24 + (10 : Int32)).toNatClampNeg), .int (gI h (gP h v0 1) ((t24 + (10 : Int32)) + (1 : Int32)).toNatClampNeg), Value.null]) rfl ?_
      refine J_iload dX12_proof_112 rfl ?_
      refine J_iload dX12_proof_114 rfl ?_
      refine J_iload dX12_proof_116 rfl ?_
      refine J_imul dX12_proof_118 ?_
      refine J_iadd dX12_proof_119 ?_
      obtain ⟨w31, e32, H⟩ := lt_el H
      refine J_nmI e32 ?_
      refine J_istore dX12_proof_120 (by decide) (ls' := [.ref v0, .int v1, .int (v2 + (gI h (gP h v0 1) (t24 + (10 : Int32)).toNatClampNeg)), .int w29, .int w31, .int v5, .int v6, .int v7, .int t24, .int (gI h (gP h v0 1) (t24 + (10 : Int32)).toNatClampNeg), .int (gI h (gP h v0 1) ((t24 + (10 : Int32)) + (1 : Int32)).toNatClampNeg), Value.null]) rfl ?_
      refine J_aload_n 0 dX12_proof_122 rfl rfl ?_
      refine J_iload dX12_proof_123 rfl ?_
      obtain ⟨t34, e33, H⟩ := bd H
      refine J_cV (as := [.int v7]) 11 YX12_isWrong 1 dX12_proof_125 moX12_isWrong mvX12_isWrong mlX12_399 g12 rfl (okX12_isWrong (d := d) e33) rfl rfl [] rfl rfl (st2 := [.int t34]) rfl ?_
      refine J_istore dX12_proof_128 (by decide) (ls' := [.ref v0, .int v1, .int (v2 + (gI h (gP h v0 1) (t24 + (10 : Int32)).toNatClampNeg)), .int w29, .int w31, .int v5, .int v6, .int v7, .int t24, .int (gI h (gP h v0 1) (t24 + (10 : Int32)).toNatClampNeg), .int (gI h (gP h v0 1) ((t24 + (10 : Int32)) + (1 : Int32)).toNatClampNeg), .int t34]) rfl ?_
      refine J_iload dX12_proof_130 rfl ?_
      refine J_iload dX12_proof_132 rfl ?_
      refine J_iload dX12_proof_134 rfl ?_
      refine J_iadd dX12_proof_136 ?_
      refine J_if_le 149 dX12_proof_137 rfl (fun q35 => ?_) (fun q35 => ?_)
      · replace H := br1 q35 H
        exact J_dr (kX12_proof_149 H hb0 hx) ⟨rfl, ⟨rfl, ⟨rfl, ⟨rfl, ⟨rfl, ⟨rfl, ⟨rfl, ⟨rfl, ⟨rfl, ⟨rfl, trivial⟩⟩⟩⟩⟩⟩⟩⟩⟩⟩
      · replace H := br0 q35 H
        refine J_iload dX12_proof_140 rfl ?_
        refine J_if_ne 149 dX12_proof_142 rfl (fun q38 => ?_) (fun q38 => ?_)
        · replace H := br0 q38 H
          exact J_dr (kX12_proof_149 H hb0 hx) ⟨rfl, ⟨rfl, ⟨rfl, ⟨rfl, ⟨rfl, ⟨rfl, ⟨rfl, ⟨rfl, ⟨rfl, ⟨rfl, trivial⟩⟩⟩⟩⟩⟩⟩⟩⟩⟩
        · replace H := br1 q38 H
          refine J_iconst (1 : Int32) dX12_proof_145 kc_1 ?_
          refine J_goto 150 dX12_proof_146 rfl ?_
          exact J_dr (kX12_proof_150 H hb0 hx) ⟨rfl, ⟨rfl, ⟨rfl, ⟨rfl, ⟨rfl, ⟨rfl, ⟨rfl, ⟨rfl, ⟨rfl, ⟨rfl, trivial⟩⟩⟩⟩⟩⟩⟩⟩⟩⟩
    · replace H := br0 q26 H
      refine J_goto 176 dX12_proof_73 rfl ?_
      refine J_iinc (v7 + (1 : Int32)) dX12_proof_176 rfl (congrArg (HAdd.hAdd v7) kc_1) (by decide) (ls' := [.ref v0, .int v1, .int v2, .int v3, .int v4, .int v5, .int v6, .int (v7 + (1 : Int32)), .int t24, Value.null, Value.null, Value.null]) rfl ?_
      refine J_goto 43 dX12_proof_179 rfl ?_
      cases H
      exact J_dr (hb0 _ rfl) ⟨rfl, ⟨rfl, ⟨rfl, ⟨rfl, ⟨rfl, ⟨rfl, ⟨rfl, ⟨rfl, trivial⟩⟩⟩⟩⟩⟩⟩⟩
noncomputable def MX12_proof_43 (h : Hp) (v0 : Nat) (v1 : Int32) (v2 : Int32) (v3 : Int32) (v4 : Int32) (v5 : Int32) (v6 : Int32) (v7 : Int32) : Option (Int32 × Hp) := it (fun q : Int32 × Int32 × Int32 × Int32 × Int32 × Int32 => BX12_proof_43 h v0 v1 q.1 q.2.1 q.2.2.1 q.2.2.2.1 q.2.2.2.2.1 q.2.2.2.2.2) (v2, v3, v4, v5, v6, v7)
set_option maxRecDepth 100000 in
set_option maxHeartbeats 8000000 in
theorem kX12_proof_43 {d : Nat} {h : Hp} {v0 : Nat} {v1 : Int32} {v2 : Int32} {v3 : Int32} {v4 : Int32} {v5 : Int32} {v6 : Int32} {v7 : Int32} {r : Int32} {h9 : Hp} (H : MX12_proof_43 h v0 v1 v2 v3 v4 v5 v6 v7 = some (r, h9)) : J (d + 2) YX12_proof 43 [.ref v0, .int v1, .int v2, .int v3, .int v4, .int v5, .int v6, .int v7, Value.null, Value.null, Value.null, Value.null] [] h (oI r) h9 := by
  unfold MX12_proof_43 at H
  refine it_J (G := (fun q : Int32 × Int32 × Int32 × Int32 × Int32 × Int32 => J (d + 2) YX12_proof 43 [.ref v0, .int v1, .int q.1, .int q.2.1, .int q.2.2.1, .int q.2.2.2.1, .int q.2.2.2.2.1, .int q.2.2.2.2.2, Value.null, Value.null, Value.null, Value.null] [] h (oI r) h9)) (Q := (fun y : (Int32 × Hp) => y = (r, h9))) (fun q x Hq hm => ?_) H rfl
  exact bX12_proof_43 Hq (fun s hs => by subst hs; exact hm) (fun z hz => by subst hz; exact hm)
noncomputable def MX12_proof_15 (h : Hp) (v0 : Nat) (v1 : Int32) (s0 : Nat) (s1 : Int32) : Option (Int32 × Hp) :=
  gg (kd h s0 = 11) <|
  lt (sI h s0 0 s1) fun h5 =>
  gg (kd h v0 = 11) <|
  if (gI h5 v0 0) ≤ 0 then
    MX12_proof_43 h5 v0 v1 (0 : Int32) (0 : Int32) (0 : Int32) (0 : Int32) (0 : Int32) (0 : Int32)
  else
    some ((0 : Int32), h5)
set_option maxRecDepth 100000 in
set_option maxHeartbeats 8000000 in
theorem kX12_proof_15 {d : Nat} {h : Hp} {v0 : Nat} {v1 : Int32} {s0 : Nat} {s1 : Int32} {r : Int32} {h9 : Hp} (H : MX12_proof_15 h v0 v1 s0 s1 = some (r, h9)) : J (d + 2) YX12_proof 15 [.ref v0, .int v1, Value.null, Value.null, Value.null, Value.null, Value.null, Value.null, Value.null, Value.null, Value.null, Value.null] [.int s1, .ref s0] h (oI r) h9 := by
  unfold MX12_proof_15 at H
  obtain ⟨g4, H⟩ := gd H
  obtain ⟨h5, e6, H⟩ := lt_el H
  refine J_pI 11 0 dX12_proof_15 g4 flX12_122 rfl rfl e6 ?_
  have c7 := ekI e6
  have c8 := elI e6
  have c9 := epI e6
  refine J_aload_n 0 dX12_proof_18 rfl rfl ?_
  obtain ⟨g10, H⟩ := gd H
  refine J_getI 11 0 dX12_proof_19 (kq c7 g10) flX12_122 rfl ?_
  refine J_if_le 27 dX12_proof_22 rfl (fun q11 => ?_) (fun q11 => ?_)
  · replace H := br1 q11 H
    refine J_iconst (0 : Int32) dX12_proof_27 kc_0 ?_
    refine J_istore_n 2 dX12_proof_28 rfl (by decide) (ls' := [.ref v0, .int v1, .int (0 : Int32), Value.null, Value.null, Value.null, Value.null, Value.null, Value.null, Value.null, Value.null, Value.null]) rfl ?_
    refine J_iconst (0 : Int32) dX12_proof_29 kc_0 ?_
    refine J_istore_n 3 dX12_proof_30 rfl (by decide) (ls' := [.ref v0, .int v1, .int (0 : Int32), .int (0 : Int32), Value.null, Value.null, Value.null, Value.null, Value.null, Value.null, Value.null, Value.null]) rfl ?_
    refine J_iconst (0 : Int32) dX12_proof_31 kc_0 ?_
    refine J_istore dX12_proof_32 (by decide) (ls' := [.ref v0, .int v1, .int (0 : Int32), .int (0 : Int32), .int (0 : Int32), Value.null, Value.null, Value.null, Value.null, Value.null, Value.null, Value.null]) rfl ?_
    refine J_iconst (0 : Int32) dX12_proof_34 kc_0 ?_
    refine J_istore dX12_proof_35 (by decide) (ls' := [.ref v0, .int v1, .int (0 : Int32), .int (0 : Int32), .int (0 : Int32), .int (0 : Int32), Value.null, Value.null, Value.null, Value.null, Value.null, Value.null]) rfl ?_
    refine J_iconst (0 : Int32) dX12_proof_37 kc_0 ?_
    refine J_istore dX12_proof_38 (by decide) (ls' := [.ref v0, .int v1, .int (0 : Int32), .int (0 : Int32), .int (0 : Int32), .int (0 : Int32), .int (0 : Int32), Value.null, Value.null, Value.null, Value.null, Value.null]) rfl ?_
    refine J_iconst (0 : Int32) dX12_proof_40 kc_0 ?_
    refine J_istore dX12_proof_41 (by decide) (ls' := [.ref v0, .int v1, .int (0 : Int32), .int (0 : Int32), .int (0 : Int32), .int (0 : Int32), .int (0 : Int32), .int (0 : Int32), Value.null, Value.null, Value.null, Value.null]) rfl ?_
    exact J_dr (kX12_proof_43 H ) ⟨rfl, ⟨rfl, ⟨rfl, ⟨rfl, ⟨rfl, ⟨rfl, ⟨rfl, ⟨rfl, trivial⟩⟩⟩⟩⟩⟩⟩⟩
  · replace H := br0 q11 H
    refine J_iconst (0 : Int32) dX12_proof_25 kc_0 ?_
    cases H
    exact J_iretI dX12_proof_26 rfl
noncomputable def MX12_proof (h : Hp) (v0 : Nat) (v1 : Int32) : Option (Int32 × Hp) :=
  Option.bind (MX12_isIn h v1 (0 : Int32) (5 : Int32)) fun t2 =>
  if t2 = 0 then
    MX12_proof_15 h v0 v1 v0 (1 : Int32)
  else
    MX12_proof_15 h v0 v1 v0 (0 : Int32)
set_option maxRecDepth 100000 in
set_option maxHeartbeats 8000000 in
theorem eX12_proof {d : Nat} {h : Hp} {v0 : Nat} {v1 : Int32} {r : Int32} {h9 : Hp} (H : MX12_proof h v0 v1 = some (r, h9)) : J (d + 2) YX12_proof 0 [.ref v0, .int v1, Value.null, Value.null, Value.null, Value.null, Value.null, Value.null, Value.null, Value.null, Value.null, Value.null] [] h (oI r) h9 := by
  unfold MX12_proof at H
  refine J_aload_n 0 dX12_proof_0 rfl rfl ?_
  refine J_iload_n 1 dX12_proof_1 rfl rfl ?_
  refine J_iconst (0 : Int32) dX12_proof_2 kc_0 ?_
  refine J_iconst (5 : Int32) dX12_proof_3 kc_5 ?_
  obtain ⟨t2, e1, H⟩ := bd H
  refine J_cS (as := [.int v1, .int (0 : Int32), .int (5 : Int32)]) YX12_isIn 3 dX12_proof_4 moX12_isIn msX12_isIn mlX12_157 (okX12_isIn (d := d + 1) e1) rfl rfl [.ref v0] rfl rfl (st2 := [.int t2, .ref v0]) rfl ?_
  refine J_if_ne 14 dX12_proof_7 rfl (fun q3 => ?_) (fun q3 => ?_)
  · replace H := br0 q3 H
    refine J_iconst (0 : Int32) dX12_proof_14 kc_0 ?_
    exact J_dr (kX12_proof_15 H ) ⟨rfl, ⟨rfl, trivial⟩⟩
  · replace H := br1 q3 H
    refine J_iconst (1 : Int32) dX12_proof_10 kc_1 ?_
    refine J_goto 15 dX12_proof_11 rfl ?_
    exact J_dr (kX12_proof_15 H ) ⟨rfl, ⟨rfl, trivial⟩⟩
theorem okX12_proof {d : Nat} {h : Hp} {v0 : Nat} {v1 : Int32} {r : Int32} {h9 : Hp} (H : MX12_proof h v0 v1 = some (r, h9)) : CT (d + 2) YX12_proof [.ref v0, .int v1] h (oI r) h9 := CT_of (by decide +kernel) (Nat.le_of_ble_eq_true rfl) (eX12_proof H)
noncomputable def MX12_read_60 (h : Hp) (v0 : Nat) (v3 : Int32) (s0 : Int32) : Option (Int32 × Hp) :=
  gg (kd h v0 = 11) <|
  gg (kd h (gP h v0 1) = 20) <|
  gg (inB v3 (ln h (gP h v0 1)) = true) <|
  lt (sI h (gP h v0 1) v3.toNatClampNeg (1 : Int32)) fun h20 =>
  if s0 = 0 then
    some ((1 : Int32), h20)
  else
    some ((0 : Int32), h20)
set_option maxRecDepth 100000 in
set_option maxHeartbeats 8000000 in
theorem kX12_read_60 {d : Nat} {h : Hp} {v0 : Nat} {v3 : Int32} {s0 : Int32} {r : Int32} {h9 : Hp} (H : MX12_read_60 h v0 v3 s0 = some (r, h9)) : J (d + 1) YX12_read 60 [.ref v0, Value.null, Value.null, .int v3, Value.null] [.int s0] h (oI r) h9 := by
  unfold MX12_read_60 at H
  refine J_istore dX12_read_60 (by decide) (ls' := [.ref v0, Value.null, Value.null, .int v3, .int s0]) rfl ?_
  refine J_aload_n 0 dX12_read_62 rfl rfl ?_
  obtain ⟨g17, H⟩ := gd H
  refine J_gP 11 1 dX12_read_63 g17 flX12_8 rfl rfl ?_
  refine J_iload_n 3 dX12_read_66 rfl rfl ?_
  refine J_iconst (1 : Int32) dX12_read_67 kc_1 ?_
  obtain ⟨g18, H⟩ := gd H
  obtain ⟨g19, H⟩ := gd H
  obtain ⟨h20, e21, H⟩ := lt_el H
  refine J_sI dX12_read_68 g18 (inB_ok g19) e21 ?_
  have c22 := ekI e21
  have c23 := elI e21
  have c24 := epI e21
  refine J_iload dX12_read_69 rfl ?_
  refine J_if_ne 78 dX12_read_71 rfl (fun q25 => ?_) (fun q25 => ?_)
  · replace H := br0 q25 H
    refine J_iconst (0 : Int32) dX12_read_78 kc_0 ?_
    cases H
    exact J_rZ dX12_read_79 rfl rfl
  · replace H := br1 q25 H
    refine J_iconst (1 : Int32) dX12_read_74 kc_1 ?_
    refine J_goto 79 dX12_read_75 rfl ?_
    cases H
    exact J_rZ dX12_read_79 rfl rfl
noncomputable def MX12_read_23 (h : Hp) (v0 : Nat) (v1 : Int32) (v2 : Int32) (s0 : Nat) (s1 : Int32) : Option (Int32 × Hp) :=
  gg (kd h s0 = 11) <|
  lt (sI h s0 0 s1) fun h5 =>
  gg (kd h v0 = 11) <|
  if (gI h5 v0 0) ≤ 0 then
    Option.bind (MX12_slug0 h5 v2) fun t13 =>
    gg (kd h (gP h v0 1) = 20) <|
    gg (inB ((t13 + (10 : Int32)) + v1) (ln h (gP h v0 1)) = true) <|
    if (gI h5 (gP h v0 1) ((t13 + (10 : Int32)) + v1).toNatClampNeg) = (1 : Int32) then
      MX12_read_60 h5 v0 ((t13 + (10 : Int32)) + v1) (1 : Int32)
    else
      MX12_read_60 h5 v0 ((t13 + (10 : Int32)) + v1) (0 : Int32)
  else
    some ((0 : Int32), h5)
set_option maxRecDepth 100000 in
set_option maxHeartbeats 8000000 in
theorem kX12_read_23 {d : Nat} {h : Hp} {v0 : Nat} {v1 : Int32} {v2 : Int32} {s0 : Nat} {s1 : Int32} {r : Int32} {h9 : Hp} (H : MX12_read_23 h v0 v1 v2 s0 s1 = some (r, h9)) : J (d + 1) YX12_read 23 [.ref v0, .int v1, .int v2, Value.null, Value.null] [.int s1, .ref s0] h (oI r) h9 := by
  unfold MX12_read_23 at H
  obtain ⟨g4, H⟩ := gd H
  obtain ⟨h5, e6, H⟩ := lt_el H
  refine J_pI 11 0 dX12_read_23 g4 flX12_122 rfl rfl e6 ?_
  have c7 := ekI e6
  have c8 := elI e6
  have c9 := epI e6
  refine J_aload_n 0 dX12_read_26 rfl rfl ?_
  obtain ⟨g10, H⟩ := gd H
  refine J_getI 11 0 dX12_read_27 (kq c7 g10) flX12_122 rfl ?_
  refine J_if_le 35 dX12_read_30 rfl (fun q11 => ?_) (fun q11 => ?_)
  · replace H := br1 q11 H
    refine J_iload_n 2 dX12_read_35 rfl rfl ?_
    obtain ⟨t13, e12, H⟩ := bd H
    refine J_cS (as := [.int v2]) YX12_slug0 1 dX12_read_36 moX12_slug0 msX12_slug0 mlX12_342 (okX12_slug0 (d := d) e12) rfl rfl [] rfl rfl (st2 := [.int t13]) rfl ?_
    refine J_bipush (10 : Int32) dX12_read_39 kb_10 ?_
    refine J_iadd dX12_read_41 ?_
    refine J_iload_n 1 dX12_read_42 rfl rfl ?_
    refine J_iadd dX12_read_43 ?_
    refine J_istore_n 3 dX12_read_44 rfl (by decide) (ls' := [.ref v0, .int v1, .int v2, .int ((t13 + (10 : Int32)) + v1), Value.null]) rfl ?_
    refine J_aload_n 0 dX12_read_45 rfl rfl ?_
    refine J_gP 11 1 dX12_read_46 (kq c7 g10) flX12_8 rfl (congrFun (congrFun c9 v0) 1) ?_
    refine J_iload_n 3 dX12_read_49 rfl rfl ?_
    obtain ⟨g14, H⟩ := gd H
    obtain ⟨g15, H⟩ := gd H
    refine J_iald dX12_read_50 (kq c7 g14) (lq c8 g15) ?_
    refine J_iconst (1 : Int32) dX12_read_51 kc_1 ?_
    refine J_icmp_ne 59 dX12_read_52 rfl (fun q16 => ?_) (fun q16 => ?_)
    · replace H := br0 q16 H
      refine J_iconst (0 : Int32) dX12_read_59 kc_0 ?_
      exact J_dr (kX12_read_60 H ) ⟨rfl, ⟨rfl, trivial⟩⟩
    · replace H := br1 q16 H
      refine J_iconst (1 : Int32) dX12_read_55 kc_1 ?_
      refine J_goto 60 dX12_read_56 rfl ?_
      exact J_dr (kX12_read_60 H ) ⟨rfl, ⟨rfl, trivial⟩⟩
  · replace H := br0 q11 H
    refine J_iconst (0 : Int32) dX12_read_33 kc_0 ?_
    cases H
    exact J_rZ dX12_read_34 rfl rfl
noncomputable def MX12_read_18 (h : Hp) (v0 : Nat) (v1 : Int32) (v2 : Int32) (s0 : Nat) : Option (Int32 × Hp) :=
  MX12_read_23 h v0 v1 v2 s0 (1 : Int32)
set_option maxRecDepth 100000 in
set_option maxHeartbeats 8000000 in
theorem kX12_read_18 {d : Nat} {h : Hp} {v0 : Nat} {v1 : Int32} {v2 : Int32} {s0 : Nat} {r : Int32} {h9 : Hp} (H : MX12_read_18 h v0 v1 v2 s0 = some (r, h9)) : J (d + 1) YX12_read 18 [.ref v0, .int v1, .int v2, Value.null, Value.null] [.ref s0] h (oI r) h9 := by
  unfold MX12_read_18 at H
  refine J_iconst (1 : Int32) dX12_read_18 kc_1 ?_
  refine J_goto 23 dX12_read_19 rfl ?_
  exact J_dr (kX12_read_23 H ) ⟨rfl, ⟨rfl, ⟨rfl, trivial⟩⟩⟩
noncomputable def MX12_read (h : Hp) (v0 : Nat) (v1 : Int32) (v2 : Int32) : Option (Int32 × Hp) :=
  Option.bind (MX12_isIn h v1 (0 : Int32) (1 : Int32)) fun t2 =>
  if t2 = 0 then
    MX12_read_18 h v0 v1 v2 v0
  else
    gg (kd h v0 = 11) <|
    Option.bind (MX12_isSlug h v0 v2) fun t28 =>
    if t28 = 0 then
      MX12_read_18 h v0 v1 v2 v0
    else
      MX12_read_23 h v0 v1 v2 v0 (0 : Int32)
set_option maxRecDepth 100000 in
set_option maxHeartbeats 8000000 in
theorem eX12_read {d : Nat} {h : Hp} {v0 : Nat} {v1 : Int32} {v2 : Int32} {r : Int32} {h9 : Hp} (H : MX12_read h v0 v1 v2 = some (r, h9)) : J (d + 1) YX12_read 0 [.ref v0, .int v1, .int v2, Value.null, Value.null] [] h (oI r) h9 := by
  unfold MX12_read at H
  refine J_aload_n 0 dX12_read_0 rfl rfl ?_
  refine J_iload_n 1 dX12_read_1 rfl rfl ?_
  refine J_iconst (0 : Int32) dX12_read_2 kc_0 ?_
  refine J_iconst (1 : Int32) dX12_read_3 kc_1 ?_
  obtain ⟨t2, e1, H⟩ := bd H
  refine J_cS (as := [.int v1, .int (0 : Int32), .int (1 : Int32)]) YX12_isIn 3 dX12_read_4 moX12_isIn msX12_isIn mlX12_157 (okX12_isIn (d := d) e1) rfl rfl [.ref v0] rfl rfl (st2 := [.int t2, .ref v0]) rfl ?_
  refine J_if_eq 18 dX12_read_7 rfl (fun q3 => ?_) (fun q3 => ?_)
  · replace H := br1 q3 H
    exact J_dr (kX12_read_18 H ) ⟨rfl, ⟨rfl, ⟨rfl, trivial⟩⟩⟩
  · replace H := br0 q3 H
    refine J_aload_n 0 dX12_read_10 rfl rfl ?_
    refine J_iload_n 2 dX12_read_11 rfl rfl ?_
    obtain ⟨g27, H⟩ := gd H
    obtain ⟨t28, e26, H⟩ := bd H
    refine J_cV (as := [.int v2]) 11 YX12_isSlug 1 dX12_read_12 moX12_isSlug mvX12_isSlug mlX12_396 g27 rfl (okX12_isSlug (d := d) e26) rfl rfl [.ref v0] rfl rfl (st2 := [.int t28, .ref v0]) rfl ?_
    refine J_if_ne 22 dX12_read_15 rfl (fun q29 => ?_) (fun q29 => ?_)
    · replace H := br0 q29 H
      refine J_iconst (0 : Int32) dX12_read_22 kc_0 ?_
      exact J_dr (kX12_read_23 H ) ⟨rfl, ⟨rfl, ⟨rfl, trivial⟩⟩⟩
    · replace H := br1 q29 H
      exact J_dr (kX12_read_18 H ) ⟨rfl, ⟨rfl, ⟨rfl, trivial⟩⟩⟩
theorem okX12_read {d : Nat} {h : Hp} {v0 : Nat} {v1 : Int32} {v2 : Int32} {r : Int32} {h9 : Hp} (H : MX12_read h v0 v1 v2 = some (r, h9)) : CT (d + 1) YX12_read [.ref v0, .int v1, .int v2] h (oI r) h9 := CT_of (by decide +kernel) (Nat.le_of_ble_eq_true rfl) (eX12_read H)
noncomputable def MX12_readNumber_135 (h : Hp) (v0 : Nat) (v3 : Int32) (s0 : Int32) : Option (Int32 × Hp) :=
  if s0 = 0 then
    gg (kd h v0 = 11) <|
    lt (sI h v0 9 v3) fun h17 =>
    gg (zOk s0 = true) <|
    some (s0, h17)
  else
    gg (zOk s0 = true) <|
    some (s0, h)
set_option maxRecDepth 100000 in
set_option maxHeartbeats 8000000 in
theorem kX12_readNumber_135 {d : Nat} {h : Hp} {v0 : Nat} {v3 : Int32} {s0 : Int32} {r : Int32} {h9 : Hp} (H : MX12_readNumber_135 h v0 v3 s0 = some (r, h9)) : J (d + 1) YX12_readNumber 135 [.ref v0, Value.null, Value.null, .int v3, Value.null] [.int s0] h (oI r) h9 := by
  unfold MX12_readNumber_135 at H
  refine J_istore dX12_readNumber_135 (by decide) (ls' := [.ref v0, Value.null, Value.null, .int v3, .int s0]) rfl ?_
  refine J_iload dX12_readNumber_137 rfl ?_
  refine J_if_ne 147 dX12_readNumber_139 rfl (fun q14 => ?_) (fun q14 => ?_)
  · replace H := br0 q14 H
    refine J_iload dX12_readNumber_147 rfl ?_
    obtain ⟨g15, H⟩ := gd H
    cases H
    exact J_rZ dX12_readNumber_149 rfl g15
  · replace H := br1 q14 H
    refine J_aload_n 0 dX12_readNumber_142 rfl rfl ?_
    refine J_iload_n 3 dX12_readNumber_143 rfl rfl ?_
    obtain ⟨g16, H⟩ := gd H
    obtain ⟨h17, e18, H⟩ := lt_el H
    refine J_pI 11 9 dX12_readNumber_144 g16 flX12_23 rfl rfl e18 ?_
    have c19 := ekI e18
    have c20 := elI e18
    have c21 := epI e18
    refine J_iload dX12_readNumber_147 rfl ?_
    obtain ⟨g22, H⟩ := gd H
    cases H
    exact J_rZ dX12_readNumber_149 rfl g22
noncomputable def MX12_readNumber_134 (h : Hp) (v0 : Nat) (v3 : Int32) : Option (Int32 × Hp) :=
  MX12_readNumber_135 h v0 v3 (0 : Int32)
set_option maxRecDepth 100000 in
set_option maxHeartbeats 8000000 in
theorem kX12_readNumber_134 {d : Nat} {h : Hp} {v0 : Nat} {v3 : Int32} {r : Int32} {h9 : Hp} (H : MX12_readNumber_134 h v0 v3 = some (r, h9)) : J (d + 1) YX12_readNumber 134 [.ref v0, Value.null, Value.null, .int v3, Value.null] [] h (oI r) h9 := by
  unfold MX12_readNumber_134 at H
  refine J_iconst (0 : Int32) dX12_readNumber_134 kc_0 ?_
  exact J_dr (kX12_readNumber_135 H ) ⟨rfl, ⟨rfl, trivial⟩⟩
noncomputable def MX12_readNumber_100 (h : Hp) (v0 : Nat) (v1 : Int32) (v2 : Int32) (v3 : Int32) : Option (Int32 × Hp) :=
  gg (kd h v0 = 11) <|
  if (gI h v0 8) ≤ v3 then
    MX12_readNumber_134 h v0 v3
  else
    if (4 : Int32) < ((gI h v0 8) - v3) then
      MX12_readNumber_134 h v0 v3
    else
      Option.bind (MX12_isIn h (gI h v0 11) v1 v2) fun t25 =>
      if t25 = 0 then
        MX12_readNumber_134 h v0 v3
      else
        MX12_readNumber_135 h v0 v3 (1 : Int32)
set_option maxRecDepth 100000 in
set_option maxHeartbeats 8000000 in
theorem kX12_readNumber_100 {d : Nat} {h : Hp} {v0 : Nat} {v1 : Int32} {v2 : Int32} {v3 : Int32} {r : Int32} {h9 : Hp} (H : MX12_readNumber_100 h v0 v1 v2 v3 = some (r, h9)) : J (d + 1) YX12_readNumber 100 [.ref v0, .int v1, .int v2, .int v3, Value.null] [] h (oI r) h9 := by
  unfold MX12_readNumber_100 at H
  refine J_aload_n 0 dX12_readNumber_100 rfl rfl ?_
  obtain ⟨g12, H⟩ := gd H
  refine J_getI 11 8 dX12_readNumber_101 g12 flX12_137 rfl ?_
  refine J_iload_n 3 dX12_readNumber_104 rfl rfl ?_
  refine J_icmp_le 134 dX12_readNumber_105 rfl (fun q13 => ?_) (fun q13 => ?_)
  · replace H := br1 q13 H
    exact J_dr (kX12_readNumber_134 H ) ⟨rfl, ⟨rfl, trivial⟩⟩
  · replace H := br0 q13 H
    refine J_aload_n 0 dX12_readNumber_108 rfl rfl ?_
    refine J_getI 11 8 dX12_readNumber_109 g12 flX12_137 rfl ?_
    refine J_iload_n 3 dX12_readNumber_112 rfl rfl ?_
    refine J_isub dX12_readNumber_113 ?_
    refine J_iconst (4 : Int32) dX12_readNumber_114 kc_4 ?_
    refine J_icmp_gt 134 dX12_readNumber_115 rfl (fun q23 => ?_) (fun q23 => ?_)
    · replace H := br1 q23 H
      exact J_dr (kX12_readNumber_134 H ) ⟨rfl, ⟨rfl, trivial⟩⟩
    · replace H := br0 q23 H
      refine J_aload_n 0 dX12_readNumber_118 rfl rfl ?_
      refine J_getI 11 11 dX12_readNumber_119 g12 flX12_181 rfl ?_
      refine J_iload_n 1 dX12_readNumber_122 rfl rfl ?_
      refine J_iload_n 2 dX12_readNumber_123 rfl rfl ?_
      obtain ⟨t25, e24, H⟩ := bd H
      refine J_cS (as := [.int (gI h v0 11), .int v1, .int v2]) YX12_isIn 3 dX12_readNumber_124 moX12_isIn msX12_isIn mlX12_157 (okX12_isIn (d := d) e24) rfl rfl [] rfl rfl (st2 := [.int t25]) rfl ?_
      refine J_if_eq 134 dX12_readNumber_127 rfl (fun q26 => ?_) (fun q26 => ?_)
      · replace H := br1 q26 H
        exact J_dr (kX12_readNumber_134 H ) ⟨rfl, ⟨rfl, trivial⟩⟩
      · replace H := br0 q26 H
        refine J_iconst (1 : Int32) dX12_readNumber_130 kc_1 ?_
        refine J_goto 135 dX12_readNumber_131 rfl ?_
        exact J_dr (kX12_readNumber_135 H ) ⟨rfl, ⟨rfl, trivial⟩⟩
noncomputable def MX12_readNumber_87 (h : Hp) (v0 : Nat) (v1 : Int32) (v2 : Int32) (v3 : Int32) : Option ((Hp) ⊕ (Int32 × Hp)) :=
  gg (kd h v0 = 11) <|
  lt (sI h v0 8 ((gI h v0 8) + (1 : Int32))) fun h33 =>
  some (.inl h33)
set_option maxRecDepth 100000 in
set_option maxHeartbeats 8000000 in
theorem kX12_readNumber_87 {d : Nat} {h : Hp} {v0 : Nat} {v1 : Int32} {v2 : Int32} {v3 : Int32} {r : Int32} {h9 : Hp} {x : ((Hp) ⊕ (Int32 × Hp))} (H : MX12_readNumber_87 h v0 v1 v2 v3 = some x) (hb0 : ∀ s : Hp, x = .inl s → J (d + 1) YX12_readNumber 14 [.ref v0, .int v1, .int v2, .int v3, Value.null] [] s (oI r) h9) (hx : ∀ z : (Int32 × Hp), x = .inr (z) → z = (r, h9)) : J (d + 1) YX12_readNumber 87 [.ref v0, .int v1, .int v2, .int v3, Value.null] [] h (oI r) h9 := by
  unfold MX12_readNumber_87 at H
  refine J_aload_n 0 dX12_readNumber_87 rfl rfl ?_
  refine J_dup dX12_readNumber_88 rfl ?_
  obtain ⟨g32, H⟩ := gd H
  refine J_getI 11 8 dX12_readNumber_89 g32 flX12_137 rfl ?_
  refine J_iconst (1 : Int32) dX12_readNumber_92 kc_1 ?_
  refine J_iadd dX12_readNumber_93 ?_
  obtain ⟨h33, e34, H⟩ := lt_el H
  refine J_pI 11 8 dX12_readNumber_94 g32 flX12_137 rfl rfl e34 ?_
  have c35 := ekI e34
  have c36 := elI e34
  have c37 := epI e34
  refine J_goto 14 dX12_readNumber_97 rfl ?_
  cases H
  exact J_dr (hb0 _ rfl) ⟨rfl, ⟨rfl, ⟨rfl, ⟨rfl, trivial⟩⟩⟩⟩
noncomputable def BX12_readNumber_14 (h : Hp) (v0 : Nat) (v1 : Int32) (v2 : Int32) (v3 : Int32) : Option ((Hp) ⊕ (Int32 × Hp)) :=
  gg (kd h v0 = 11) <|
  if (gI h v0 7) ≤ (gI h v0 8) then
    up1 (MX12_readNumber_100 h v0 v1 v2 v3)
  else
    gg (kd h (gP h v0 5) = 20) <|
    gg (inB (gI h v0 8) (ln h (gP h v0 5)) = true) <|
    if (gI h (gP h v0 5) (gI h v0 8).toNatClampNeg) < (48 : Int32) then
      up1 (MX12_readNumber_100 h v0 v1 v2 v3)
    else
      if (57 : Int32) < (gI h (gP h v0 5) (gI h v0 8).toNatClampNeg) then
        up1 (MX12_readNumber_100 h v0 v1 v2 v3)
      else
        if (4 : Int32) ≤ ((gI h v0 8) - v3) then
          MX12_readNumber_87 h v0 v1 v2 v3
        else
          lt (sI h v0 11 ((((10 : Int32) * (gI h v0 11)) + (gI h (gP h v0 5) (gI h v0 8).toNatClampNeg)) - (48 : Int32))) fun h38 =>
          MX12_readNumber_87 h38 v0 v1 v2 v3
set_option maxRecDepth 100000 in
set_option maxHeartbeats 8000000 in
theorem bX12_readNumber_14 {d : Nat} {h : Hp} {v0 : Nat} {v1 : Int32} {v2 : Int32} {v3 : Int32} {r : Int32} {h9 : Hp} {x : ((Hp) ⊕ (Int32 × Hp))} (H : BX12_readNumber_14 h v0 v1 v2 v3 = some x) (hb0 : ∀ s : Hp, x = .inl s → J (d + 1) YX12_readNumber 14 [.ref v0, .int v1, .int v2, .int v3, Value.null] [] s (oI r) h9) (hx : ∀ z : (Int32 × Hp), x = .inr (z) → z = (r, h9)) : J (d + 1) YX12_readNumber 14 [.ref v0, .int v1, .int v2, .int v3, Value.null] [] h (oI r) h9 := by
  unfold BX12_readNumber_14 at H
  refine J_aload_n 0 dX12_readNumber_14 rfl rfl ?_
  obtain ⟨g10, H⟩ := gd H
  refine J_getI 11 8 dX12_readNumber_15 g10 flX12_137 rfl ?_
  refine J_aload_n 0 dX12_readNumber_18 rfl rfl ?_
  refine J_getI 11 7 dX12_readNumber_19 g10 flX12_134 rfl ?_
  refine J_icmp_ge 100 dX12_readNumber_22 rfl (fun q11 => ?_) (fun q11 => ?_)
  · replace H := br1 q11 H
    obtain ⟨y, H9, rfl⟩ := up1_el H
    replace H := H9
    obtain rfl := hx _ rfl
    exact J_dr (kX12_readNumber_100 H ) ⟨rfl, ⟨rfl, ⟨rfl, ⟨rfl, trivial⟩⟩⟩⟩
  · replace H := br0 q11 H
    refine J_aload_n 0 dX12_readNumber_25 rfl rfl ?_
    refine J_gP 11 5 dX12_readNumber_26 g10 flX12_20 rfl rfl ?_
    refine J_aload_n 0 dX12_readNumber_29 rfl rfl ?_
    refine J_getI 11 8 dX12_readNumber_30 g10 flX12_137 rfl ?_
    obtain ⟨g27, H⟩ := gd H
    obtain ⟨g28, H⟩ := gd H
    refine J_iald dX12_readNumber_33 g27 (inB_ok g28) ?_
    refine J_bipush (48 : Int32) dX12_readNumber_34 kb_48 ?_
    refine J_icmp_lt 100 dX12_readNumber_36 rfl (fun q29 => ?_) (fun q29 => ?_)
    · replace H := br1 q29 H
      obtain ⟨y, H9, rfl⟩ := up1_el H
      replace H := H9
      obtain rfl := hx _ rfl
      exact J_dr (kX12_readNumber_100 H ) ⟨rfl, ⟨rfl, ⟨rfl, ⟨rfl, trivial⟩⟩⟩⟩
    · replace H := br0 q29 H
      refine J_aload_n 0 dX12_readNumber_39 rfl rfl ?_
      refine J_gP 11 5 dX12_readNumber_40 g10 flX12_20 rfl rfl ?_
      refine J_aload_n 0 dX12_readNumber_43 rfl rfl ?_
      refine J_getI 11 8 dX12_readNumber_44 g10 flX12_137 rfl ?_
      refine J_iald dX12_readNumber_47 g27 (inB_ok g28) ?_
      refine J_bipush (57 : Int32) dX12_readNumber_48 kb_57 ?_
      refine J_icmp_gt 100 dX12_readNumber_50 rfl (fun q30 => ?_) (fun q30 => ?_)
      · replace H := br1 q30 H
        obtain ⟨y, H9, rfl⟩ := up1_el H
        replace H := H9
        obtain rfl := hx _ rfl
        exact J_dr (kX12_readNumber_100 H ) ⟨rfl, ⟨rfl, ⟨rfl, ⟨rfl, trivial⟩⟩⟩⟩
      · replace H := br0 q30 H
        refine J_aload_n 0 dX12_readNumber_53 rfl rfl ?_
        refine J_getI 11 8 dX12_readNumber_54 g10 flX12_137 rfl ?_
        refine J_iload_n 3 dX12_readNumber_57 rfl rfl ?_
        refine J_isub dX12_readNumber_58 ?_
        refine J_iconst (4 : Int32) dX12_readNumber_59 kc_4 ?_
        refine J_icmp_ge 87 dX12_readNumber_60 rfl (fun q31 => ?_) (fun q31 => ?_)
        · replace H := br1 q31 H
          exact J_dr (kX12_readNumber_87 H hb0 hx) ⟨rfl, ⟨rfl, ⟨rfl, ⟨rfl, trivial⟩⟩⟩⟩
        · replace H := br0 q31 H
          refine J_aload_n 0 dX12_readNumber_63 rfl rfl ?_
          refine J_bipush (10 : Int32) dX12_readNumber_64 kb_10 ?_
          refine J_aload_n 0 dX12_readNumber_66 rfl rfl ?_
          refine J_getI 11 11 dX12_readNumber_67 g10 flX12_181 rfl ?_
          refine J_imul dX12_readNumber_70 ?_
          refine J_aload_n 0 dX12_readNumber_71 rfl rfl ?_
          refine J_gP 11 5 dX12_readNumber_72 g10 flX12_20 rfl rfl ?_
          refine J_aload_n 0 dX12_readNumber_75 rfl rfl ?_
          refine J_getI 11 8 dX12_readNumber_76 g10 flX12_137 rfl ?_
          refine J_iald dX12_readNumber_79 g27 (inB_ok g28) ?_
          refine J_iadd dX12_readNumber_80 ?_
          refine J_bipush (48 : Int32) dX12_readNumber_81 kb_48 ?_
          refine J_isub dX12_readNumber_83 ?_
          obtain ⟨h38, e39, H⟩ := lt_el H
          refine J_pI 11 11 dX12_readNumber_84 g10 flX12_181 rfl rfl e39 ?_
          have c40 := ekI e39
          have c41 := elI e39
          have c42 := epI e39
          exact J_dr (kX12_readNumber_87 H hb0 hx) ⟨rfl, ⟨rfl, ⟨rfl, ⟨rfl, trivial⟩⟩⟩⟩
noncomputable def MX12_readNumber_14 (h : Hp) (v0 : Nat) (v1 : Int32) (v2 : Int32) (v3 : Int32) : Option (Int32 × Hp) := it (fun q : Hp => BX12_readNumber_14 q v0 v1 v2 v3) (h)
set_option maxRecDepth 100000 in
set_option maxHeartbeats 8000000 in
theorem kX12_readNumber_14 {d : Nat} {h : Hp} {v0 : Nat} {v1 : Int32} {v2 : Int32} {v3 : Int32} {r : Int32} {h9 : Hp} (H : MX12_readNumber_14 h v0 v1 v2 v3 = some (r, h9)) : J (d + 1) YX12_readNumber 14 [.ref v0, .int v1, .int v2, .int v3, Value.null] [] h (oI r) h9 := by
  unfold MX12_readNumber_14 at H
  refine it_J (G := (fun q : Hp => J (d + 1) YX12_readNumber 14 [.ref v0, .int v1, .int v2, .int v3, Value.null] [] q (oI r) h9)) (Q := (fun y : (Int32 × Hp) => y = (r, h9))) (fun q x Hq hm => ?_) H rfl
  exact bX12_readNumber_14 Hq (fun s hs => by subst hs; exact hm) (fun z hz => by subst hz; exact hm)
noncomputable def MX12_readNumber (h : Hp) (v0 : Nat) (v1 : Int32) (v2 : Int32) : Option (Int32 × Hp) :=
  gg (kd h v0 = 11) <|
  Option.bind (MX12_blanks h v0) fun h3 =>
  gg (kd h3 v0 = 11) <|
  lt (sI h3 v0 11 (0 : Int32)) fun h5 =>
  MX12_readNumber_14 h5 v0 v1 v2 (gI h3 v0 8)
set_option maxRecDepth 100000 in
set_option maxHeartbeats 8000000 in
theorem eX12_readNumber {d : Nat} {h : Hp} {v0 : Nat} {v1 : Int32} {v2 : Int32} {r : Int32} {h9 : Hp} (H : MX12_readNumber h v0 v1 v2 = some (r, h9)) : J (d + 1) YX12_readNumber 0 [.ref v0, .int v1, .int v2, Value.null, Value.null] [] h (oI r) h9 := by
  unfold MX12_readNumber at H
  refine J_aload_n 0 dX12_readNumber_0 rfl rfl ?_
  obtain ⟨g2, H⟩ := gd H
  obtain ⟨h3, e1, H⟩ := bd H
  refine J_cV (as := []) 11 YX12_blanks 0 dX12_readNumber_1 moX12_blanks mvX12_blanks mlX12_147 g2 rfl (okX12_blanks (d := d) e1) rfl rfl [] rfl rfl (st2 := []) rfl ?_
  refine J_aload_n 0 dX12_readNumber_4 rfl rfl ?_
  obtain ⟨g4, H⟩ := gd H
  refine J_getI 11 8 dX12_readNumber_5 g4 flX12_137 rfl ?_
  refine J_istore_n 3 dX12_readNumber_8 rfl (by decide) (ls' := [.ref v0, .int v1, .int v2, .int (gI h3 v0 8), Value.null]) rfl ?_
  refine J_aload_n 0 dX12_readNumber_9 rfl rfl ?_
  refine J_iconst (0 : Int32) dX12_readNumber_10 kc_0 ?_
  obtain ⟨h5, e6, H⟩ := lt_el H
  refine J_pI 11 11 dX12_readNumber_11 g4 flX12_181 rfl rfl e6 ?_
  have c7 := ekI e6
  have c8 := elI e6
  have c9 := epI e6
  exact J_dr (kX12_readNumber_14 H ) ⟨rfl, ⟨rfl, ⟨rfl, ⟨rfl, trivial⟩⟩⟩⟩
theorem okX12_readNumber {d : Nat} {h : Hp} {v0 : Nat} {v1 : Int32} {v2 : Int32} {r : Int32} {h9 : Hp} (H : MX12_readNumber h v0 v1 v2 = some (r, h9)) : CT (d + 1) YX12_readNumber [.ref v0, .int v1, .int v2] h (oI r) h9 := CT_of (by decide +kernel) (Nat.le_of_ble_eq_true rfl) (eX12_readNumber H)
noncomputable def MX12_tagHere (h : Hp) (v0 : Nat) : Option (Int32 × Hp) :=
  gg (kd h v0 = 11) <|
  b2 (MX12_takes h v0 8) fun t4 h3 =>
  if t4 = 0 then
    gg (kd h3 v0 = 11) <|
    b2 (MX12_takes h3 v0 10) fun t9 h8 =>
    if t9 = 0 then
      gg (kd h8 v0 = 11) <|
      b2 (MX12_takes h8 v0 4) fun t14 h13 =>
      if t14 = 0 then
        some ((-1 : Int32), h13)
      else
        some ((2 : Int32), h13)
    else
      some ((1 : Int32), h8)
  else
    some ((0 : Int32), h3)
set_option maxRecDepth 100000 in
set_option maxHeartbeats 8000000 in
theorem eX12_tagHere {d : Nat} {h : Hp} {v0 : Nat} {r : Int32} {h9 : Hp} (H : MX12_tagHere h v0 = some (r, h9)) : J (d + 5) YX12_tagHere 0 [.ref v0] [] h (oI r) h9 := by
  unfold MX12_tagHere at H
  refine J_aload_n 0 dX12_tagHere_0 rfl rfl ?_
  refine J_lS (tx := "head") dX12_tagHere_1 8 (by decide +kernel) ?_
  obtain ⟨g2, H⟩ := gd H
  obtain ⟨t4, h3, e1, H⟩ := b2_el H
  refine J_cV (as := [.retAddr 8]) 11 YX12_takes 1 dX12_tagHere_3 moX12_takes mvX12_takes mlX12_189 g2 rfl (okX12_takes (d := d) e1) rfl rfl [] rfl rfl (st2 := [.int t4]) rfl ?_
  refine J_if_eq 13 dX12_tagHere_6 rfl (fun q5 => ?_) (fun q5 => ?_)
  · replace H := br1 q5 H
    refine J_aload_n 0 dX12_tagHere_13 rfl rfl ?_
    refine J_lS (tx := "late") dX12_tagHere_14 10 (by decide +kernel) ?_
    obtain ⟨g7, H⟩ := gd H
    obtain ⟨t9, h8, e6, H⟩ := b2_el H
    refine J_cV (as := [.retAddr 10]) 11 YX12_takes 1 dX12_tagHere_16 moX12_takes mvX12_takes mlX12_189 g7 rfl (okX12_takes (d := d) e6) rfl rfl [] rfl rfl (st2 := [.int t9]) rfl ?_
    refine J_if_eq 26 dX12_tagHere_19 rfl (fun q10 => ?_) (fun q10 => ?_)
    · replace H := br1 q10 H
      refine J_aload_n 0 dX12_tagHere_26 rfl rfl ?_
      refine J_lS (tx := "corrected") dX12_tagHere_27 4 (by decide +kernel) ?_
      obtain ⟨g12, H⟩ := gd H
      obtain ⟨t14, h13, e11, H⟩ := b2_el H
      refine J_cV (as := [.retAddr 4]) 11 YX12_takes 1 dX12_tagHere_29 moX12_takes mvX12_takes mlX12_189 g12 rfl (okX12_takes (d := d) e11) rfl rfl [] rfl rfl (st2 := [.int t14]) rfl ?_
      refine J_if_eq 39 dX12_tagHere_32 rfl (fun q15 => ?_) (fun q15 => ?_)
      · replace H := br1 q15 H
        refine J_iconst (-1 : Int32) dX12_tagHere_39 kc_m1 ?_
        cases H
        exact J_iretI dX12_tagHere_40 rfl
      · replace H := br0 q15 H
        refine J_iconst (2 : Int32) dX12_tagHere_35 kc_2 ?_
        refine J_goto 40 dX12_tagHere_36 rfl ?_
        cases H
        exact J_iretI dX12_tagHere_40 rfl
    · replace H := br0 q10 H
      refine J_iconst (1 : Int32) dX12_tagHere_22 kc_1 ?_
      refine J_goto 40 dX12_tagHere_23 rfl ?_
      cases H
      exact J_iretI dX12_tagHere_40 rfl
  · replace H := br0 q5 H
    refine J_iconst (0 : Int32) dX12_tagHere_9 kc_0 ?_
    refine J_goto 40 dX12_tagHere_10 rfl ?_
    cases H
    exact J_iretI dX12_tagHere_40 rfl
theorem okX12_tagHere {d : Nat} {h : Hp} {v0 : Nat} {r : Int32} {h9 : Hp} (H : MX12_tagHere h v0 = some (r, h9)) : CT (d + 5) YX12_tagHere [.ref v0] h (oI r) h9 := CT_of (by decide +kernel) (Nat.le_of_ble_eq_true rfl) (eX12_tagHere H)
noncomputable def BX12_readAny_9 (rc : Nat → Hp → Nat → Option (Int32 × Hp)) (h : Hp) (v0 : Nat) : Option ((Hp) ⊕ (Int32 × Hp)) :=
  gg (kd h v0 = 11) <|
  b2 (MX12_takes h v0 16) fun t9 h8 =>
  if t9 = 0 then
    some (.inr (((1 : Int32), h8)))
  else
    gg (kd h8 v0 = 11) <|
    b2 (rc 2 h8 v0) fun t14 h13 =>
    if t14 = 0 then
      some (.inr (((0 : Int32), h13)))
    else
      gg (kd h13 v0 = 11) <|
      Option.bind (MX12_act h13 v0 (6 : Int32)) fun h18 =>
      some (.inl h18)
set_option maxRecDepth 100000 in
set_option maxHeartbeats 8000000 in
theorem bX12_readAny_9 {d u : Nat} {rc : Nat → Hp → Nat → Option (Int32 × Hp)} {h : Hp} {v0 : Nat} {r : Int32} {h9 : Hp} {x : ((Hp) ⊕ (Int32 × Hp))} (hrc : ∀ (t : Nat) (h : Hp) (a0 : Nat) (r1 : Int32) (h1 : Hp), rc t h a0 = some (r1, h1) → CT (d + u + 5) (YgX12_readAny t) [.ref a0] h (oI r1) h1) (H : BX12_readAny_9 rc h v0 = some x) (hb0 : ∀ s : Hp, x = .inl s → J (d + u + 5 + 1) YX12_readAny 9 [.ref v0] [] s (oI r) h9) (hx : ∀ z : (Int32 × Hp), x = .inr (z) → z = (r, h9)) : J (d + u + 5 + 1) YX12_readAny 9 [.ref v0] [] h (oI r) h9 := by
  unfold BX12_readAny_9 at H
  refine J_aload_n 0 dX12_readAny_9 rfl rfl ?_
  refine J_lS (tx := "or") dX12_readAny_10 16 (by decide +kernel) ?_
  obtain ⟨g7, H⟩ := gd H
  obtain ⟨t9, h8, e6, H⟩ := b2_el H
  refine J_cV (as := [.retAddr 16]) 11 YX12_takes 1 dX12_readAny_12 moX12_takes mvX12_takes mlX12_189 g7 rfl (okX12_takes (d := d + u + 1) e6) rfl rfl [] rfl rfl (st2 := [.int t9]) rfl ?_
  refine J_if_eq 36 dX12_readAny_15 rfl (fun q10 => ?_) (fun q10 => ?_)
  · replace H := br1 q10 H
    refine J_iconst (1 : Int32) dX12_readAny_36 kc_1 ?_
    cases H
    cases hx _ rfl
    exact J_rZ dX12_readAny_37 rfl rfl
  · replace H := br0 q10 H
    refine J_aload_n 0 dX12_readAny_18 rfl rfl ?_
    obtain ⟨g12, H⟩ := gd H
    obtain ⟨t14, h13, e11, H⟩ := b2_el H
    refine J_cV (as := []) 11 YX12_readAll 0 dX12_readAny_19 moX12_readAll mvX12_readAll mlX12_238 g12 rfl (hrc 2 _ _ _ _ e11) rfl rfl [] rfl rfl (st2 := [.int t14]) rfl ?_
    refine J_if_ne 27 dX12_readAny_22 rfl (fun q15 => ?_) (fun q15 => ?_)
    · replace H := br0 q15 H
      refine J_aload_n 0 dX12_readAny_27 rfl rfl ?_
      refine J_bipush (6 : Int32) dX12_readAny_28 kb_6 ?_
      obtain ⟨g17, H⟩ := gd H
      obtain ⟨h18, e16, H⟩ := bd H
      refine J_cV (as := [.int (6 : Int32)]) 11 YX12_act 1 dX12_readAny_30 moX12_act mvX12_act mlX12_220 g17 rfl (okX12_act (d := d + u + 5) e16) rfl rfl [] rfl rfl (st2 := []) rfl ?_
      refine J_goto 9 dX12_readAny_33 rfl ?_
      cases H
      exact J_dr (hb0 _ rfl) ⟨rfl, trivial⟩
    · replace H := br1 q15 H
      refine J_iconst (0 : Int32) dX12_readAny_25 kc_0 ?_
      cases H
      cases hx _ rfl
      exact J_rZ dX12_readAny_26 rfl rfl
noncomputable def MX12_readAny_9 (rc : Nat → Hp → Nat → Option (Int32 × Hp)) (h : Hp) (v0 : Nat) : Option (Int32 × Hp) := it (fun q : Hp => BX12_readAny_9 rc q v0) (h)
set_option maxRecDepth 100000 in
set_option maxHeartbeats 8000000 in
theorem kX12_readAny_9 {d u : Nat} {rc : Nat → Hp → Nat → Option (Int32 × Hp)} {h : Hp} {v0 : Nat} {r : Int32} {h9 : Hp} (hrc : ∀ (t : Nat) (h : Hp) (a0 : Nat) (r1 : Int32) (h1 : Hp), rc t h a0 = some (r1, h1) → CT (d + u + 5) (YgX12_readAny t) [.ref a0] h (oI r1) h1) (H : MX12_readAny_9 rc h v0 = some (r, h9)) : J (d + u + 5 + 1) YX12_readAny 9 [.ref v0] [] h (oI r) h9 := by
  unfold MX12_readAny_9 at H
  refine it_J (G := (fun q : Hp => J (d + u + 5 + 1) YX12_readAny 9 [.ref v0] [] q (oI r) h9)) (Q := (fun y : (Int32 × Hp) => y = (r, h9))) (fun q x Hq hm => ?_) H rfl
  exact bX12_readAny_9 hrc Hq (fun s hs => by subst hs; exact hm) (fun z hz => by subst hz; exact hm)
noncomputable def BX12_readAny (rc : Nat → Hp → Nat → Option (Int32 × Hp)) (h : Hp) (v0 : Nat) : Option (Int32 × Hp) :=
  gg (kd h v0 = 11) <|
  b2 (rc 2 h v0) fun t4 h3 =>
  if t4 = 0 then
    some ((0 : Int32), h3)
  else
    MX12_readAny_9 rc h3 v0
set_option maxRecDepth 100000 in
set_option maxHeartbeats 8000000 in
theorem eX12_readAny {d u : Nat} {rc : Nat → Hp → Nat → Option (Int32 × Hp)} {h : Hp} {v0 : Nat} {r : Int32} {h9 : Hp} (hrc : ∀ (t : Nat) (h : Hp) (a0 : Nat) (r1 : Int32) (h1 : Hp), rc t h a0 = some (r1, h1) → CT (d + u + 5) (YgX12_readAny t) [.ref a0] h (oI r1) h1) (H : BX12_readAny rc h v0 = some (r, h9)) : J (d + u + 5 + 1) YX12_readAny 0 [.ref v0] [] h (oI r) h9 := by
  unfold BX12_readAny at H
  refine J_aload_n 0 dX12_readAny_0 rfl rfl ?_
  obtain ⟨g2, H⟩ := gd H
  obtain ⟨t4, h3, e1, H⟩ := b2_el H
  refine J_cV (as := []) 11 YX12_readAll 0 dX12_readAny_1 moX12_readAll mvX12_readAll mlX12_238 g2 rfl (hrc 2 _ _ _ _ e1) rfl rfl [] rfl rfl (st2 := [.int t4]) rfl ?_
  refine J_if_ne 9 dX12_readAny_4 rfl (fun q5 => ?_) (fun q5 => ?_)
  · replace H := br0 q5 H
    exact J_dr (kX12_readAny_9 hrc H ) ⟨rfl, trivial⟩
  · replace H := br1 q5 H
    refine J_iconst (0 : Int32) dX12_readAny_7 kc_0 ?_
    cases H
    exact J_rZ dX12_readAny_8 rfl rfl
noncomputable def MX12_readAtom_162 (rc : Nat → Hp → Nat → Option (Int32 × Hp)) (h : Hp) (v0 : Nat) : Option (Int32 × Hp) :=
  gg (kd h v0 = 11) <|
  b2 (MX12_fails h v0) fun t33 h32 =>
  gg (zOk t33 = true) <|
  some (t33, h32)
set_option maxRecDepth 100000 in
set_option maxHeartbeats 8000000 in
theorem kX12_readAtom_162 {d u : Nat} {rc : Nat → Hp → Nat → Option (Int32 × Hp)} {h : Hp} {v0 : Nat} {r : Int32} {h9 : Hp} (hrc : ∀ (t : Nat) (h : Hp) (a0 : Nat) (r1 : Int32) (h1 : Hp), rc t h a0 = some (r1, h1) → CT (d + u + 5) (YgX12_readAny t) [.ref a0] h (oI r1) h1) (H : MX12_readAtom_162 rc h v0 = some (r, h9)) : J (d + u + 5 + 1) YX12_readAtom 162 [.ref v0, Value.null, Value.null, Value.null, Value.null, Value.null, Value.null] [] h (oI r) h9 := by
  unfold MX12_readAtom_162 at H
  refine J_aload_n 0 dX12_readAtom_162 rfl rfl ?_
  obtain ⟨g31, H⟩ := gd H
  obtain ⟨t33, h32, e30, H⟩ := b2_el H
  refine J_cV (as := []) 11 YX12_fails 0 dX12_readAtom_163 moX12_fails mvX12_fails mlX12_223 g31 rfl (okX12_fails (d := d + u + 5) e30) rfl rfl [] rfl rfl (st2 := [.int t33]) rfl ?_
  obtain ⟨g34, H⟩ := gd H
  cases H
  exact J_rZ dX12_readAtom_166 rfl g34
noncomputable def MX12_readAtom_177 (rc : Nat → Hp → Nat → Option (Int32 × Hp)) (h : Hp) (v0 : Nat) : Option (Int32 × Hp) :=
  gg (kd h v0 = 11) <|
  lt (sI h v0 10 ((gI h v0 10) - (1 : Int32))) fun h44 =>
  some ((1 : Int32), h44)
set_option maxRecDepth 100000 in
set_option maxHeartbeats 8000000 in
theorem kX12_readAtom_177 {d u : Nat} {rc : Nat → Hp → Nat → Option (Int32 × Hp)} {h : Hp} {v0 : Nat} {r : Int32} {h9 : Hp} (hrc : ∀ (t : Nat) (h : Hp) (a0 : Nat) (r1 : Int32) (h1 : Hp), rc t h a0 = some (r1, h1) → CT (d + u + 5) (YgX12_readAny t) [.ref a0] h (oI r1) h1) (H : MX12_readAtom_177 rc h v0 = some (r, h9)) : J (d + u + 5 + 1) YX12_readAtom 177 [.ref v0, Value.null, Value.null, Value.null, Value.null, Value.null, Value.null] [] h (oI r) h9 := by
  unfold MX12_readAtom_177 at H
  refine J_aload_n 0 dX12_readAtom_177 rfl rfl ?_
  refine J_dup dX12_readAtom_178 rfl ?_
  obtain ⟨g43, H⟩ := gd H
  refine J_getI 11 10 dX12_readAtom_179 g43 flX12_211 rfl ?_
  refine J_iconst (1 : Int32) dX12_readAtom_182 kc_1 ?_
  refine J_isub dX12_readAtom_183 ?_
  obtain ⟨h44, e45, H⟩ := lt_el H
  refine J_pI 11 10 dX12_readAtom_184 g43 flX12_211 rfl rfl e45 ?_
  have c46 := ekI e45
  have c47 := elI e45
  have c48 := epI e45
  refine J_iconst (1 : Int32) dX12_readAtom_187 kc_1 ?_
  cases H
  exact J_rZ dX12_readAtom_188 rfl rfl
noncomputable def MX12_readAtom_121 (rc : Nat → Hp → Nat → Option (Int32 × Hp)) (h : Hp) (v0 : Nat) (v2 : Int32) : Option (Int32 × Hp) :=
  if v2 = 0 then
    gg (kd h v0 = 11) <|
    Option.bind (MX12_blanks h v0) fun h27 =>
    gg (kd h27 v0 = 11) <|
    if (gI h27 v0 7) ≤ (gI h27 v0 8) then
      MX12_readAtom_162 rc h27 v0
    else
      gg (kd h27 (gP h27 v0 5) = 20) <|
      gg (inB (gI h27 v0 8) (ln h27 (gP h27 v0 5)) = true) <|
      if (gI h27 (gP h27 v0 5) (gI h27 v0 8).toNatClampNeg) = (41 : Int32) then
        lt (sI h27 v0 8 ((gI h27 v0 8) + (1 : Int32))) fun h38 =>
        MX12_readAtom_177 rc h38 v0
      else
        MX12_readAtom_162 rc h27 v0
  else
    gg (kd h v0 = 11) <|
    Option.bind (MX12_act h v0 (4 : Int32)) fun h51 =>
    MX12_readAtom_177 rc h51 v0
set_option maxRecDepth 100000 in
set_option maxHeartbeats 8000000 in
theorem kX12_readAtom_121 {d u : Nat} {rc : Nat → Hp → Nat → Option (Int32 × Hp)} {h : Hp} {v0 : Nat} {v2 : Int32} {r : Int32} {h9 : Hp} (hrc : ∀ (t : Nat) (h : Hp) (a0 : Nat) (r1 : Int32) (h1 : Hp), rc t h a0 = some (r1, h1) → CT (d + u + 5) (YgX12_readAny t) [.ref a0] h (oI r1) h1) (H : MX12_readAtom_121 rc h v0 v2 = some (r, h9)) : J (d + u + 5 + 1) YX12_readAtom 121 [.ref v0, Value.null, .int v2, Value.null, Value.null, Value.null, Value.null] [] h (oI r) h9 := by
  unfold MX12_readAtom_121 at H
  refine J_iload_n 2 dX12_readAtom_121 rfl rfl ?_
  refine J_if_eq 133 dX12_readAtom_122 rfl (fun q24 => ?_) (fun q24 => ?_)
  · replace H := br1 q24 H
    refine J_aload_n 0 dX12_readAtom_133 rfl rfl ?_
    obtain ⟨g26, H⟩ := gd H
    obtain ⟨h27, e25, H⟩ := bd H
    refine J_cV (as := []) 11 YX12_blanks 0 dX12_readAtom_134 moX12_blanks mvX12_blanks mlX12_147 g26 rfl (okX12_blanks (d := d + u + 5) e25) rfl rfl [] rfl rfl (st2 := []) rfl ?_
    refine J_aload_n 0 dX12_readAtom_137 rfl rfl ?_
    obtain ⟨g28, H⟩ := gd H
    refine J_getI 11 8 dX12_readAtom_138 g28 flX12_137 rfl ?_
    refine J_aload_n 0 dX12_readAtom_141 rfl rfl ?_
    refine J_getI 11 7 dX12_readAtom_142 g28 flX12_134 rfl ?_
    refine J_icmp_ge 162 dX12_readAtom_145 rfl (fun q29 => ?_) (fun q29 => ?_)
    · replace H := br1 q29 H
      exact J_dr (kX12_readAtom_162 hrc H ) ⟨rfl, trivial⟩
    · replace H := br0 q29 H
      refine J_aload_n 0 dX12_readAtom_148 rfl rfl ?_
      refine J_gP 11 5 dX12_readAtom_149 g28 flX12_20 rfl rfl ?_
      refine J_aload_n 0 dX12_readAtom_152 rfl rfl ?_
      refine J_getI 11 8 dX12_readAtom_153 g28 flX12_137 rfl ?_
      obtain ⟨g35, H⟩ := gd H
      obtain ⟨g36, H⟩ := gd H
      refine J_iald dX12_readAtom_156 g35 (inB_ok g36) ?_
      refine J_bipush (41 : Int32) dX12_readAtom_157 kb_41 ?_
      refine J_icmp_eq 167 dX12_readAtom_159 rfl (fun q37 => ?_) (fun q37 => ?_)
      · replace H := br1 q37 H
        refine J_aload_n 0 dX12_readAtom_167 rfl rfl ?_
        refine J_dup dX12_readAtom_168 rfl ?_
        refine J_getI 11 8 dX12_readAtom_169 g28 flX12_137 rfl ?_
        refine J_iconst (1 : Int32) dX12_readAtom_172 kc_1 ?_
        refine J_iadd dX12_readAtom_173 ?_
        obtain ⟨h38, e39, H⟩ := lt_el H
        refine J_pI 11 8 dX12_readAtom_174 g28 flX12_137 rfl rfl e39 ?_
        have c40 := ekI e39
        have c41 := elI e39
        have c42 := epI e39
        exact J_dr (kX12_readAtom_177 hrc H ) ⟨rfl, trivial⟩
      · replace H := br0 q37 H
        exact J_dr (kX12_readAtom_162 hrc H ) ⟨rfl, trivial⟩
  · replace H := br0 q24 H
    refine J_aload_n 0 dX12_readAtom_125 rfl rfl ?_
    refine J_iconst (4 : Int32) dX12_readAtom_126 kc_4 ?_
    obtain ⟨g50, H⟩ := gd H
    obtain ⟨h51, e49, H⟩ := bd H
    refine J_cV (as := [.int (4 : Int32)]) 11 YX12_act 1 dX12_readAtom_127 moX12_act mvX12_act mlX12_220 g50 rfl (okX12_act (d := d + u + 5) e49) rfl rfl [] rfl rfl (st2 := []) rfl ?_
    refine J_goto 177 dX12_readAtom_130 rfl ?_
    exact J_dr (kX12_readAtom_177 hrc H ) ⟨rfl, trivial⟩
noncomputable def MX12_readAtom_98 (rc : Nat → Hp → Nat → Option (Int32 × Hp)) (h : Hp) (v0 : Nat) (v2 : Int32) : Option (Int32 × Hp) :=
  if v2 = 0 then
    gg (kd h v0 = 11) <|
    b2 (rc 0 h v0) fun t22 h21 =>
    if t22 = 0 then
      some ((0 : Int32), h21)
    else
      MX12_readAtom_121 rc h21 v0 v2
  else
    gg (kd h v0 = 11) <|
    b2 (rc 1 h v0) fun t55 h54 =>
    if t55 = 0 then
      some ((0 : Int32), h54)
    else
      MX12_readAtom_121 rc h54 v0 v2
set_option maxRecDepth 100000 in
set_option maxHeartbeats 8000000 in
theorem kX12_readAtom_98 {d u : Nat} {rc : Nat → Hp → Nat → Option (Int32 × Hp)} {h : Hp} {v0 : Nat} {v2 : Int32} {r : Int32} {h9 : Hp} (hrc : ∀ (t : Nat) (h : Hp) (a0 : Nat) (r1 : Int32) (h1 : Hp), rc t h a0 = some (r1, h1) → CT (d + u + 5) (YgX12_readAny t) [.ref a0] h (oI r1) h1) (H : MX12_readAtom_98 rc h v0 v2 = some (r, h9)) : J (d + u + 5 + 1) YX12_readAtom 98 [.ref v0, Value.null, .int v2, Value.null, Value.null, Value.null, Value.null] [] h (oI r) h9 := by
  unfold MX12_readAtom_98 at H
  refine J_iload_n 2 dX12_readAtom_98 rfl rfl ?_
  refine J_if_eq 112 dX12_readAtom_99 rfl (fun q18 => ?_) (fun q18 => ?_)
  · replace H := br1 q18 H
    refine J_aload_n 0 dX12_readAtom_112 rfl rfl ?_
    obtain ⟨g20, H⟩ := gd H
    obtain ⟨t22, h21, e19, H⟩ := b2_el H
    refine J_cV (as := []) 11 YX12_readAny 0 dX12_readAtom_113 moX12_readAny mvX12_readAny mlX12_217 g20 rfl (hrc 0 _ _ _ _ e19) rfl rfl [] rfl rfl (st2 := [.int t22]) rfl ?_
    refine J_if_ne 121 dX12_readAtom_116 rfl (fun q23 => ?_) (fun q23 => ?_)
    · replace H := br0 q23 H
      exact J_dr (kX12_readAtom_121 hrc H ) ⟨rfl, ⟨rfl, trivial⟩⟩
    · replace H := br1 q23 H
      refine J_iconst (0 : Int32) dX12_readAtom_119 kc_0 ?_
      cases H
      exact J_rZ dX12_readAtom_120 rfl rfl
  · replace H := br0 q18 H
    refine J_aload_n 0 dX12_readAtom_102 rfl rfl ?_
    obtain ⟨g53, H⟩ := gd H
    obtain ⟨t55, h54, e52, H⟩ := b2_el H
    refine J_cV (as := []) 11 YX12_readAtom 0 dX12_readAtom_103 moX12_readAtom mvX12_readAtom mlX12_214 g53 rfl (hrc 1 _ _ _ _ e52) rfl rfl [] rfl rfl (st2 := [.int t55]) rfl ?_
    refine J_if_ne 121 dX12_readAtom_106 rfl (fun q56 => ?_) (fun q56 => ?_)
    · replace H := br0 q56 H
      exact J_dr (kX12_readAtom_121 hrc H ) ⟨rfl, ⟨rfl, trivial⟩⟩
    · replace H := br1 q56 H
      refine J_goto 119 dX12_readAtom_109 rfl ?_
      refine J_iconst (0 : Int32) dX12_readAtom_119 kc_0 ?_
      cases H
      exact J_rZ dX12_readAtom_120 rfl rfl
noncomputable def MX12_readAtom_59 (rc : Nat → Hp → Nat → Option (Int32 × Hp)) (h : Hp) (v0 : Nat) (v1 : Int32) (v2 : Int32) (v3 : Int32) : Option (Int32 × Hp) :=
  gg (kd h v0 = 11) <|
  if (gI h v0 10) = (5 : Int32) then
    lt (sI h v0 9 v1) fun h62 =>
    some ((0 : Int32), h62)
  else
    lt (sI h v0 10 ((gI h v0 10) + (1 : Int32))) fun h12 =>
    if v3 = 0 then
      MX12_readAtom_98 rc h12 v0 v2
    else
      lt (sI h12 v0 8 ((gI h12 v0 8) + (1 : Int32))) fun h57 =>
      MX12_readAtom_98 rc h57 v0 v2
set_option maxRecDepth 100000 in
set_option maxHeartbeats 8000000 in
theorem kX12_readAtom_59 {d u : Nat} {rc : Nat → Hp → Nat → Option (Int32 × Hp)} {h : Hp} {v0 : Nat} {v1 : Int32} {v2 : Int32} {v3 : Int32} {r : Int32} {h9 : Hp} (hrc : ∀ (t : Nat) (h : Hp) (a0 : Nat) (r1 : Int32) (h1 : Hp), rc t h a0 = some (r1, h1) → CT (d + u + 5) (YgX12_readAny t) [.ref a0] h (oI r1) h1) (H : MX12_readAtom_59 rc h v0 v1 v2 v3 = some (r, h9)) : J (d + u + 5 + 1) YX12_readAtom 59 [.ref v0, .int v1, .int v2, .int v3, Value.null, Value.null, Value.null] [] h (oI r) h9 := by
  unfold MX12_readAtom_59 at H
  refine J_aload_n 0 dX12_readAtom_59 rfl rfl ?_
  obtain ⟨g10, H⟩ := gd H
  refine J_getI 11 10 dX12_readAtom_60 g10 flX12_211 rfl ?_
  refine J_iconst (5 : Int32) dX12_readAtom_63 kc_5 ?_
  refine J_icmp_ne 74 dX12_readAtom_64 rfl (fun q11 => ?_) (fun q11 => ?_)
  · replace H := br0 q11 H
    refine J_aload_n 0 dX12_readAtom_74 rfl rfl ?_
    refine J_dup dX12_readAtom_75 rfl ?_
    refine J_getI 11 10 dX12_readAtom_76 g10 flX12_211 rfl ?_
    refine J_iconst (1 : Int32) dX12_readAtom_79 kc_1 ?_
    refine J_iadd dX12_readAtom_80 ?_
    obtain ⟨h12, e13, H⟩ := lt_el H
    refine J_pI 11 10 dX12_readAtom_81 g10 flX12_211 rfl rfl e13 ?_
    have c14 := ekI e13
    have c15 := elI e13
    have c16 := epI e13
    refine J_iload_n 3 dX12_readAtom_84 rfl rfl ?_
    refine J_if_eq 98 dX12_readAtom_85 rfl (fun q17 => ?_) (fun q17 => ?_)
    · replace H := br1 q17 H
      exact J_dr (kX12_readAtom_98 hrc H ) ⟨rfl, ⟨rfl, trivial⟩⟩
    · replace H := br0 q17 H
      refine J_aload_n 0 dX12_readAtom_88 rfl rfl ?_
      refine J_dup dX12_readAtom_89 rfl ?_
      refine J_getI 11 8 dX12_readAtom_90 (kq c14 g10) flX12_137 rfl ?_
      refine J_iconst (1 : Int32) dX12_readAtom_93 kc_1 ?_
      refine J_iadd dX12_readAtom_94 ?_
      obtain ⟨h57, e58, H⟩ := lt_el H
      refine J_pI 11 8 dX12_readAtom_95 (kq c14 g10) flX12_137 rfl rfl e58 ?_
      have c59 := (ekI e58).trans c14
      have c60 := (elI e58).trans c15
      have c61 := (epI e58).trans c16
      exact J_dr (kX12_readAtom_98 hrc H ) ⟨rfl, ⟨rfl, trivial⟩⟩
  · replace H := br1 q11 H
    refine J_aload_n 0 dX12_readAtom_67 rfl rfl ?_
    refine J_iload_n 1 dX12_readAtom_68 rfl rfl ?_
    obtain ⟨h62, e63, H⟩ := lt_el H
    refine J_pI 11 9 dX12_readAtom_69 g10 flX12_23 rfl rfl e63 ?_
    have c64 := ekI e63
    have c65 := elI e63
    have c66 := epI e63
    refine J_iconst (0 : Int32) dX12_readAtom_72 kc_0 ?_
    cases H
    exact J_rZ dX12_readAtom_73 rfl rfl
noncomputable def MX12_readAtom_274 (rc : Nat → Hp → Nat → Option (Int32 × Hp)) (h : Hp) (v0 : Nat) : Option (Int32 × Hp) :=
  gg (kd h v0 = 11) <|
  b2 (MX12_fails h v0) fun t86 h85 =>
  gg (zOk t86 = true) <|
  some (t86, h85)
set_option maxRecDepth 100000 in
set_option maxHeartbeats 8000000 in
theorem kX12_readAtom_274 {d u : Nat} {rc : Nat → Hp → Nat → Option (Int32 × Hp)} {h : Hp} {v0 : Nat} {r : Int32} {h9 : Hp} (hrc : ∀ (t : Nat) (h : Hp) (a0 : Nat) (r1 : Int32) (h1 : Hp), rc t h a0 = some (r1, h1) → CT (d + u + 5) (YgX12_readAny t) [.ref a0] h (oI r1) h1) (H : MX12_readAtom_274 rc h v0 = some (r, h9)) : J (d + u + 5 + 1) YX12_readAtom 274 [.ref v0, Value.null, Value.null, Value.null, Value.null, Value.null, Value.null] [] h (oI r) h9 := by
  unfold MX12_readAtom_274 at H
  refine J_aload_n 0 dX12_readAtom_274 rfl rfl ?_
  obtain ⟨g84, H⟩ := gd H
  obtain ⟨t86, h85, e83, H⟩ := b2_el H
  refine J_cV (as := []) 11 YX12_fails 0 dX12_readAtom_275 moX12_fails mvX12_fails mlX12_223 g84 rfl (okX12_fails (d := d + u + 5) e83) rfl rfl [] rfl rfl (st2 := [.int t86]) rfl ?_
  obtain ⟨g87, H⟩ := gd H
  cases H
  exact J_rZ dX12_readAtom_278 rfl g87
noncomputable def MX12_readAtom_298 (rc : Nat → Hp → Nat → Option (Int32 × Hp)) (h : Hp) (v0 : Nat) (v5 : Int32) (s0 : Int32) : Option (Int32 × Hp) :=
  gg (kd h v0 = 11) <|
  lt (sI h v0 8 ((gI h v0 8) + (1 : Int32))) fun h96 =>
  b2 (MX12_readNumber h96 v0 (0 : Int32) (9999 : Int32)) fun t103 h102 =>
  if t103 = 0 then
    some ((0 : Int32), h102)
  else
    gg (kd h102 v0 = 11) <|
    Option.bind (MX12_act h102 v0 s0) fun h107 =>
    gg (kd h107 v0 = 11) <|
    Option.bind (MX12_act h107 v0 v5) fun h110 =>
    gg (kd h110 v0 = 11) <|
    Option.bind (MX12_act h110 v0 (gI h110 v0 11)) fun h113 =>
    some ((1 : Int32), h113)
set_option maxRecDepth 100000 in
set_option maxHeartbeats 8000000 in
theorem kX12_readAtom_298 {d u : Nat} {rc : Nat → Hp → Nat → Option (Int32 × Hp)} {h : Hp} {v0 : Nat} {v5 : Int32} {s0 : Int32} {r : Int32} {h9 : Hp} (hrc : ∀ (t : Nat) (h : Hp) (a0 : Nat) (r1 : Int32) (h1 : Hp), rc t h a0 = some (r1, h1) → CT (d + u + 5) (YgX12_readAny t) [.ref a0] h (oI r1) h1) (H : MX12_readAtom_298 rc h v0 v5 s0 = some (r, h9)) : J (d + u + 5 + 1) YX12_readAtom 298 [.ref v0, Value.null, Value.null, Value.null, Value.null, .int v5, Value.null] [.int s0] h (oI r) h9 := by
  unfold MX12_readAtom_298 at H
  refine J_istore dX12_readAtom_298 (by decide) (ls' := [.ref v0, Value.null, Value.null, Value.null, Value.null, .int v5, .int s0]) rfl ?_
  refine J_aload_n 0 dX12_readAtom_300 rfl rfl ?_
  refine J_dup dX12_readAtom_301 rfl ?_
  obtain ⟨g95, H⟩ := gd H
  refine J_getI 11 8 dX12_readAtom_302 g95 flX12_137 rfl ?_
  refine J_iconst (1 : Int32) dX12_readAtom_305 kc_1 ?_
  refine J_iadd dX12_readAtom_306 ?_
  obtain ⟨h96, e97, H⟩ := lt_el H
  refine J_pI 11 8 dX12_readAtom_307 g95 flX12_137 rfl rfl e97 ?_
  have c98 := ekI e97
  have c99 := elI e97
  have c100 := epI e97
  refine J_aload_n 0 dX12_readAtom_310 rfl rfl ?_
  refine J_iconst (0 : Int32) dX12_readAtom_311 kc_0 ?_
  refine J_sipush (9999 : Int32) dX12_readAtom_312 ks_9999 ?_
  obtain ⟨t103, h102, e101, H⟩ := b2_el H
  refine J_cV (as := [.int (0 : Int32), .int (9999 : Int32)]) 11 YX12_readNumber 2 dX12_readAtom_315 moX12_readNumber mvX12_readNumber mlX12_232 (kq c98 g95) rfl (okX12_readNumber (d := d + u + 4) e101) rfl rfl [] rfl rfl (st2 := [.int t103]) rfl ?_
  refine J_if_ne 323 dX12_readAtom_318 rfl (fun q104 => ?_) (fun q104 => ?_)
  · replace H := br0 q104 H
    refine J_aload_n 0 dX12_readAtom_323 rfl rfl ?_
    refine J_iload dX12_readAtom_324 rfl ?_
    obtain ⟨g106, H⟩ := gd H
    obtain ⟨h107, e105, H⟩ := bd H
    refine J_cV (as := [.int s0]) 11 YX12_act 1 dX12_readAtom_326 moX12_act mvX12_act mlX12_220 g106 rfl (okX12_act (d := d + u + 5) e105) rfl rfl [] rfl rfl (st2 := []) rfl ?_
    refine J_aload_n 0 dX12_readAtom_329 rfl rfl ?_
    refine J_iload dX12_readAtom_330 rfl ?_
    obtain ⟨g109, H⟩ := gd H
    obtain ⟨h110, e108, H⟩ := bd H
    refine J_cV (as := [.int v5]) 11 YX12_act 1 dX12_readAtom_332 moX12_act mvX12_act mlX12_220 g109 rfl (okX12_act (d := d + u + 5) e108) rfl rfl [] rfl rfl (st2 := []) rfl ?_
    refine J_aload_n 0 dX12_readAtom_335 rfl rfl ?_
    refine J_aload_n 0 dX12_readAtom_336 rfl rfl ?_
    obtain ⟨g111, H⟩ := gd H
    refine J_getI 11 11 dX12_readAtom_337 g111 flX12_181 rfl ?_
    obtain ⟨h113, e112, H⟩ := bd H
    refine J_cV (as := [.int (gI h110 v0 11)]) 11 YX12_act 1 dX12_readAtom_340 moX12_act mvX12_act mlX12_220 g111 rfl (okX12_act (d := d + u + 5) e112) rfl rfl [] rfl rfl (st2 := []) rfl ?_
    refine J_iconst (1 : Int32) dX12_readAtom_343 kc_1 ?_
    cases H
    exact J_rZ dX12_readAtom_344 rfl rfl
  · replace H := br1 q104 H
    refine J_iconst (0 : Int32) dX12_readAtom_321 kc_0 ?_
    cases H
    exact J_rZ dX12_readAtom_322 rfl rfl
noncomputable def MX12_readAtom_279 (rc : Nat → Hp → Nat → Option (Int32 × Hp)) (h : Hp) (v0 : Nat) (v5 : Int32) : Option (Int32 × Hp) :=
  gg (kd h v0 = 11) <|
  gg (kd h (gP h v0 5) = 20) <|
  gg (inB (gI h v0 8) (ln h (gP h v0 5)) = true) <|
  if (gI h (gP h v0 5) (gI h v0 8).toNatClampNeg) = (60 : Int32) then
    MX12_readAtom_298 rc h v0 v5 (2 : Int32)
  else
    MX12_readAtom_298 rc h v0 v5 (3 : Int32)
set_option maxRecDepth 100000 in
set_option maxHeartbeats 8000000 in
theorem kX12_readAtom_279 {d u : Nat} {rc : Nat → Hp → Nat → Option (Int32 × Hp)} {h : Hp} {v0 : Nat} {v5 : Int32} {r : Int32} {h9 : Hp} (hrc : ∀ (t : Nat) (h : Hp) (a0 : Nat) (r1 : Int32) (h1 : Hp), rc t h a0 = some (r1, h1) → CT (d + u + 5) (YgX12_readAny t) [.ref a0] h (oI r1) h1) (H : MX12_readAtom_279 rc h v0 v5 = some (r, h9)) : J (d + u + 5 + 1) YX12_readAtom 279 [.ref v0, Value.null, Value.null, Value.null, Value.null, .int v5, Value.null] [] h (oI r) h9 := by
  unfold MX12_readAtom_279 at H
  refine J_aload_n 0 dX12_readAtom_279 rfl rfl ?_
  obtain ⟨g91, H⟩ := gd H
  refine J_gP 11 5 dX12_readAtom_280 g91 flX12_20 rfl rfl ?_
  refine J_aload_n 0 dX12_readAtom_283 rfl rfl ?_
  refine J_getI 11 8 dX12_readAtom_284 g91 flX12_137 rfl ?_
  obtain ⟨g92, H⟩ := gd H
  obtain ⟨g93, H⟩ := gd H
  refine J_iald dX12_readAtom_287 g92 (inB_ok g93) ?_
  refine J_bipush (60 : Int32) dX12_readAtom_288 kb_60 ?_
  refine J_icmp_ne 297 dX12_readAtom_290 rfl (fun q94 => ?_) (fun q94 => ?_)
  · replace H := br0 q94 H
    refine J_iconst (3 : Int32) dX12_readAtom_297 kc_3 ?_
    exact J_dr (kX12_readAtom_298 hrc H ) ⟨rfl, ⟨rfl, trivial⟩⟩
  · replace H := br1 q94 H
    refine J_iconst (2 : Int32) dX12_readAtom_293 kc_2 ?_
    refine J_goto 298 dX12_readAtom_294 rfl ?_
    exact J_dr (kX12_readAtom_298 hrc H ) ⟨rfl, ⟨rfl, trivial⟩⟩
noncomputable def MX12_readAtom_50 (rc : Nat → Hp → Nat → Option (Int32 × Hp)) (h : Hp) (v0 : Nat) (v1 : Int32) (v2 : Int32) (s0 : Int32) : Option (Int32 × Hp) :=
  if v2 = 0 then
    if s0 = 0 then
      gg (kd h v0 = 11) <|
      b2 (MX12_tagHere h v0) fun t71 h70 =>
      if t71 = (-1 : Int32) then
        gg (kd h70 v0 = 11) <|
        b2 (MX12_factHere h70 v0) fun t76 h75 =>
        if t76 = (-1 : Int32) then
          gg (kd h75 v0 = 11) <|
          b2 (MX12_fails h75 v0) fun t118 h117 =>
          gg (zOk t118 = true) <|
          some (t118, h117)
        else
          gg (kd h75 v0 = 11) <|
          Option.bind (MX12_blanks h75 v0) fun h80 =>
          gg (kd h80 v0 = 11) <|
          if (gI h80 v0 7) ≤ (gI h80 v0 8) then
            MX12_readAtom_274 rc h80 v0
          else
            gg (kd h80 (gP h80 v0 5) = 20) <|
            gg (inB (gI h80 v0 8) (ln h80 (gP h80 v0 5)) = true) <|
            if (gI h80 (gP h80 v0 5) (gI h80 v0 8).toNatClampNeg) = (60 : Int32) then
              MX12_readAtom_279 rc h80 v0 t76
            else
              if (gI h80 (gP h80 v0 5) (gI h80 v0 8).toNatClampNeg) = (62 : Int32) then
                MX12_readAtom_279 rc h80 v0 t76
              else
                MX12_readAtom_274 rc h80 v0
      else
        gg (kd h70 v0 = 11) <|
        Option.bind (MX12_act h70 v0 (1 : Int32)) fun h122 =>
        gg (kd h122 v0 = 11) <|
        Option.bind (MX12_act h122 v0 t71) fun h125 =>
        some ((1 : Int32), h125)
    else
      MX12_readAtom_59 rc h v0 v1 v2 s0
  else
    MX12_readAtom_59 rc h v0 v1 v2 s0
set_option maxRecDepth 100000 in
set_option maxHeartbeats 8000000 in
theorem kX12_readAtom_50 {d u : Nat} {rc : Nat → Hp → Nat → Option (Int32 × Hp)} {h : Hp} {v0 : Nat} {v1 : Int32} {v2 : Int32} {s0 : Int32} {r : Int32} {h9 : Hp} (hrc : ∀ (t : Nat) (h : Hp) (a0 : Nat) (r1 : Int32) (h1 : Hp), rc t h a0 = some (r1, h1) → CT (d + u + 5) (YgX12_readAny t) [.ref a0] h (oI r1) h1) (H : MX12_readAtom_50 rc h v0 v1 v2 s0 = some (r, h9)) : J (d + u + 5 + 1) YX12_readAtom 50 [.ref v0, .int v1, .int v2, Value.null, Value.null, Value.null, Value.null] [.int s0] h (oI r) h9 := by
  unfold MX12_readAtom_50 at H
  refine J_istore_n 3 dX12_readAtom_50 rfl (by decide) (ls' := [.ref v0, .int v1, .int v2, .int s0, Value.null, Value.null, Value.null]) rfl ?_
  refine J_iload_n 2 dX12_readAtom_51 rfl rfl ?_
  refine J_if_ne 59 dX12_readAtom_52 rfl (fun q9 => ?_) (fun q9 => ?_)
  · replace H := br0 q9 H
    exact J_dr (kX12_readAtom_59 hrc H ) ⟨rfl, ⟨rfl, ⟨rfl, ⟨rfl, trivial⟩⟩⟩⟩
  · replace H := br1 q9 H
    refine J_iload_n 3 dX12_readAtom_55 rfl rfl ?_
    refine J_if_eq 189 dX12_readAtom_56 rfl (fun q67 => ?_) (fun q67 => ?_)
    · replace H := br1 q67 H
      refine J_aload_n 0 dX12_readAtom_189 rfl rfl ?_
      obtain ⟨g69, H⟩ := gd H
      obtain ⟨t71, h70, e68, H⟩ := b2_el H
      refine J_cV (as := []) 11 YX12_tagHere 0 dX12_readAtom_190 moX12_tagHere mvX12_tagHere mlX12_226 g69 rfl (okX12_tagHere (d := d + u) e68) rfl rfl [] rfl rfl (st2 := [.int t71]) rfl ?_
      refine J_istore dX12_readAtom_193 (by decide) (ls' := [.ref v0, .int v1, .int v2, .int s0, .int t71, Value.null, Value.null]) rfl ?_
      refine J_iload dX12_readAtom_195 rfl ?_
      refine J_iconst (-1 : Int32) dX12_readAtom_197 kc_m1 ?_
      refine J_icmp_eq 214 dX12_readAtom_198 rfl (fun q72 => ?_) (fun q72 => ?_)
      · replace H := br1 q72 H
        refine J_aload_n 0 dX12_readAtom_214 rfl rfl ?_
        obtain ⟨g74, H⟩ := gd H
        obtain ⟨t76, h75, e73, H⟩ := b2_el H
        refine J_cV (as := []) 11 YX12_factHere 0 dX12_readAtom_215 moX12_factHere mvX12_factHere mlX12_229 g74 rfl (okX12_factHere (d := d + u) e73) rfl rfl [] rfl rfl (st2 := [.int t76]) rfl ?_
        refine J_istore dX12_readAtom_218 (by decide) (ls' := [.ref v0, .int v1, .int v2, .int s0, .int t71, .int t76, Value.null]) rfl ?_
        refine J_iload dX12_readAtom_220 rfl ?_
        refine J_iconst (-1 : Int32) dX12_readAtom_222 kc_m1 ?_
        refine J_icmp_ne 231 dX12_readAtom_223 rfl (fun q77 => ?_) (fun q77 => ?_)
        · replace H := br0 q77 H
          refine J_aload_n 0 dX12_readAtom_231 rfl rfl ?_
          obtain ⟨g79, H⟩ := gd H
          obtain ⟨h80, e78, H⟩ := bd H
          refine J_cV (as := []) 11 YX12_blanks 0 dX12_readAtom_232 moX12_blanks mvX12_blanks mlX12_147 g79 rfl (okX12_blanks (d := d + u + 5) e78) rfl rfl [] rfl rfl (st2 := []) rfl ?_
          refine J_aload_n 0 dX12_readAtom_235 rfl rfl ?_
          obtain ⟨g81, H⟩ := gd H
          refine J_getI 11 8 dX12_readAtom_236 g81 flX12_137 rfl ?_
          refine J_aload_n 0 dX12_readAtom_239 rfl rfl ?_
          refine J_getI 11 7 dX12_readAtom_240 g81 flX12_134 rfl ?_
          refine J_icmp_ge 274 dX12_readAtom_243 rfl (fun q82 => ?_) (fun q82 => ?_)
          · replace H := br1 q82 H
            exact J_dr (kX12_readAtom_274 hrc H ) ⟨rfl, trivial⟩
          · replace H := br0 q82 H
            refine J_aload_n 0 dX12_readAtom_246 rfl rfl ?_
            refine J_gP 11 5 dX12_readAtom_247 g81 flX12_20 rfl rfl ?_
            refine J_aload_n 0 dX12_readAtom_250 rfl rfl ?_
            refine J_getI 11 8 dX12_readAtom_251 g81 flX12_137 rfl ?_
            obtain ⟨g88, H⟩ := gd H
            obtain ⟨g89, H⟩ := gd H
            refine J_iald dX12_readAtom_254 g88 (inB_ok g89) ?_
            refine J_bipush (60 : Int32) dX12_readAtom_255 kb_60 ?_
            refine J_icmp_eq 279 dX12_readAtom_257 rfl (fun q90 => ?_) (fun q90 => ?_)
            · replace H := br1 q90 H
              exact J_dr (kX12_readAtom_279 hrc H ) ⟨rfl, ⟨rfl, trivial⟩⟩
            · replace H := br0 q90 H
              refine J_aload_n 0 dX12_readAtom_260 rfl rfl ?_
              refine J_gP 11 5 dX12_readAtom_261 g81 flX12_20 rfl rfl ?_
              refine J_aload_n 0 dX12_readAtom_264 rfl rfl ?_
              refine J_getI 11 8 dX12_readAtom_265 g81 flX12_137 rfl ?_
              refine J_iald dX12_readAtom_268 g88 (inB_ok g89) ?_
              refine J_bipush (62 : Int32) dX12_readAtom_269 kb_62 ?_
              refine J_icmp_eq 279 dX12_readAtom_271 rfl (fun q114 => ?_) (fun q114 => ?_)
              · replace H := br1 q114 H
                exact J_dr (kX12_readAtom_279 hrc H ) ⟨rfl, ⟨rfl, trivial⟩⟩
              · replace H := br0 q114 H
                exact J_dr (kX12_readAtom_274 hrc H ) ⟨rfl, trivial⟩
        · replace H := br1 q77 H
          refine J_aload_n 0 dX12_readAtom_226 rfl rfl ?_
          obtain ⟨g116, H⟩ := gd H
          obtain ⟨t118, h117, e115, H⟩ := b2_el H
          refine J_cV (as := []) 11 YX12_fails 0 dX12_readAtom_227 moX12_fails mvX12_fails mlX12_223 g116 rfl (okX12_fails (d := d + u + 5) e115) rfl rfl [] rfl rfl (st2 := [.int t118]) rfl ?_
          obtain ⟨g119, H⟩ := gd H
          cases H
          exact J_rZ dX12_readAtom_230 rfl g119
      · replace H := br0 q72 H
        refine J_aload_n 0 dX12_readAtom_201 rfl rfl ?_
        refine J_iconst (1 : Int32) dX12_readAtom_202 kc_1 ?_
        obtain ⟨g121, H⟩ := gd H
        obtain ⟨h122, e120, H⟩ := bd H
        refine J_cV (as := [.int (1 : Int32)]) 11 YX12_act 1 dX12_readAtom_203 moX12_act mvX12_act mlX12_220 g121 rfl (okX12_act (d := d + u + 5) e120) rfl rfl [] rfl rfl (st2 := []) rfl ?_
        refine J_aload_n 0 dX12_readAtom_206 rfl rfl ?_
        refine J_iload dX12_readAtom_207 rfl ?_
        obtain ⟨g124, H⟩ := gd H
        obtain ⟨h125, e123, H⟩ := bd H
        refine J_cV (as := [.int t71]) 11 YX12_act 1 dX12_readAtom_209 moX12_act mvX12_act mlX12_220 g124 rfl (okX12_act (d := d + u + 5) e123) rfl rfl [] rfl rfl (st2 := []) rfl ?_
        refine J_iconst (1 : Int32) dX12_readAtom_212 kc_1 ?_
        cases H
        exact J_rZ dX12_readAtom_213 rfl rfl
    · replace H := br0 q67 H
      exact J_dr (kX12_readAtom_59 hrc H ) ⟨rfl, ⟨rfl, ⟨rfl, ⟨rfl, trivial⟩⟩⟩⟩
noncomputable def MX12_readAtom_49 (rc : Nat → Hp → Nat → Option (Int32 × Hp)) (h : Hp) (v0 : Nat) (v1 : Int32) (v2 : Int32) : Option (Int32 × Hp) :=
  MX12_readAtom_50 rc h v0 v1 v2 (0 : Int32)
set_option maxRecDepth 100000 in
set_option maxHeartbeats 8000000 in
theorem kX12_readAtom_49 {d u : Nat} {rc : Nat → Hp → Nat → Option (Int32 × Hp)} {h : Hp} {v0 : Nat} {v1 : Int32} {v2 : Int32} {r : Int32} {h9 : Hp} (hrc : ∀ (t : Nat) (h : Hp) (a0 : Nat) (r1 : Int32) (h1 : Hp), rc t h a0 = some (r1, h1) → CT (d + u + 5) (YgX12_readAny t) [.ref a0] h (oI r1) h1) (H : MX12_readAtom_49 rc h v0 v1 v2 = some (r, h9)) : J (d + u + 5 + 1) YX12_readAtom 49 [.ref v0, .int v1, .int v2, Value.null, Value.null, Value.null, Value.null] [] h (oI r) h9 := by
  unfold MX12_readAtom_49 at H
  refine J_iconst (0 : Int32) dX12_readAtom_49 kc_0 ?_
  exact J_dr (kX12_readAtom_50 hrc H ) ⟨rfl, ⟨rfl, ⟨rfl, trivial⟩⟩⟩
noncomputable def BX12_readAtom (rc : Nat → Hp → Nat → Option (Int32 × Hp)) (h : Hp) (v0 : Nat) : Option (Int32 × Hp) :=
  gg (kd h v0 = 11) <|
  Option.bind (MX12_blanks h v0) fun h3 =>
  gg (kd h3 v0 = 11) <|
  b2 (MX12_takes h3 v0 15) fun t7 h6 =>
  if t7 = 0 then
    gg (kd h6 v0 = 11) <|
    if (gI h6 v0 7) ≤ (gI h6 v0 8) then
      MX12_readAtom_49 rc h6 v0 (gI h3 v0 8) t7
    else
      gg (kd h6 (gP h6 v0 5) = 20) <|
      gg (inB (gI h6 v0 8) (ln h6 (gP h6 v0 5)) = true) <|
      if (gI h6 (gP h6 v0 5) (gI h6 v0 8).toNatClampNeg) = (40 : Int32) then
        MX12_readAtom_50 rc h6 v0 (gI h3 v0 8) t7 (1 : Int32)
      else
        MX12_readAtom_49 rc h6 v0 (gI h3 v0 8) t7
  else
    MX12_readAtom_49 rc h6 v0 (gI h3 v0 8) t7
set_option maxRecDepth 100000 in
set_option maxHeartbeats 8000000 in
theorem eX12_readAtom {d u : Nat} {rc : Nat → Hp → Nat → Option (Int32 × Hp)} {h : Hp} {v0 : Nat} {r : Int32} {h9 : Hp} (hrc : ∀ (t : Nat) (h : Hp) (a0 : Nat) (r1 : Int32) (h1 : Hp), rc t h a0 = some (r1, h1) → CT (d + u + 5) (YgX12_readAny t) [.ref a0] h (oI r1) h1) (H : BX12_readAtom rc h v0 = some (r, h9)) : J (d + u + 5 + 1) YX12_readAtom 0 [.ref v0, Value.null, Value.null, Value.null, Value.null, Value.null, Value.null] [] h (oI r) h9 := by
  unfold BX12_readAtom at H
  refine J_aload_n 0 dX12_readAtom_0 rfl rfl ?_
  obtain ⟨g2, H⟩ := gd H
  obtain ⟨h3, e1, H⟩ := bd H
  refine J_cV (as := []) 11 YX12_blanks 0 dX12_readAtom_1 moX12_blanks mvX12_blanks mlX12_147 g2 rfl (okX12_blanks (d := d + u + 5) e1) rfl rfl [] rfl rfl (st2 := []) rfl ?_
  refine J_aload_n 0 dX12_readAtom_4 rfl rfl ?_
  obtain ⟨g4, H⟩ := gd H
  refine J_getI 11 8 dX12_readAtom_5 g4 flX12_137 rfl ?_
  refine J_istore_n 1 dX12_readAtom_8 rfl (by decide) (ls' := [.ref v0, .int (gI h3 v0 8), Value.null, Value.null, Value.null, Value.null, Value.null]) rfl ?_
  refine J_aload_n 0 dX12_readAtom_9 rfl rfl ?_
  refine J_lS (tx := "not") dX12_readAtom_10 15 (by decide +kernel) ?_
  obtain ⟨t7, h6, e5, H⟩ := b2_el H
  refine J_cV (as := [.retAddr 15]) 11 YX12_takes 1 dX12_readAtom_12 moX12_takes mvX12_takes mlX12_189 g4 rfl (okX12_takes (d := d + u + 1) e5) rfl rfl [] rfl rfl (st2 := [.int t7]) rfl ?_
  refine J_istore_n 2 dX12_readAtom_15 rfl (by decide) (ls' := [.ref v0, .int (gI h3 v0 8), .int t7, Value.null, Value.null, Value.null, Value.null]) rfl ?_
  refine J_iload_n 2 dX12_readAtom_16 rfl rfl ?_
  refine J_if_ne 49 dX12_readAtom_17 rfl (fun q8 => ?_) (fun q8 => ?_)
  · replace H := br0 q8 H
    exact J_dr (kX12_readAtom_49 hrc H ) ⟨rfl, ⟨rfl, ⟨rfl, trivial⟩⟩⟩
  · replace H := br1 q8 H
    refine J_aload_n 0 dX12_readAtom_20 rfl rfl ?_
    obtain ⟨g126, H⟩ := gd H
    refine J_getI 11 8 dX12_readAtom_21 g126 flX12_137 rfl ?_
    refine J_aload_n 0 dX12_readAtom_24 rfl rfl ?_
    refine J_getI 11 7 dX12_readAtom_25 g126 flX12_134 rfl ?_
    refine J_icmp_ge 49 dX12_readAtom_28 rfl (fun q127 => ?_) (fun q127 => ?_)
    · replace H := br1 q127 H
      exact J_dr (kX12_readAtom_49 hrc H ) ⟨rfl, ⟨rfl, ⟨rfl, trivial⟩⟩⟩
    · replace H := br0 q127 H
      refine J_aload_n 0 dX12_readAtom_31 rfl rfl ?_
      refine J_gP 11 5 dX12_readAtom_32 g126 flX12_20 rfl rfl ?_
      refine J_aload_n 0 dX12_readAtom_35 rfl rfl ?_
      refine J_getI 11 8 dX12_readAtom_36 g126 flX12_137 rfl ?_
      obtain ⟨g128, H⟩ := gd H
      obtain ⟨g129, H⟩ := gd H
      refine J_iald dX12_readAtom_39 g128 (inB_ok g129) ?_
      refine J_bipush (40 : Int32) dX12_readAtom_40 kb_40 ?_
      refine J_icmp_ne 49 dX12_readAtom_42 rfl (fun q130 => ?_) (fun q130 => ?_)
      · replace H := br0 q130 H
        exact J_dr (kX12_readAtom_49 hrc H ) ⟨rfl, ⟨rfl, ⟨rfl, trivial⟩⟩⟩
      · replace H := br1 q130 H
        refine J_iconst (1 : Int32) dX12_readAtom_45 kc_1 ?_
        refine J_goto 50 dX12_readAtom_46 rfl ?_
        exact J_dr (kX12_readAtom_50 hrc H ) ⟨rfl, ⟨rfl, ⟨rfl, trivial⟩⟩⟩
noncomputable def BX12_readAll_9 (rc : Nat → Hp → Nat → Option (Int32 × Hp)) (h : Hp) (v0 : Nat) : Option ((Hp) ⊕ (Int32 × Hp)) :=
  gg (kd h v0 = 11) <|
  b2 (MX12_takes h v0 0) fun t9 h8 =>
  if t9 = 0 then
    some (.inr (((1 : Int32), h8)))
  else
    gg (kd h8 v0 = 11) <|
    b2 (rc 1 h8 v0) fun t14 h13 =>
    if t14 = 0 then
      some (.inr (((0 : Int32), h13)))
    else
      gg (kd h13 v0 = 11) <|
      Option.bind (MX12_act h13 v0 (5 : Int32)) fun h18 =>
      some (.inl h18)
set_option maxRecDepth 100000 in
set_option maxHeartbeats 8000000 in
theorem bX12_readAll_9 {d u : Nat} {rc : Nat → Hp → Nat → Option (Int32 × Hp)} {h : Hp} {v0 : Nat} {r : Int32} {h9 : Hp} {x : ((Hp) ⊕ (Int32 × Hp))} (hrc : ∀ (t : Nat) (h : Hp) (a0 : Nat) (r1 : Int32) (h1 : Hp), rc t h a0 = some (r1, h1) → CT (d + u + 5) (YgX12_readAny t) [.ref a0] h (oI r1) h1) (H : BX12_readAll_9 rc h v0 = some x) (hb0 : ∀ s : Hp, x = .inl s → J (d + u + 5 + 1) YX12_readAll 9 [.ref v0] [] s (oI r) h9) (hx : ∀ z : (Int32 × Hp), x = .inr (z) → z = (r, h9)) : J (d + u + 5 + 1) YX12_readAll 9 [.ref v0] [] h (oI r) h9 := by
  unfold BX12_readAll_9 at H
  refine J_aload_n 0 dX12_readAll_9 rfl rfl ?_
  refine J_lS (tx := "and") dX12_readAll_10 0 (by decide +kernel) ?_
  obtain ⟨g7, H⟩ := gd H
  obtain ⟨t9, h8, e6, H⟩ := b2_el H
  refine J_cV (as := [.retAddr 0]) 11 YX12_takes 1 dX12_readAll_12 moX12_takes mvX12_takes mlX12_189 g7 rfl (okX12_takes (d := d + u + 1) e6) rfl rfl [] rfl rfl (st2 := [.int t9]) rfl ?_
  refine J_if_eq 35 dX12_readAll_15 rfl (fun q10 => ?_) (fun q10 => ?_)
  · replace H := br1 q10 H
    refine J_iconst (1 : Int32) dX12_readAll_35 kc_1 ?_
    cases H
    cases hx _ rfl
    exact J_rZ dX12_readAll_36 rfl rfl
  · replace H := br0 q10 H
    refine J_aload_n 0 dX12_readAll_18 rfl rfl ?_
    obtain ⟨g12, H⟩ := gd H
    obtain ⟨t14, h13, e11, H⟩ := b2_el H
    refine J_cV (as := []) 11 YX12_readAtom 0 dX12_readAll_19 moX12_readAtom mvX12_readAtom mlX12_214 g12 rfl (hrc 1 _ _ _ _ e11) rfl rfl [] rfl rfl (st2 := [.int t14]) rfl ?_
    refine J_if_ne 27 dX12_readAll_22 rfl (fun q15 => ?_) (fun q15 => ?_)
    · replace H := br0 q15 H
      refine J_aload_n 0 dX12_readAll_27 rfl rfl ?_
      refine J_iconst (5 : Int32) dX12_readAll_28 kc_5 ?_
      obtain ⟨g17, H⟩ := gd H
      obtain ⟨h18, e16, H⟩ := bd H
      refine J_cV (as := [.int (5 : Int32)]) 11 YX12_act 1 dX12_readAll_29 moX12_act mvX12_act mlX12_220 g17 rfl (okX12_act (d := d + u + 5) e16) rfl rfl [] rfl rfl (st2 := []) rfl ?_
      refine J_goto 9 dX12_readAll_32 rfl ?_
      cases H
      exact J_dr (hb0 _ rfl) ⟨rfl, trivial⟩
    · replace H := br1 q15 H
      refine J_iconst (0 : Int32) dX12_readAll_25 kc_0 ?_
      cases H
      cases hx _ rfl
      exact J_rZ dX12_readAll_26 rfl rfl
noncomputable def MX12_readAll_9 (rc : Nat → Hp → Nat → Option (Int32 × Hp)) (h : Hp) (v0 : Nat) : Option (Int32 × Hp) := it (fun q : Hp => BX12_readAll_9 rc q v0) (h)
set_option maxRecDepth 100000 in
set_option maxHeartbeats 8000000 in
theorem kX12_readAll_9 {d u : Nat} {rc : Nat → Hp → Nat → Option (Int32 × Hp)} {h : Hp} {v0 : Nat} {r : Int32} {h9 : Hp} (hrc : ∀ (t : Nat) (h : Hp) (a0 : Nat) (r1 : Int32) (h1 : Hp), rc t h a0 = some (r1, h1) → CT (d + u + 5) (YgX12_readAny t) [.ref a0] h (oI r1) h1) (H : MX12_readAll_9 rc h v0 = some (r, h9)) : J (d + u + 5 + 1) YX12_readAll 9 [.ref v0] [] h (oI r) h9 := by
  unfold MX12_readAll_9 at H
  refine it_J (G := (fun q : Hp => J (d + u + 5 + 1) YX12_readAll 9 [.ref v0] [] q (oI r) h9)) (Q := (fun y : (Int32 × Hp) => y = (r, h9))) (fun q x Hq hm => ?_) H rfl
  exact bX12_readAll_9 hrc Hq (fun s hs => by subst hs; exact hm) (fun z hz => by subst hz; exact hm)
noncomputable def BX12_readAll (rc : Nat → Hp → Nat → Option (Int32 × Hp)) (h : Hp) (v0 : Nat) : Option (Int32 × Hp) :=
  gg (kd h v0 = 11) <|
  b2 (rc 1 h v0) fun t4 h3 =>
  if t4 = 0 then
    some ((0 : Int32), h3)
  else
    MX12_readAll_9 rc h3 v0
set_option maxRecDepth 100000 in
set_option maxHeartbeats 8000000 in
theorem eX12_readAll {d u : Nat} {rc : Nat → Hp → Nat → Option (Int32 × Hp)} {h : Hp} {v0 : Nat} {r : Int32} {h9 : Hp} (hrc : ∀ (t : Nat) (h : Hp) (a0 : Nat) (r1 : Int32) (h1 : Hp), rc t h a0 = some (r1, h1) → CT (d + u + 5) (YgX12_readAny t) [.ref a0] h (oI r1) h1) (H : BX12_readAll rc h v0 = some (r, h9)) : J (d + u + 5 + 1) YX12_readAll 0 [.ref v0] [] h (oI r) h9 := by
  unfold BX12_readAll at H
  refine J_aload_n 0 dX12_readAll_0 rfl rfl ?_
  obtain ⟨g2, H⟩ := gd H
  obtain ⟨t4, h3, e1, H⟩ := b2_el H
  refine J_cV (as := []) 11 YX12_readAtom 0 dX12_readAll_1 moX12_readAtom mvX12_readAtom mlX12_214 g2 rfl (hrc 1 _ _ _ _ e1) rfl rfl [] rfl rfl (st2 := [.int t4]) rfl ?_
  refine J_if_ne 9 dX12_readAll_4 rfl (fun q5 => ?_) (fun q5 => ?_)
  · replace H := br0 q5 H
    exact J_dr (kX12_readAll_9 hrc H ) ⟨rfl, trivial⟩
  · replace H := br1 q5 H
    refine J_iconst (0 : Int32) dX12_readAll_7 kc_0 ?_
    cases H
    exact J_rZ dX12_readAll_8 rfl rfl
def YgX12_readAny (t : Nat) : Mt := if t = 0 then YX12_readAny else if t = 1 then YX12_readAtom else YX12_readAll
noncomputable def RX12_readAny : Nat → Nat → Hp → Nat → Option (Int32 × Hp)
  | 0 => fun _ _ _ => none
  | u + 1 => fun t h a0 => if t = 0 then BX12_readAny (RX12_readAny u) h a0 else if t = 1 then BX12_readAtom (RX12_readAny u) h a0 else BX12_readAll (RX12_readAny u) h a0
theorem okRX12_readAny (d : Nat) : ∀ (u t : Nat) (h : Hp) (a0 : Nat) (r1 : Int32) (h1 : Hp), RX12_readAny u t h a0 = some (r1, h1) → CT (d + u + 5) (YgX12_readAny t) [.ref a0] h (oI r1) h1 := by
  intro u
  induction u with
  | zero => intro t h a0 r1 h1 H; cases H
  | succ u ih =>
    intro t h a0 r1 h1 H
    simp only [RX12_readAny] at H
    by_cases q0 : t = 0
    · subst q0
      exact CT_of (by decide +kernel) (Nat.le_of_ble_eq_true rfl) (eX12_readAny (d := d) (u := u) ih H)
    rw [if_neg q0] at H
    by_cases q1 : t = 1
    · subst q1
      exact CT_of (by decide +kernel) (Nat.le_of_ble_eq_true rfl) (eX12_readAtom (d := d) (u := u) ih H)
    rw [if_neg q1] at H
    have eY : YgX12_readAny t = YX12_readAll := by simp only [YgX12_readAny]; rw [if_neg q0]; rw [if_neg q1]
    rw [eY]
    exact CT_of (by decide +kernel) (Nat.le_of_ble_eq_true rfl) (eX12_readAll (d := d) (u := u) ih H)
noncomputable def MX12_readAny (u : Nat) (h : Hp) (v0 : Nat) : Option (Int32 × Hp) := RX12_readAny u 0 h v0
theorem okX12_readAny {d : Nat} {h : Hp} {v0 : Nat} {r : Int32} {h9 : Hp} (H : MX12_readAny 30 h v0 = some (r, h9)) : CT (d + 35) YX12_readAny [.ref v0] h (oI r) h9 := okRX12_readAny d 30 0 _ _ _ _ H
noncomputable def MX12_readAtom (u : Nat) (h : Hp) (v0 : Nat) : Option (Int32 × Hp) := RX12_readAny u 1 h v0
theorem okX12_readAtom {d : Nat} {h : Hp} {v0 : Nat} {r : Int32} {h9 : Hp} (H : MX12_readAtom 30 h v0 = some (r, h9)) : CT (d + 35) YX12_readAtom [.ref v0] h (oI r) h9 := okRX12_readAny d 30 1 _ _ _ _ H
noncomputable def MX12_readAll (u : Nat) (h : Hp) (v0 : Nat) : Option (Int32 × Hp) := RX12_readAny u 2 h v0
theorem okX12_readAll {d : Nat} {h : Hp} {v0 : Nat} {r : Int32} {h9 : Hp} (H : MX12_readAll 30 h v0 = some (r, h9)) : CT (d + 35) YX12_readAll [.ref v0] h (oI r) h9 := okRX12_readAny d 30 2 _ _ _ _ H
noncomputable def MX12_readIf (h : Hp) (v0 : Nat) (v1 : Int32) : Option (Int32 × Hp) :=
  gg (kd h v0 = 11) <|
  b2 (MX12_takes h v0 9) fun t4 h3 =>
  if t4 = 0 then
    if v1 = 0 then
      some ((1 : Int32), h3)
    else
      gg (kd h3 v0 = 11) <|
      b2 (MX12_fails h3 v0) fun t31 h30 =>
      if t31 = 0 then
        some ((0 : Int32), h30)
      else
        some ((1 : Int32), h30)
  else
    gg (kd h3 v0 = 11) <|
    gg (kd h3 (gP h3 v0 18) = 20) <|
    gg (inB (((2 : Int32) + ((5 : Int32) * (gI h3 v0 19))) + (3 : Int32)) (ln h3 (gP h3 v0 18)) = true) <|
    lt (sI h3 (gP h3 v0 18) (((2 : Int32) + ((5 : Int32) * (gI h3 v0 19))) + (3 : Int32)).toNatClampNeg (gI h3 v0 20)) fun h9 =>
    b2 (MX12_readAny 30 h9 v0) fun t16 h15 =>
    if t16 = 0 then
      some ((0 : Int32), h15)
    else
      gg (kd h15 v0 = 11) <|
      gg (kd h15 (gP h15 v0 18) = 20) <|
      gg (inB (((2 : Int32) + ((5 : Int32) * (gI h3 v0 19))) + (3 : Int32)) (ln h15 (gP h15 v0 18)) = true) <|
      gg (inB (((2 : Int32) + ((5 : Int32) * (gI h3 v0 19))) + (4 : Int32)) (ln h15 (gP h15 v0 18)) = true) <|
      lt (sI h15 (gP h15 v0 18) (((2 : Int32) + ((5 : Int32) * (gI h3 v0 19))) + (4 : Int32)).toNatClampNeg ((gI h15 v0 20) - (gI h15 (gP h15 v0 18) (((2 : Int32) + ((5 : Int32) * (gI h3 v0 19))) + (3 : Int32)).toNatClampNeg))) fun h22 =>
      some ((1 : Int32), h22)
set_option maxRecDepth 100000 in
set_option maxHeartbeats 8000000 in
theorem eX12_readIf {d : Nat} {h : Hp} {v0 : Nat} {v1 : Int32} {r : Int32} {h9 : Hp} (H : MX12_readIf h v0 v1 = some (r, h9)) : J (d + 36) YX12_readIf 0 [.ref v0, .int v1, Value.null] [] h (oI r) h9 := by
  unfold MX12_readIf at H
  refine J_aload_n 0 dX12_readIf_0 rfl rfl ?_
  refine J_lS (tx := "if") dX12_readIf_1 9 (by decide +kernel) ?_
  obtain ⟨g2, H⟩ := gd H
  obtain ⟨t4, h3, e1, H⟩ := b2_el H
  refine J_cV (as := [.retAddr 9]) 11 YX12_takes 1 dX12_readIf_3 moX12_takes mvX12_takes mlX12_189 g2 rfl (okX12_takes (d := d + 31) e1) rfl rfl [] rfl rfl (st2 := [.int t4]) rfl ?_
  refine J_if_ne 26 dX12_readIf_6 rfl (fun q5 => ?_) (fun q5 => ?_)
  · replace H := br0 q5 H
    refine J_iconst (2 : Int32) dX12_readIf_26 kc_2 ?_
    refine J_iconst (5 : Int32) dX12_readIf_27 kc_5 ?_
    refine J_aload_n 0 dX12_readIf_28 rfl rfl ?_
    obtain ⟨g6, H⟩ := gd H
    refine J_getI 11 19 dX12_readIf_29 g6 flX12_245 rfl ?_
    refine J_imul dX12_readIf_32 ?_
    refine J_iadd dX12_readIf_33 ?_
    refine J_istore_n 2 dX12_readIf_34 rfl (by decide) (ls' := [.ref v0, .int v1, .int ((2 : Int32) + ((5 : Int32) * (gI h3 v0 19)))]) rfl ?_
    refine J_aload_n 0 dX12_readIf_35 rfl rfl ?_
    refine J_gP 11 18 dX12_readIf_36 g6 flX12_42 rfl rfl ?_
    refine J_iload_n 2 dX12_readIf_39 rfl rfl ?_
    refine J_iconst (3 : Int32) dX12_readIf_40 kc_3 ?_
    refine J_iadd dX12_readIf_41 ?_
    refine J_aload_n 0 dX12_readIf_42 rfl rfl ?_
    refine J_getI 11 20 dX12_readIf_43 g6 flX12_184 rfl ?_
    obtain ⟨g7, H⟩ := gd H
    obtain ⟨g8, H⟩ := gd H
    obtain ⟨h9, e10, H⟩ := lt_el H
    refine J_sI dX12_readIf_46 g7 (inB_ok g8) e10 ?_
    have c11 := ekI e10
    have c12 := elI e10
    have c13 := epI e10
    refine J_aload_n 0 dX12_readIf_47 rfl rfl ?_
    obtain ⟨t16, h15, e14, H⟩ := b2_el H
    refine J_cV (as := []) 11 YX12_readAny 0 dX12_readIf_48 moX12_readAny mvX12_readAny mlX12_217 (kq c11 g6) rfl (okX12_readAny (d := d) e14) rfl rfl [] rfl rfl (st2 := [.int t16]) rfl ?_
    refine J_if_ne 56 dX12_readIf_51 rfl (fun q17 => ?_) (fun q17 => ?_)
    · replace H := br0 q17 H
      refine J_aload_n 0 dX12_readIf_56 rfl rfl ?_
      obtain ⟨g18, H⟩ := gd H
      refine J_gP 11 18 dX12_readIf_57 g18 flX12_42 rfl rfl ?_
      refine J_iload_n 2 dX12_readIf_60 rfl rfl ?_
      refine J_iconst (4 : Int32) dX12_readIf_61 kc_4 ?_
      refine J_iadd dX12_readIf_62 ?_
      refine J_aload_n 0 dX12_readIf_63 rfl rfl ?_
      refine J_getI 11 20 dX12_readIf_64 g18 flX12_184 rfl ?_
      refine J_aload_n 0 dX12_readIf_67 rfl rfl ?_
      refine J_gP 11 18 dX12_readIf_68 g18 flX12_42 rfl rfl ?_
      refine J_iload_n 2 dX12_readIf_71 rfl rfl ?_
      refine J_iconst (3 : Int32) dX12_readIf_72 kc_3 ?_
      refine J_iadd dX12_readIf_73 ?_
      obtain ⟨g19, H⟩ := gd H
      obtain ⟨g20, H⟩ := gd H
      refine J_iald dX12_readIf_74 g19 (inB_ok g20) ?_
      refine J_isub dX12_readIf_75 ?_
      obtain ⟨g21, H⟩ := gd H
      obtain ⟨h22, e23, H⟩ := lt_el H
      refine J_sI dX12_readIf_76 g19 (inB_ok g21) e23 ?_
      have c24 := ekI e23
      have c25 := elI e23
      have c26 := epI e23
      refine J_iconst (1 : Int32) dX12_readIf_77 kc_1 ?_
      cases H
      exact J_rZ dX12_readIf_78 rfl rfl
    · replace H := br1 q17 H
      refine J_iconst (0 : Int32) dX12_readIf_54 kc_0 ?_
      cases H
      exact J_rZ dX12_readIf_55 rfl rfl
  · replace H := br1 q5 H
    refine J_iload_n 1 dX12_readIf_9 rfl rfl ?_
    refine J_if_eq 20 dX12_readIf_10 rfl (fun q27 => ?_) (fun q27 => ?_)
    · replace H := br1 q27 H
      refine J_iconst (1 : Int32) dX12_readIf_20 kc_1 ?_
      refine J_goto 25 dX12_readIf_21 rfl ?_
      cases H
      exact J_rZ dX12_readIf_25 rfl rfl
    · replace H := br0 q27 H
      refine J_aload_n 0 dX12_readIf_13 rfl rfl ?_
      obtain ⟨g29, H⟩ := gd H
      obtain ⟨t31, h30, e28, H⟩ := b2_el H
      refine J_cV (as := []) 11 YX12_fails 0 dX12_readIf_14 moX12_fails mvX12_fails mlX12_223 g29 rfl (okX12_fails (d := d + 35) e28) rfl rfl [] rfl rfl (st2 := [.int t31]) rfl ?_
      refine J_if_eq 24 dX12_readIf_17 rfl (fun q32 => ?_) (fun q32 => ?_)
      · replace H := br1 q32 H
        refine J_iconst (0 : Int32) dX12_readIf_24 kc_0 ?_
        cases H
        exact J_rZ dX12_readIf_25 rfl rfl
      · replace H := br0 q32 H
        refine J_iconst (1 : Int32) dX12_readIf_20 kc_1 ?_
        refine J_goto 25 dX12_readIf_21 rfl ?_
        cases H
        exact J_rZ dX12_readIf_25 rfl rfl
theorem okX12_readIf {d : Nat} {h : Hp} {v0 : Nat} {v1 : Int32} {r : Int32} {h9 : Hp} (H : MX12_readIf h v0 v1 = some (r, h9)) : CT (d + 36) YX12_readIf [.ref v0, .int v1] h (oI r) h9 := CT_of (by decide +kernel) (Nat.le_of_ble_eq_true rfl) (eX12_readIf H)
noncomputable def MX12_readRule_258 (h : Hp) (v0 : Nat) : Option (Int32 × Hp) :=
  gg (kd h v0 = 11) <|
  b2 (MX12_readIf h v0 (0 : Int32)) fun t70 h69 =>
  gg (zOk t70 = true) <|
  some (t70, h69)
set_option maxRecDepth 100000 in
set_option maxHeartbeats 8000000 in
theorem kX12_readRule_258 {d : Nat} {h : Hp} {v0 : Nat} {r : Int32} {h9 : Hp} (H : MX12_readRule_258 h v0 = some (r, h9)) : J (d + 37) YX12_readRule 258 [.ref v0, Value.null, Value.null, Value.null, Value.null] [] h (oI r) h9 := by
  unfold MX12_readRule_258 at H
  refine J_aload_n 0 dX12_readRule_258 rfl rfl ?_
  refine J_iconst (0 : Int32) dX12_readRule_259 kc_0 ?_
  obtain ⟨g68, H⟩ := gd H
  obtain ⟨t70, h69, e67, H⟩ := b2_el H
  refine J_cV (as := [.int (0 : Int32)]) 11 YX12_readIf 1 dX12_readRule_260 moX12_readIf mvX12_readIf mlX12_262 g68 rfl (okX12_readIf (d := d) e67) rfl rfl [] rfl rfl (st2 := [.int t70]) rfl ?_
  obtain ⟨g71, H⟩ := gd H
  cases H
  exact J_rZ dX12_readRule_263 rfl g71
noncomputable def MX12_readRule_329 (h : Hp) (v0 : Nat) (v1 : Int32) (s0 : Nat) (s1 : Int32) (s2 : Int32) : Option (Int32 × Hp) :=
  gg (kd h s0 = 11) <|
  b2 (MX12_readNumber h s0 s1 s2) fun t80 h79 =>
  if t80 = 0 then
    some ((0 : Int32), h79)
  else
    gg (kd h79 v0 = 11) <|
    gg (kd h79 (gP h79 v0 18) = 20) <|
    gg (inB (v1 + (2 : Int32)) (ln h79 (gP h79 v0 18)) = true) <|
    lt (sI h79 (gP h79 v0 18) (v1 + (2 : Int32)).toNatClampNeg (gI h79 v0 11)) fun h85 =>
    some ((1 : Int32), h85)
set_option maxRecDepth 100000 in
set_option maxHeartbeats 8000000 in
theorem kX12_readRule_329 {d : Nat} {h : Hp} {v0 : Nat} {v1 : Int32} {s0 : Nat} {s1 : Int32} {s2 : Int32} {r : Int32} {h9 : Hp} (H : MX12_readRule_329 h v0 v1 s0 s1 s2 = some (r, h9)) : J (d + 37) YX12_readRule 329 [.ref v0, .int v1, Value.null, Value.null, Value.null] [.int s2, .int s1, .ref s0] h (oI r) h9 := by
  unfold MX12_readRule_329 at H
  obtain ⟨g78, H⟩ := gd H
  obtain ⟨t80, h79, e77, H⟩ := b2_el H
  refine J_cV (as := [.int s1, .int s2]) 11 YX12_readNumber 2 dX12_readRule_329 moX12_readNumber mvX12_readNumber mlX12_232 g78 rfl (okX12_readNumber (d := d + 35) e77) rfl rfl [] rfl rfl (st2 := [.int t80]) rfl ?_
  refine J_if_ne 337 dX12_readRule_332 rfl (fun q81 => ?_) (fun q81 => ?_)
  · replace H := br0 q81 H
    refine J_aload_n 0 dX12_readRule_337 rfl rfl ?_
    obtain ⟨g82, H⟩ := gd H
    refine J_gP 11 18 dX12_readRule_338 g82 flX12_42 rfl rfl ?_
    refine J_iload_n 1 dX12_readRule_341 rfl rfl ?_
    refine J_iconst (2 : Int32) dX12_readRule_342 kc_2 ?_
    refine J_iadd dX12_readRule_343 ?_
    refine J_aload_n 0 dX12_readRule_344 rfl rfl ?_
    refine J_getI 11 11 dX12_readRule_345 g82 flX12_181 rfl ?_
    obtain ⟨g83, H⟩ := gd H
    obtain ⟨g84, H⟩ := gd H
    obtain ⟨h85, e86, H⟩ := lt_el H
    refine J_sI dX12_readRule_348 g83 (inB_ok g84) e86 ?_
    have c87 := ekI e86
    have c88 := elI e86
    have c89 := epI e86
    refine J_iconst (1 : Int32) dX12_readRule_349 kc_1 ?_
    cases H
    exact J_rZ dX12_readRule_350 rfl rfl
  · replace H := br1 q81 H
    refine J_iconst (0 : Int32) dX12_readRule_335 kc_0 ?_
    cases H
    exact J_rZ dX12_readRule_336 rfl rfl
noncomputable def MX12_readRule_316 (h : Hp) (v0 : Nat) (v1 : Int32) (v2 : Int32) (s0 : Nat) (s1 : Int32) : Option (Int32 × Hp) :=
  if v2 = (1 : Int32) then
    MX12_readRule_329 h v0 v1 s0 s1 (40 : Int32)
  else
    MX12_readRule_329 h v0 v1 s0 s1 (600 : Int32)
set_option maxRecDepth 100000 in
set_option maxHeartbeats 8000000 in
theorem kX12_readRule_316 {d : Nat} {h : Hp} {v0 : Nat} {v1 : Int32} {v2 : Int32} {s0 : Nat} {s1 : Int32} {r : Int32} {h9 : Hp} (H : MX12_readRule_316 h v0 v1 v2 s0 s1 = some (r, h9)) : J (d + 37) YX12_readRule 316 [.ref v0, .int v1, .int v2, Value.null, Value.null] [.int s1, .ref s0] h (oI r) h9 := by
  unfold MX12_readRule_316 at H
  refine J_iload_n 2 dX12_readRule_316 rfl rfl ?_
  refine J_iconst (1 : Int32) dX12_readRule_317 kc_1 ?_
  refine J_icmp_ne 326 dX12_readRule_318 rfl (fun q76 => ?_) (fun q76 => ?_)
  · replace H := br0 q76 H
    refine J_sipush (600 : Int32) dX12_readRule_326 ks_600 ?_
    exact J_dr (kX12_readRule_329 H ) ⟨rfl, ⟨rfl, trivial⟩⟩
  · replace H := br1 q76 H
    refine J_bipush (40 : Int32) dX12_readRule_321 kb_40 ?_
    refine J_goto 329 dX12_readRule_323 rfl ?_
    exact J_dr (kX12_readRule_329 H ) ⟨rfl, ⟨rfl, trivial⟩⟩
noncomputable def MX12_readRule_298 (h : Hp) (v0 : Nat) (v1 : Int32) (v2 : Int32) : Option (Int32 × Hp) :=
  if v2 = (1 : Int32) then
    gg (kd h v0 = 11) <|
    gg (kd h (gP h v0 18) = 20) <|
    gg (inB (v1 + (1 : Int32)) (ln h (gP h v0 18)) = true) <|
    MX12_readRule_316 h v0 v1 v2 v0 (gI h (gP h v0 18) (v1 + (1 : Int32)).toNatClampNeg)
  else
    MX12_readRule_316 h v0 v1 v2 v0 (0 : Int32)
set_option maxRecDepth 100000 in
set_option maxHeartbeats 8000000 in
theorem kX12_readRule_298 {d : Nat} {h : Hp} {v0 : Nat} {v1 : Int32} {v2 : Int32} {r : Int32} {h9 : Hp} (H : MX12_readRule_298 h v0 v1 v2 = some (r, h9)) : J (d + 37) YX12_readRule 298 [.ref v0, .int v1, .int v2, Value.null, Value.null] [] h (oI r) h9 := by
  unfold MX12_readRule_298 at H
  refine J_aload_n 0 dX12_readRule_298 rfl rfl ?_
  refine J_iload_n 2 dX12_readRule_299 rfl rfl ?_
  refine J_iconst (1 : Int32) dX12_readRule_300 kc_1 ?_
  refine J_icmp_ne 315 dX12_readRule_301 rfl (fun q75 => ?_) (fun q75 => ?_)
  · replace H := br0 q75 H
    refine J_iconst (0 : Int32) dX12_readRule_315 kc_0 ?_
    exact J_dr (kX12_readRule_316 H ) ⟨rfl, ⟨rfl, ⟨rfl, trivial⟩⟩⟩
  · replace H := br1 q75 H
    refine J_aload_n 0 dX12_readRule_304 rfl rfl ?_
    obtain ⟨g90, H⟩ := gd H
    refine J_gP 11 18 dX12_readRule_305 g90 flX12_42 rfl rfl ?_
    refine J_iload_n 1 dX12_readRule_308 rfl rfl ?_
    refine J_iconst (1 : Int32) dX12_readRule_309 kc_1 ?_
    refine J_iadd dX12_readRule_310 ?_
    obtain ⟨g91, H⟩ := gd H
    obtain ⟨g92, H⟩ := gd H
    refine J_iald dX12_readRule_311 g91 (inB_ok g92) ?_
    refine J_goto 316 dX12_readRule_312 rfl ?_
    exact J_dr (kX12_readRule_316 H ) ⟨rfl, ⟨rfl, ⟨rfl, trivial⟩⟩⟩
noncomputable def MX12_readRule_285 (h : Hp) (v0 : Nat) (v1 : Int32) (v2 : Int32) : Option (Int32 × Hp) :=
  if v2 = (1 : Int32) then
    MX12_readRule_298 h v0 v1 v2
  else
    if v2 = (6 : Int32) then
      MX12_readRule_298 h v0 v1 v2
    else
      some ((1 : Int32), h)
set_option maxRecDepth 100000 in
set_option maxHeartbeats 8000000 in
theorem kX12_readRule_285 {d : Nat} {h : Hp} {v0 : Nat} {v1 : Int32} {v2 : Int32} {r : Int32} {h9 : Hp} (H : MX12_readRule_285 h v0 v1 v2 = some (r, h9)) : J (d + 37) YX12_readRule 285 [.ref v0, .int v1, .int v2, Value.null, Value.null] [] h (oI r) h9 := by
  unfold MX12_readRule_285 at H
  refine J_iload_n 2 dX12_readRule_285 rfl rfl ?_
  refine J_iconst (1 : Int32) dX12_readRule_286 kc_1 ?_
  refine J_icmp_eq 298 dX12_readRule_287 rfl (fun q74 => ?_) (fun q74 => ?_)
  · replace H := br1 q74 H
    exact J_dr (kX12_readRule_298 H ) ⟨rfl, ⟨rfl, ⟨rfl, trivial⟩⟩⟩
  · replace H := br0 q74 H
    refine J_iload_n 2 dX12_readRule_290 rfl rfl ?_
    refine J_bipush (6 : Int32) dX12_readRule_291 kb_6 ?_
    refine J_icmp_eq 298 dX12_readRule_293 rfl (fun q93 => ?_) (fun q93 => ?_)
    · replace H := br1 q93 H
      exact J_dr (kX12_readRule_298 H ) ⟨rfl, ⟨rfl, ⟨rfl, trivial⟩⟩⟩
    · replace H := br0 q93 H
      refine J_iconst (1 : Int32) dX12_readRule_296 kc_1 ?_
      cases H
      exact J_rZ dX12_readRule_297 rfl rfl
noncomputable def MX12_readRule_223 (h : Hp) (v0 : Nat) (v1 : Int32) (v2 : Int32) (v3 : Int32) (s0 : Int32) : Option (Int32 × Hp) :=
  gg (kd h v0 = 11) <|
  b2 (MX12_readNumber h v0 v3 s0) fun t56 h55 =>
  if t56 = 0 then
    some ((0 : Int32), h55)
  else
    gg (kd h55 v0 = 11) <|
    gg (kd h55 (gP h55 v0 18) = 20) <|
    gg (inB (v1 + (1 : Int32)) (ln h55 (gP h55 v0 18)) = true) <|
    lt (sI h55 (gP h55 v0 18) (v1 + (1 : Int32)).toNatClampNeg (gI h55 v0 11)) fun h61 =>
    if v2 = 0 then
      MX12_readRule_258 h61 v0
    else
      if v2 = (4 : Int32) then
        MX12_readRule_258 h61 v0
      else
        if v2 = (6 : Int32) then
          b2 (MX12_takes h61 v0 1) fun t96 h95 =>
          if t96 = 0 then
            gg (kd h95 v0 = 11) <|
            b2 (MX12_fails h95 v0) fun t101 h100 =>
            gg (zOk t101 = true) <|
            some (t101, h100)
          else
            MX12_readRule_285 h95 v0 v1 v2
        else
          MX12_readRule_285 h61 v0 v1 v2
set_option maxRecDepth 100000 in
set_option maxHeartbeats 8000000 in
theorem kX12_readRule_223 {d : Nat} {h : Hp} {v0 : Nat} {v1 : Int32} {v2 : Int32} {v3 : Int32} {s0 : Int32} {r : Int32} {h9 : Hp} (H : MX12_readRule_223 h v0 v1 v2 v3 s0 = some (r, h9)) : J (d + 37) YX12_readRule 223 [.ref v0, .int v1, .int v2, .int v3, Value.null] [.int s0] h (oI r) h9 := by
  unfold MX12_readRule_223 at H
  refine J_istore dX12_readRule_223 (by decide) (ls' := [.ref v0, .int v1, .int v2, .int v3, .int s0]) rfl ?_
  refine J_aload_n 0 dX12_readRule_225 rfl rfl ?_
  refine J_iload_n 3 dX12_readRule_226 rfl rfl ?_
  refine J_iload dX12_readRule_227 rfl ?_
  obtain ⟨g54, H⟩ := gd H
  obtain ⟨t56, h55, e53, H⟩ := b2_el H
  refine J_cV (as := [.int v3, .int s0]) 11 YX12_readNumber 2 dX12_readRule_229 moX12_readNumber mvX12_readNumber mlX12_232 g54 rfl (okX12_readNumber (d := d + 35) e53) rfl rfl [] rfl rfl (st2 := [.int t56]) rfl ?_
  refine J_if_ne 237 dX12_readRule_232 rfl (fun q57 => ?_) (fun q57 => ?_)
  · replace H := br0 q57 H
    refine J_aload_n 0 dX12_readRule_237 rfl rfl ?_
    obtain ⟨g58, H⟩ := gd H
    refine J_gP 11 18 dX12_readRule_238 g58 flX12_42 rfl rfl ?_
    refine J_iload_n 1 dX12_readRule_241 rfl rfl ?_
    refine J_iconst (1 : Int32) dX12_readRule_242 kc_1 ?_
    refine J_iadd dX12_readRule_243 ?_
    refine J_aload_n 0 dX12_readRule_244 rfl rfl ?_
    refine J_getI 11 11 dX12_readRule_245 g58 flX12_181 rfl ?_
    obtain ⟨g59, H⟩ := gd H
    obtain ⟨g60, H⟩ := gd H
    obtain ⟨h61, e62, H⟩ := lt_el H
    refine J_sI dX12_readRule_248 g59 (inB_ok g60) e62 ?_
    have c63 := ekI e62
    have c64 := elI e62
    have c65 := epI e62
    refine J_iload_n 2 dX12_readRule_249 rfl rfl ?_
    refine J_if_eq 258 dX12_readRule_250 rfl (fun q66 => ?_) (fun q66 => ?_)
    · replace H := br1 q66 H
      exact J_dr (kX12_readRule_258 H ) ⟨rfl, trivial⟩
    · replace H := br0 q66 H
      refine J_iload_n 2 dX12_readRule_253 rfl rfl ?_
      refine J_iconst (4 : Int32) dX12_readRule_254 kc_4 ?_
      refine J_icmp_ne 264 dX12_readRule_255 rfl (fun q72 => ?_) (fun q72 => ?_)
      · replace H := br0 q72 H
        refine J_iload_n 2 dX12_readRule_264 rfl rfl ?_
        refine J_bipush (6 : Int32) dX12_readRule_265 kb_6 ?_
        refine J_icmp_ne 285 dX12_readRule_267 rfl (fun q73 => ?_) (fun q73 => ?_)
        · replace H := br0 q73 H
          exact J_dr (kX12_readRule_285 H ) ⟨rfl, ⟨rfl, ⟨rfl, trivial⟩⟩⟩
        · replace H := br1 q73 H
          refine J_aload_n 0 dX12_readRule_270 rfl rfl ?_
          refine J_lSw (tx := "at") dX12_readRule_271 1 (by decide +kernel) ?_
          obtain ⟨t96, h95, e94, H⟩ := b2_el H
          refine J_cV (as := [.retAddr 1]) 11 YX12_takes 1 dX12_readRule_274 moX12_takes mvX12_takes mlX12_189 (kq c63 g58) rfl (okX12_takes (d := d + 32) e94) rfl rfl [] rfl rfl (st2 := [.int t96]) rfl ?_
          refine J_if_ne 285 dX12_readRule_277 rfl (fun q97 => ?_) (fun q97 => ?_)
          · replace H := br0 q97 H
            exact J_dr (kX12_readRule_285 H ) ⟨rfl, ⟨rfl, ⟨rfl, trivial⟩⟩⟩
          · replace H := br1 q97 H
            refine J_aload_n 0 dX12_readRule_280 rfl rfl ?_
            obtain ⟨g99, H⟩ := gd H
            obtain ⟨t101, h100, e98, H⟩ := b2_el H
            refine J_cV (as := []) 11 YX12_fails 0 dX12_readRule_281 moX12_fails mvX12_fails mlX12_223 g99 rfl (okX12_fails (d := d + 36) e98) rfl rfl [] rfl rfl (st2 := [.int t101]) rfl ?_
            obtain ⟨g102, H⟩ := gd H
            cases H
            exact J_rZ dX12_readRule_284 rfl g102
      · replace H := br1 q72 H
        exact J_dr (kX12_readRule_258 H ) ⟨rfl, trivial⟩
  · replace H := br1 q57 H
    refine J_iconst (0 : Int32) dX12_readRule_235 kc_0 ?_
    cases H
    exact J_rZ dX12_readRule_236 rfl rfl
noncomputable def MX12_readRule_206 (h : Hp) (v0 : Nat) (v1 : Int32) (v2 : Int32) (v3 : Int32) : Option (Int32 × Hp) :=
  MX12_readRule_223 h v0 v1 v2 v3 (999 : Int32)
set_option maxRecDepth 100000 in
set_option maxHeartbeats 8000000 in
theorem kX12_readRule_206 {d : Nat} {h : Hp} {v0 : Nat} {v1 : Int32} {v2 : Int32} {v3 : Int32} {r : Int32} {h9 : Hp} (H : MX12_readRule_206 h v0 v1 v2 v3 = some (r, h9)) : J (d + 37) YX12_readRule 206 [.ref v0, .int v1, .int v2, .int v3, Value.null] [] h (oI r) h9 := by
  unfold MX12_readRule_206 at H
  refine J_sipush (999 : Int32) dX12_readRule_206 ks_999 ?_
  refine J_goto 223 dX12_readRule_209 rfl ?_
  exact J_dr (kX12_readRule_223 H ) ⟨rfl, ⟨rfl, ⟨rfl, ⟨rfl, trivial⟩⟩⟩⟩
noncomputable def MX12_readRule_175 (h : Hp) (v0 : Nat) (v1 : Int32) (v2 : Int32) (s0 : Int32) : Option (Int32 × Hp) :=
  if v2 = 0 then
    MX12_readRule_223 h v0 v1 v2 s0 (400 : Int32)
  else
    if v2 = (1 : Int32) then
      MX12_readRule_223 h v0 v1 v2 s0 (40 : Int32)
    else
      if v2 = (2 : Int32) then
        MX12_readRule_206 h v0 v1 v2 s0
      else
        if v2 = (4 : Int32) then
          MX12_readRule_206 h v0 v1 v2 s0
        else
          if v2 = (3 : Int32) then
            MX12_readRule_223 h v0 v1 v2 s0 (99 : Int32)
          else
            MX12_readRule_223 h v0 v1 v2 s0 (5 : Int32)
set_option maxRecDepth 100000 in
set_option maxHeartbeats 8000000 in
theorem kX12_readRule_175 {d : Nat} {h : Hp} {v0 : Nat} {v1 : Int32} {v2 : Int32} {s0 : Int32} {r : Int32} {h9 : Hp} (H : MX12_readRule_175 h v0 v1 v2 s0 = some (r, h9)) : J (d + 37) YX12_readRule 175 [.ref v0, .int v1, .int v2, Value.null, Value.null] [.int s0] h (oI r) h9 := by
  unfold MX12_readRule_175 at H
  refine J_istore_n 3 dX12_readRule_175 rfl (by decide) (ls' := [.ref v0, .int v1, .int v2, .int s0, Value.null]) rfl ?_
  refine J_iload_n 2 dX12_readRule_176 rfl rfl ?_
  refine J_if_ne 186 dX12_readRule_177 rfl (fun q50 => ?_) (fun q50 => ?_)
  · replace H := br0 q50 H
    refine J_iload_n 2 dX12_readRule_186 rfl rfl ?_
    refine J_iconst (1 : Int32) dX12_readRule_187 kc_1 ?_
    refine J_icmp_ne 196 dX12_readRule_188 rfl (fun q51 => ?_) (fun q51 => ?_)
    · replace H := br0 q51 H
      refine J_iload_n 2 dX12_readRule_196 rfl rfl ?_
      refine J_iconst (2 : Int32) dX12_readRule_197 kc_2 ?_
      refine J_icmp_eq 206 dX12_readRule_198 rfl (fun q52 => ?_) (fun q52 => ?_)
      · replace H := br1 q52 H
        exact J_dr (kX12_readRule_206 H ) ⟨rfl, ⟨rfl, ⟨rfl, ⟨rfl, trivial⟩⟩⟩⟩
      · replace H := br0 q52 H
        refine J_iload_n 2 dX12_readRule_201 rfl rfl ?_
        refine J_iconst (4 : Int32) dX12_readRule_202 kc_4 ?_
        refine J_icmp_ne 212 dX12_readRule_203 rfl (fun q103 => ?_) (fun q103 => ?_)
        · replace H := br0 q103 H
          refine J_iload_n 2 dX12_readRule_212 rfl rfl ?_
          refine J_iconst (3 : Int32) dX12_readRule_213 kc_3 ?_
          refine J_icmp_ne 222 dX12_readRule_214 rfl (fun q104 => ?_) (fun q104 => ?_)
          · replace H := br0 q104 H
            refine J_iconst (5 : Int32) dX12_readRule_222 kc_5 ?_
            exact J_dr (kX12_readRule_223 H ) ⟨rfl, ⟨rfl, ⟨rfl, ⟨rfl, trivial⟩⟩⟩⟩
          · replace H := br1 q104 H
            refine J_bipush (99 : Int32) dX12_readRule_217 kb_99 ?_
            refine J_goto 223 dX12_readRule_219 rfl ?_
            exact J_dr (kX12_readRule_223 H ) ⟨rfl, ⟨rfl, ⟨rfl, ⟨rfl, trivial⟩⟩⟩⟩
        · replace H := br1 q103 H
          exact J_dr (kX12_readRule_206 H ) ⟨rfl, ⟨rfl, ⟨rfl, ⟨rfl, trivial⟩⟩⟩⟩
    · replace H := br1 q51 H
      refine J_bipush (40 : Int32) dX12_readRule_191 kb_40 ?_
      refine J_goto 223 dX12_readRule_193 rfl ?_
      exact J_dr (kX12_readRule_223 H ) ⟨rfl, ⟨rfl, ⟨rfl, ⟨rfl, trivial⟩⟩⟩⟩
  · replace H := br1 q50 H
    refine J_sipush (400 : Int32) dX12_readRule_180 ks_400 ?_
    refine J_goto 223 dX12_readRule_183 rfl ?_
    exact J_dr (kX12_readRule_223 H ) ⟨rfl, ⟨rfl, ⟨rfl, ⟨rfl, trivial⟩⟩⟩⟩
noncomputable def MX12_readRule_127 (h : Hp) (v0 : Nat) (v1 : Int32) (s0 : Int32) : Option (Int32 × Hp) :=
  if s0 = (-1 : Int32) then
    gg (kd h v0 = 11) <|
    b2 (MX12_fails h v0) fun t112 h111 =>
    gg (zOk t112 = true) <|
    some (t112, h111)
  else
    gg (kd h v0 = 11) <|
    gg (kd h (gP h v0 18) = 20) <|
    gg (inB v1 (ln h (gP h v0 18)) = true) <|
    lt (sI h (gP h v0 18) v1.toNatClampNeg s0) fun h42 =>
    if s0 = (5 : Int32) then
      b2 (MX12_readIf h42 v0 (1 : Int32)) fun t107 h106 =>
      gg (zOk t107 = true) <|
      some (t107, h106)
    else
      if s0 = 0 then
        MX12_readRule_175 h42 v0 v1 s0 (10 : Int32)
      else
        if s0 = (1 : Int32) then
          MX12_readRule_175 h42 v0 v1 s0 (1 : Int32)
        else
          MX12_readRule_175 h42 v0 v1 s0 (0 : Int32)
set_option maxRecDepth 100000 in
set_option maxHeartbeats 8000000 in
theorem kX12_readRule_127 {d : Nat} {h : Hp} {v0 : Nat} {v1 : Int32} {s0 : Int32} {r : Int32} {h9 : Hp} (H : MX12_readRule_127 h v0 v1 s0 = some (r, h9)) : J (d + 37) YX12_readRule 127 [.ref v0, .int v1, Value.null, Value.null, Value.null] [.int s0] h (oI r) h9 := by
  unfold MX12_readRule_127 at H
  refine J_istore_n 2 dX12_readRule_127 rfl (by decide) (ls' := [.ref v0, .int v1, .int s0, Value.null, Value.null]) rfl ?_
  refine J_iload_n 2 dX12_readRule_128 rfl rfl ?_
  refine J_iconst (-1 : Int32) dX12_readRule_129 kc_m1 ?_
  refine J_icmp_ne 138 dX12_readRule_130 rfl (fun q38 => ?_) (fun q38 => ?_)
  · replace H := br0 q38 H
    refine J_aload_n 0 dX12_readRule_138 rfl rfl ?_
    obtain ⟨g39, H⟩ := gd H
    refine J_gP 11 18 dX12_readRule_139 g39 flX12_42 rfl rfl ?_
    refine J_iload_n 1 dX12_readRule_142 rfl rfl ?_
    refine J_iload_n 2 dX12_readRule_143 rfl rfl ?_
    obtain ⟨g40, H⟩ := gd H
    obtain ⟨g41, H⟩ := gd H
    obtain ⟨h42, e43, H⟩ := lt_el H
    refine J_sI dX12_readRule_144 g40 (inB_ok g41) e43 ?_
    have c44 := ekI e43
    have c45 := elI e43
    have c46 := epI e43
    refine J_iload_n 2 dX12_readRule_145 rfl rfl ?_
    refine J_iconst (5 : Int32) dX12_readRule_146 kc_5 ?_
    refine J_icmp_ne 156 dX12_readRule_147 rfl (fun q47 => ?_) (fun q47 => ?_)
    · replace H := br0 q47 H
      refine J_iload_n 2 dX12_readRule_156 rfl rfl ?_
      refine J_if_ne 165 dX12_readRule_157 rfl (fun q48 => ?_) (fun q48 => ?_)
      · replace H := br0 q48 H
        refine J_iload_n 2 dX12_readRule_165 rfl rfl ?_
        refine J_iconst (1 : Int32) dX12_readRule_166 kc_1 ?_
        refine J_icmp_ne 174 dX12_readRule_167 rfl (fun q49 => ?_) (fun q49 => ?_)
        · replace H := br0 q49 H
          refine J_iconst (0 : Int32) dX12_readRule_174 kc_0 ?_
          exact J_dr (kX12_readRule_175 H ) ⟨rfl, ⟨rfl, ⟨rfl, trivial⟩⟩⟩
        · replace H := br1 q49 H
          refine J_iconst (1 : Int32) dX12_readRule_170 kc_1 ?_
          refine J_goto 175 dX12_readRule_171 rfl ?_
          exact J_dr (kX12_readRule_175 H ) ⟨rfl, ⟨rfl, ⟨rfl, trivial⟩⟩⟩
      · replace H := br1 q48 H
        refine J_bipush (10 : Int32) dX12_readRule_160 kb_10 ?_
        refine J_goto 175 dX12_readRule_162 rfl ?_
        exact J_dr (kX12_readRule_175 H ) ⟨rfl, ⟨rfl, ⟨rfl, trivial⟩⟩⟩
    · replace H := br1 q47 H
      refine J_aload_n 0 dX12_readRule_150 rfl rfl ?_
      refine J_iconst (1 : Int32) dX12_readRule_151 kc_1 ?_
      obtain ⟨t107, h106, e105, H⟩ := b2_el H
      refine J_cV (as := [.int (1 : Int32)]) 11 YX12_readIf 1 dX12_readRule_152 moX12_readIf mvX12_readIf mlX12_262 (kq c44 g39) rfl (okX12_readIf (d := d) e105) rfl rfl [] rfl rfl (st2 := [.int t107]) rfl ?_
      obtain ⟨g108, H⟩ := gd H
      cases H
      exact J_rZ dX12_readRule_155 rfl g108
  · replace H := br1 q38 H
    refine J_aload_n 0 dX12_readRule_133 rfl rfl ?_
    obtain ⟨g110, H⟩ := gd H
    obtain ⟨t112, h111, e109, H⟩ := b2_el H
    refine J_cV (as := []) 11 YX12_fails 0 dX12_readRule_134 moX12_fails mvX12_fails mlX12_223 g110 rfl (okX12_fails (d := d + 36) e109) rfl rfl [] rfl rfl (st2 := [.int t112]) rfl ?_
    obtain ⟨g113, H⟩ := gd H
    cases H
    exact J_rZ dX12_readRule_137 rfl g113
noncomputable def MX12_readRule_31 (h : Hp) (v0 : Nat) (v1 : Int32) : Option (Int32 × Hp) :=
  gg (kd h v0 = 11) <|
  b2 (MX12_takes h v0 13) fun t6 h5 =>
  if t6 = 0 then
    gg (kd h5 v0 = 11) <|
    b2 (MX12_takes h5 v0 19) fun t11 h10 =>
    if t11 = 0 then
      gg (kd h10 v0 = 11) <|
      b2 (MX12_takes h10 v0 17) fun t16 h15 =>
      if t16 = 0 then
        gg (kd h15 v0 = 11) <|
        b2 (MX12_takes h15 v0 6) fun t21 h20 =>
        if t21 = 0 then
          gg (kd h20 v0 = 11) <|
          b2 (MX12_takes h20 v0 18) fun t26 h25 =>
          if t26 = 0 then
            gg (kd h25 v0 = 11) <|
            b2 (MX12_takes h25 v0 7) fun t31 h30 =>
            if t31 = 0 then
              gg (kd h30 v0 = 11) <|
              b2 (MX12_takes h30 v0 3) fun t36 h35 =>
              if t36 = 0 then
                MX12_readRule_127 h35 v0 v1 (-1 : Int32)
              else
                MX12_readRule_127 h35 v0 v1 (6 : Int32)
            else
              MX12_readRule_127 h30 v0 v1 (5 : Int32)
          else
            MX12_readRule_127 h25 v0 v1 (4 : Int32)
        else
          MX12_readRule_127 h20 v0 v1 (3 : Int32)
      else
        MX12_readRule_127 h15 v0 v1 (2 : Int32)
    else
      MX12_readRule_127 h10 v0 v1 (1 : Int32)
  else
    MX12_readRule_127 h5 v0 v1 (0 : Int32)
set_option maxRecDepth 100000 in
set_option maxHeartbeats 8000000 in
theorem kX12_readRule_31 {d : Nat} {h : Hp} {v0 : Nat} {v1 : Int32} {r : Int32} {h9 : Hp} (H : MX12_readRule_31 h v0 v1 = some (r, h9)) : J (d + 37) YX12_readRule 31 [.ref v0, .int v1, Value.null, Value.null, Value.null] [] h (oI r) h9 := by
  unfold MX12_readRule_31 at H
  refine J_aload_n 0 dX12_readRule_31 rfl rfl ?_
  refine J_lS (tx := "measure") dX12_readRule_32 13 (by decide +kernel) ?_
  obtain ⟨g4, H⟩ := gd H
  obtain ⟨t6, h5, e3, H⟩ := b2_el H
  refine J_cV (as := [.retAddr 13]) 11 YX12_takes 1 dX12_readRule_34 moX12_takes mvX12_takes mlX12_189 g4 rfl (okX12_takes (d := d + 32) e3) rfl rfl [] rfl rfl (st2 := [.int t6]) rfl ?_
  refine J_if_eq 44 dX12_readRule_37 rfl (fun q7 => ?_) (fun q7 => ?_)
  · replace H := br1 q7 H
    refine J_aload_n 0 dX12_readRule_44 rfl rfl ?_
    refine J_lS (tx := "space") dX12_readRule_45 19 (by decide +kernel) ?_
    obtain ⟨g9, H⟩ := gd H
    obtain ⟨t11, h10, e8, H⟩ := b2_el H
    refine J_cV (as := [.retAddr 19]) 11 YX12_takes 1 dX12_readRule_47 moX12_takes mvX12_takes mlX12_189 g9 rfl (okX12_takes (d := d + 32) e8) rfl rfl [] rfl rfl (st2 := [.int t11]) rfl ?_
    refine J_if_eq 57 dX12_readRule_50 rfl (fun q12 => ?_) (fun q12 => ?_)
    · replace H := br1 q12 H
      refine J_aload_n 0 dX12_readRule_57 rfl rfl ?_
      refine J_lS (tx := "part") dX12_readRule_58 17 (by decide +kernel) ?_
      obtain ⟨g14, H⟩ := gd H
      obtain ⟨t16, h15, e13, H⟩ := b2_el H
      refine J_cV (as := [.retAddr 17]) 11 YX12_takes 1 dX12_readRule_60 moX12_takes mvX12_takes mlX12_189 g14 rfl (okX12_takes (d := d + 32) e13) rfl rfl [] rfl rfl (st2 := [.int t16]) rfl ?_
      refine J_if_eq 70 dX12_readRule_63 rfl (fun q17 => ?_) (fun q17 => ?_)
      · replace H := br1 q17 H
        refine J_aload_n 0 dX12_readRule_70 rfl rfl ?_
        refine J_lS (tx := "fat") dX12_readRule_71 6 (by decide +kernel) ?_
        obtain ⟨g19, H⟩ := gd H
        obtain ⟨t21, h20, e18, H⟩ := b2_el H
        refine J_cV (as := [.retAddr 6]) 11 YX12_takes 1 dX12_readRule_73 moX12_takes mvX12_takes mlX12_189 g19 rfl (okX12_takes (d := d + 32) e18) rfl rfl [] rfl rfl (st2 := [.int t21]) rfl ?_
        refine J_if_eq 83 dX12_readRule_76 rfl (fun q22 => ?_) (fun q22 => ?_)
        · replace H := br1 q22 H
          refine J_aload_n 0 dX12_readRule_83 rfl rfl ?_
          refine J_lSw (tx := "pay") dX12_readRule_84 18 (by decide +kernel) ?_
          obtain ⟨g24, H⟩ := gd H
          obtain ⟨t26, h25, e23, H⟩ := b2_el H
          refine J_cV (as := [.retAddr 18]) 11 YX12_takes 1 dX12_readRule_87 moX12_takes mvX12_takes mlX12_189 g24 rfl (okX12_takes (d := d + 32) e23) rfl rfl [] rfl rfl (st2 := [.int t26]) rfl ?_
          refine J_if_eq 97 dX12_readRule_90 rfl (fun q27 => ?_) (fun q27 => ?_)
          · replace H := br1 q27 H
            refine J_aload_n 0 dX12_readRule_97 rfl rfl ?_
            refine J_lSw (tx := "free") dX12_readRule_98 7 (by decide +kernel) ?_
            obtain ⟨g29, H⟩ := gd H
            obtain ⟨t31, h30, e28, H⟩ := b2_el H
            refine J_cV (as := [.retAddr 7]) 11 YX12_takes 1 dX12_readRule_101 moX12_takes mvX12_takes mlX12_189 g29 rfl (okX12_takes (d := d + 32) e28) rfl rfl [] rfl rfl (st2 := [.int t31]) rfl ?_
            refine J_if_eq 111 dX12_readRule_104 rfl (fun q32 => ?_) (fun q32 => ?_)
            · replace H := br1 q32 H
              refine J_aload_n 0 dX12_readRule_111 rfl rfl ?_
              refine J_lSw (tx := "close") dX12_readRule_112 3 (by decide +kernel) ?_
              obtain ⟨g34, H⟩ := gd H
              obtain ⟨t36, h35, e33, H⟩ := b2_el H
              refine J_cV (as := [.retAddr 3]) 11 YX12_takes 1 dX12_readRule_115 moX12_takes mvX12_takes mlX12_189 g34 rfl (okX12_takes (d := d + 32) e33) rfl rfl [] rfl rfl (st2 := [.int t36]) rfl ?_
              refine J_if_eq 126 dX12_readRule_118 rfl (fun q37 => ?_) (fun q37 => ?_)
              · replace H := br1 q37 H
                refine J_iconst (-1 : Int32) dX12_readRule_126 kc_m1 ?_
                exact J_dr (kX12_readRule_127 H ) ⟨rfl, ⟨rfl, trivial⟩⟩
              · replace H := br0 q37 H
                refine J_bipush (6 : Int32) dX12_readRule_121 kb_6 ?_
                refine J_goto 127 dX12_readRule_123 rfl ?_
                exact J_dr (kX12_readRule_127 H ) ⟨rfl, ⟨rfl, trivial⟩⟩
            · replace H := br0 q32 H
              refine J_iconst (5 : Int32) dX12_readRule_107 kc_5 ?_
              refine J_goto 127 dX12_readRule_108 rfl ?_
              exact J_dr (kX12_readRule_127 H ) ⟨rfl, ⟨rfl, trivial⟩⟩
          · replace H := br0 q27 H
            refine J_iconst (4 : Int32) dX12_readRule_93 kc_4 ?_
            refine J_goto 127 dX12_readRule_94 rfl ?_
            exact J_dr (kX12_readRule_127 H ) ⟨rfl, ⟨rfl, trivial⟩⟩
        · replace H := br0 q22 H
          refine J_iconst (3 : Int32) dX12_readRule_79 kc_3 ?_
          refine J_goto 127 dX12_readRule_80 rfl ?_
          exact J_dr (kX12_readRule_127 H ) ⟨rfl, ⟨rfl, trivial⟩⟩
      · replace H := br0 q17 H
        refine J_iconst (2 : Int32) dX12_readRule_66 kc_2 ?_
        refine J_goto 127 dX12_readRule_67 rfl ?_
        exact J_dr (kX12_readRule_127 H ) ⟨rfl, ⟨rfl, trivial⟩⟩
    · replace H := br0 q12 H
      refine J_iconst (1 : Int32) dX12_readRule_53 kc_1 ?_
      refine J_goto 127 dX12_readRule_54 rfl ?_
      exact J_dr (kX12_readRule_127 H ) ⟨rfl, ⟨rfl, trivial⟩⟩
  · replace H := br0 q7 H
    refine J_iconst (0 : Int32) dX12_readRule_40 kc_0 ?_
    refine J_goto 127 dX12_readRule_41 rfl ?_
    exact J_dr (kX12_readRule_127 H ) ⟨rfl, ⟨rfl, trivial⟩⟩
noncomputable def BX12_readRule_11 (h : Hp) (v0 : Nat) (v1 : Int32) (v2 : Int32) : Option ((Int32 × Hp) ⊕ (Int32 × Hp)) :=
  if (5 : Int32) ≤ v2 then
    up1 (MX12_readRule_31 h v0 v1)
  else
    gg (kd h v0 = 11) <|
    gg (kd h (gP h v0 18) = 20) <|
    gg (inB (v1 + v2) (ln h (gP h v0 18)) = true) <|
    lt (sI h (gP h v0 18) (v1 + v2).toNatClampNeg (0 : Int32)) fun h117 =>
    some (.inl ((v2 + (1 : Int32)), h117))
set_option maxRecDepth 100000 in
set_option maxHeartbeats 8000000 in
theorem bX12_readRule_11 {d : Nat} {h : Hp} {v0 : Nat} {v1 : Int32} {v2 : Int32} {r : Int32} {h9 : Hp} {x : ((Int32 × Hp) ⊕ (Int32 × Hp))} (H : BX12_readRule_11 h v0 v1 v2 = some x) (hb0 : ∀ s : Int32 × Hp, x = .inl s → J (d + 37) YX12_readRule 11 [.ref v0, .int v1, .int s.1, Value.null, Value.null] [] s.2 (oI r) h9) (hx : ∀ z : (Int32 × Hp), x = .inr (z) → z = (r, h9)) : J (d + 37) YX12_readRule 11 [.ref v0, .int v1, .int v2, Value.null, Value.null] [] h (oI r) h9 := by
  unfold BX12_readRule_11 at H
  refine J_iload_n 2 dX12_readRule_11 rfl rfl ?_
  refine J_iconst (5 : Int32) dX12_readRule_12 kc_5 ?_
  refine J_icmp_ge 31 dX12_readRule_13 rfl (fun q2 => ?_) (fun q2 => ?_)
  · replace H := br1 q2 H
    obtain ⟨y, H9, rfl⟩ := up1_el H
    replace H := H9
    obtain rfl := hx _ rfl
    exact J_dr (kX12_readRule_31 H ) ⟨rfl, ⟨rfl, trivial⟩⟩
  · replace H := br0 q2 H
    refine J_aload_n 0 dX12_readRule_16 rfl rfl ?_
    obtain ⟨g114, H⟩ := gd H
    refine J_gP 11 18 dX12_readRule_17 g114 flX12_42 rfl rfl ?_
    refine J_iload_n 1 dX12_readRule_20 rfl rfl ?_
    refine J_iload_n 2 dX12_readRule_21 rfl rfl ?_
    refine J_iadd dX12_readRule_22 ?_
    refine J_iconst (0 : Int32) dX12_readRule_23 kc_0 ?_
    obtain ⟨g115, H⟩ := gd H
    obtain ⟨g116, H⟩ := gd H
    obtain ⟨h117, e118, H⟩ := lt_el H
    refine J_sI dX12_readRule_24 g115 (inB_ok g116) e118 ?_
    have c119 := ekI e118
    have c120 := elI e118
    have c121 := epI e118
    refine J_iinc (v2 + (1 : Int32)) dX12_readRule_25 rfl (congrArg (HAdd.hAdd v2) kc_1) (by decide) (ls' := [.ref v0, .int v1, .int (v2 + (1 : Int32)), Value.null, Value.null]) rfl ?_
    refine J_goto 11 dX12_readRule_28 rfl ?_
    cases H
    exact J_dr (hb0 _ rfl) ⟨rfl, ⟨rfl, ⟨rfl, trivial⟩⟩⟩
noncomputable def MX12_readRule_11 (h : Hp) (v0 : Nat) (v1 : Int32) (v2 : Int32) : Option (Int32 × Hp) := it (fun q : Int32 × Hp => BX12_readRule_11 q.2 v0 v1 q.1) (v2, h)
set_option maxRecDepth 100000 in
set_option maxHeartbeats 8000000 in
theorem kX12_readRule_11 {d : Nat} {h : Hp} {v0 : Nat} {v1 : Int32} {v2 : Int32} {r : Int32} {h9 : Hp} (H : MX12_readRule_11 h v0 v1 v2 = some (r, h9)) : J (d + 37) YX12_readRule 11 [.ref v0, .int v1, .int v2, Value.null, Value.null] [] h (oI r) h9 := by
  unfold MX12_readRule_11 at H
  refine it_J (G := (fun q : Int32 × Hp => J (d + 37) YX12_readRule 11 [.ref v0, .int v1, .int q.1, Value.null, Value.null] [] q.2 (oI r) h9)) (Q := (fun y : (Int32 × Hp) => y = (r, h9))) (fun q x Hq hm => ?_) H rfl
  exact bX12_readRule_11 Hq (fun s hs => by subst hs; exact hm) (fun z hz => by subst hz; exact hm)
noncomputable def MX12_readRule (h : Hp) (v0 : Nat) : Option (Int32 × Hp) :=
  gg (kd h v0 = 11) <|
  MX12_readRule_11 h v0 ((2 : Int32) + ((5 : Int32) * (gI h v0 19))) (0 : Int32)
set_option maxRecDepth 100000 in
set_option maxHeartbeats 8000000 in
theorem eX12_readRule {d : Nat} {h : Hp} {v0 : Nat} {r : Int32} {h9 : Hp} (H : MX12_readRule h v0 = some (r, h9)) : J (d + 37) YX12_readRule 0 [.ref v0, Value.null, Value.null, Value.null, Value.null] [] h (oI r) h9 := by
  unfold MX12_readRule at H
  refine J_iconst (2 : Int32) dX12_readRule_0 kc_2 ?_
  refine J_iconst (5 : Int32) dX12_readRule_1 kc_5 ?_
  refine J_aload_n 0 dX12_readRule_2 rfl rfl ?_
  obtain ⟨g1, H⟩ := gd H
  refine J_getI 11 19 dX12_readRule_3 g1 flX12_245 rfl ?_
  refine J_imul dX12_readRule_6 ?_
  refine J_iadd dX12_readRule_7 ?_
  refine J_istore_n 1 dX12_readRule_8 rfl (by decide) (ls' := [.ref v0, .int ((2 : Int32) + ((5 : Int32) * (gI h v0 19))), Value.null, Value.null, Value.null]) rfl ?_
  refine J_iconst (0 : Int32) dX12_readRule_9 kc_0 ?_
  refine J_istore_n 2 dX12_readRule_10 rfl (by decide) (ls' := [.ref v0, .int ((2 : Int32) + ((5 : Int32) * (gI h v0 19))), .int (0 : Int32), Value.null, Value.null]) rfl ?_
  exact J_dr (kX12_readRule_11 H ) ⟨rfl, ⟨rfl, ⟨rfl, trivial⟩⟩⟩
theorem okX12_readRule {d : Nat} {h : Hp} {v0 : Nat} {r : Int32} {h9 : Hp} (H : MX12_readRule h v0 = some (r, h9)) : CT (d + 37) YX12_readRule [.ref v0] h (oI r) h9 := CT_of (by decide +kernel) (Nat.le_of_ble_eq_true rfl) (eX12_readRule H)
noncomputable def MX12_readStory_276 (h : Hp) (v0 : Nat) : Option (Int32 × Hp) :=
  gg (kd h v0 = 11) <|
  if (gI h v0 9) = (-1 : Int32) then
    some ((1 : Int32), h)
  else
    some ((0 : Int32), h)
set_option maxRecDepth 100000 in
set_option maxHeartbeats 8000000 in
theorem kX12_readStory_276 {d : Nat} {h : Hp} {v0 : Nat} {r : Int32} {h9 : Hp} (H : MX12_readStory_276 h v0 = some (r, h9)) : J (d + 2) YX12_readStory 276 [.ref v0, Value.null] [] h (oI r) h9 := by
  unfold MX12_readStory_276 at H
  refine J_aload_n 0 dX12_readStory_276 rfl rfl ?_
  obtain ⟨g29, H⟩ := gd H
  refine J_getI 11 9 dX12_readStory_277 g29 flX12_23 rfl ?_
  refine J_iconst (-1 : Int32) dX12_readStory_280 kc_m1 ?_
  refine J_icmp_ne 288 dX12_readStory_281 rfl (fun q30 => ?_) (fun q30 => ?_)
  · replace H := br0 q30 H
    refine J_iconst (0 : Int32) dX12_readStory_288 kc_0 ?_
    cases H
    exact J_rZ dX12_readStory_289 rfl rfl
  · replace H := br1 q30 H
    refine J_iconst (1 : Int32) dX12_readStory_284 kc_1 ?_
    refine J_goto 289 dX12_readStory_285 rfl ?_
    cases H
    exact J_rZ dX12_readStory_289 rfl rfl
noncomputable def MX12_readStory_256 (h : Hp) (v0 : Nat) : Option (Int32 × Hp) :=
  gg (kd h v0 = 11) <|
  gg (kd h (gP h v0 16) = 20) <|
  gg (inB (gI h v0 17) (ln h (gP h v0 16)) = true) <|
  if (gI h (gP h v0 16) (gI h v0 17).toNatClampNeg) = 0 then
    lt (sI h v0 9 (gI h v0 7)) fun h31 =>
    MX12_readStory_276 h31 v0
  else
    MX12_readStory_276 h v0
set_option maxRecDepth 100000 in
set_option maxHeartbeats 8000000 in
theorem kX12_readStory_256 {d : Nat} {h : Hp} {v0 : Nat} {r : Int32} {h9 : Hp} (H : MX12_readStory_256 h v0 = some (r, h9)) : J (d + 2) YX12_readStory 256 [.ref v0, Value.null] [] h (oI r) h9 := by
  unfold MX12_readStory_256 at H
  refine J_aload_n 0 dX12_readStory_256 rfl rfl ?_
  obtain ⟨g25, H⟩ := gd H
  refine J_gP 11 16 dX12_readStory_257 g25 flX12_39 rfl rfl ?_
  refine J_aload_n 0 dX12_readStory_260 rfl rfl ?_
  refine J_getI 11 17 dX12_readStory_261 g25 flX12_140 rfl ?_
  obtain ⟨g26, H⟩ := gd H
  obtain ⟨g27, H⟩ := gd H
  refine J_iald dX12_readStory_264 g26 (inB_ok g27) ?_
  refine J_if_ne 276 dX12_readStory_265 rfl (fun q28 => ?_) (fun q28 => ?_)
  · replace H := br0 q28 H
    exact J_dr (kX12_readStory_276 H ) ⟨rfl, trivial⟩
  · replace H := br1 q28 H
    refine J_aload_n 0 dX12_readStory_268 rfl rfl ?_
    refine J_aload_n 0 dX12_readStory_269 rfl rfl ?_
    refine J_getI 11 7 dX12_readStory_270 g25 flX12_134 rfl ?_
    obtain ⟨h31, e32, H⟩ := lt_el H
    refine J_pI 11 9 dX12_readStory_273 g25 flX12_23 rfl rfl e32 ?_
    have c33 := ekI e32
    have c34 := elI e32
    have c35 := epI e32
    exact J_dr (kX12_readStory_276 H ) ⟨rfl, trivial⟩
noncomputable def MX12_readStory_243 (h : Hp) (v0 : Nat) : Option (Int32 × Hp) :=
  gg (kd h v0 = 11) <|
  lt (sI h v0 9 (gI h v0 8)) fun h43 =>
  some ((0 : Int32), h43)
set_option maxRecDepth 100000 in
set_option maxHeartbeats 8000000 in
theorem kX12_readStory_243 {d : Nat} {h : Hp} {v0 : Nat} {r : Int32} {h9 : Hp} (H : MX12_readStory_243 h v0 = some (r, h9)) : J (d + 2) YX12_readStory 243 [.ref v0, Value.null] [] h (oI r) h9 := by
  unfold MX12_readStory_243 at H
  refine J_aload_n 0 dX12_readStory_243 rfl rfl ?_
  refine J_aload_n 0 dX12_readStory_244 rfl rfl ?_
  obtain ⟨g42, H⟩ := gd H
  refine J_getI 11 8 dX12_readStory_245 g42 flX12_137 rfl ?_
  obtain ⟨h43, e44, H⟩ := lt_el H
  refine J_pI 11 9 dX12_readStory_248 g42 flX12_23 rfl rfl e44 ?_
  have c45 := ekI e44
  have c46 := elI e44
  have c47 := epI e44
  refine J_iconst (0 : Int32) dX12_readStory_251 kc_0 ?_
  cases H
  exact J_rZ dX12_readStory_252 rfl rfl
noncomputable def MX12_readStory_163 (h : Hp) (v0 : Nat) : Option ((Hp) ⊕ (Int32 × Hp)) :=
  gg (kd h v0 = 11) <|
  Option.bind (MX12_blanks h v0) fun h95 =>
  some (.inl h95)
set_option maxRecDepth 100000 in
set_option maxHeartbeats 8000000 in
theorem kX12_readStory_163 {d : Nat} {h : Hp} {v0 : Nat} {r : Int32} {h9 : Hp} {x : ((Hp) ⊕ (Int32 × Hp))} (H : MX12_readStory_163 h v0 = some x) (hb0 : ∀ s : Hp, x = .inl s → J (d + 2) YX12_readStory 23 [.ref v0, Value.null] [] s (oI r) h9) (hx : ∀ z : (Int32 × Hp), x = .inr (z) → z = (r, h9)) : J (d + 2) YX12_readStory 163 [.ref v0, Value.null] [] h (oI r) h9 := by
  unfold MX12_readStory_163 at H
  refine J_aload_n 0 dX12_readStory_163 rfl rfl ?_
  obtain ⟨g94, H⟩ := gd H
  obtain ⟨h95, e93, H⟩ := bd H
  refine J_cV (as := []) 11 YX12_blanks 0 dX12_readStory_164 moX12_blanks mvX12_blanks mlX12_147 g94 rfl (okX12_blanks (d := d + 1) e93) rfl rfl [] rfl rfl (st2 := []) rfl ?_
  refine J_goto 253 dX12_readStory_167 rfl ?_
  refine J_goto 23 dX12_readStory_253 rfl ?_
  cases H
  exact J_dr (hb0 _ rfl) ⟨rfl, trivial⟩
noncomputable def MX12_readStory_153 (h : Hp) (v0 : Nat) : Option (Int32 × Hp) :=
  gg (kd h v0 = 11) <|
  lt (sI h v0 9 (gI h v0 8)) fun h101 =>
  some ((0 : Int32), h101)
set_option maxRecDepth 100000 in
set_option maxHeartbeats 8000000 in
theorem kX12_readStory_153 {d : Nat} {h : Hp} {v0 : Nat} {r : Int32} {h9 : Hp} (H : MX12_readStory_153 h v0 = some (r, h9)) : J (d + 2) YX12_readStory 153 [.ref v0, Value.null] [] h (oI r) h9 := by
  unfold MX12_readStory_153 at H
  refine J_aload_n 0 dX12_readStory_153 rfl rfl ?_
  refine J_aload_n 0 dX12_readStory_154 rfl rfl ?_
  obtain ⟨g100, H⟩ := gd H
  refine J_getI 11 8 dX12_readStory_155 g100 flX12_137 rfl ?_
  obtain ⟨h101, e102, H⟩ := lt_el H
  refine J_pI 11 9 dX12_readStory_158 g100 flX12_23 rfl rfl e102 ?_
  have c103 := ekI e102
  have c104 := elI e102
  have c105 := epI e102
  refine J_iconst (0 : Int32) dX12_readStory_161 kc_0 ?_
  cases H
  exact J_rZ dX12_readStory_162 rfl rfl
noncomputable def MX12_readStory_65 (h : Hp) (v0 : Nat) : Option (Int32 × Hp) :=
  gg (kd h v0 = 11) <|
  lt (sI h v0 9 (gI h v0 8)) fun h107 =>
  some ((0 : Int32), h107)
set_option maxRecDepth 100000 in
set_option maxHeartbeats 8000000 in
theorem kX12_readStory_65 {d : Nat} {h : Hp} {v0 : Nat} {r : Int32} {h9 : Hp} (H : MX12_readStory_65 h v0 = some (r, h9)) : J (d + 2) YX12_readStory 65 [.ref v0, Value.null] [] h (oI r) h9 := by
  unfold MX12_readStory_65 at H
  refine J_aload_n 0 dX12_readStory_65 rfl rfl ?_
  refine J_aload_n 0 dX12_readStory_66 rfl rfl ?_
  obtain ⟨g106, H⟩ := gd H
  refine J_getI 11 8 dX12_readStory_67 g106 flX12_137 rfl ?_
  obtain ⟨h107, e108, H⟩ := lt_el H
  refine J_pI 11 9 dX12_readStory_70 g106 flX12_23 rfl rfl e108 ?_
  have c109 := ekI e108
  have c110 := elI e108
  have c111 := epI e108
  refine J_iconst (0 : Int32) dX12_readStory_73 kc_0 ?_
  cases H
  exact J_rZ dX12_readStory_74 rfl rfl
noncomputable def BX12_readStory_23 (h : Hp) (v0 : Nat) : Option ((Hp) ⊕ (Int32 × Hp)) :=
  gg (kd h v0 = 11) <|
  if (gI h v0 7) ≤ (gI h v0 8) then
    up1 (MX12_readStory_256 h v0)
  else
    gg (kd h (gP h v0 5) = 20) <|
    gg (inB (gI h v0 8) (ln h (gP h v0 5)) = true) <|
    Option.bind (MX12_isLetter h (gI h (gP h v0 5) (gI h v0 8).toNatClampNeg)) fun t39 =>
    if t39 = 0 then
      if (gI h (gP h v0 5) (gI h v0 8).toNatClampNeg) = (47 : Int32) then
        gg (kd h (gP h v0 16) = 20) <|
        gg (inB (gI h v0 17) (ln h (gP h v0 16)) = true) <|
        if (gI h (gP h v0 16) (gI h v0 17).toNatClampNeg) ≤ 0 then
          up1 (MX12_readStory_243 h v0)
        else
          if (4 : Int32) ≤ (gI h v0 17) then
            up1 (MX12_readStory_243 h v0)
          else
            lt (sI h v0 17 ((gI h v0 17) + (1 : Int32))) fun h52 =>
            gg (kd h (gP h v0 15) = 20) <|
            gg (inB (gI h52 v0 17) (ln h (gP h v0 15)) = true) <|
            lt (sI h52 (gP h v0 15) (gI h52 v0 17).toNatClampNeg (0 : Int32)) fun h59 =>
            gg (inB (gI h59 v0 17) (ln h (gP h v0 16)) = true) <|
            lt (sI h59 (gP h v0 16) (gI h59 v0 17).toNatClampNeg (0 : Int32)) fun h65 =>
            lt (sI h65 v0 8 ((gI h65 v0 8) + (1 : Int32))) fun h70 =>
            Option.bind (MX12_blanks h70 v0) fun h76 =>
            some (.inl h76)
      else
        up1 (MX12_readStory_243 h v0)
    else
      gg (kd h (gP h v0 16) = 20) <|
      gg (inB (gI h v0 17) (ln h (gP h v0 16)) = true) <|
      if (gI h (gP h v0 16) (gI h v0 17).toNatClampNeg) = (24 : Int32) then
        up1 (MX12_readStory_65 h v0)
      else
        b2 (MX12_readWord h v0 ((40 : Int32) * (gI h v0 17)) (gI h (gP h v0 16) (gI h v0 17).toNatClampNeg) (0 : Int32)) fun t82 h81 =>
        if t82 = 0 then
          some (.inr (((0 : Int32), h81)))
        else
          gg (kd h81 v0 = 11) <|
          gg (kd h81 (gP h81 v0 16) = 20) <|
          gg (inB (gI h81 v0 17) (ln h81 (gP h81 v0 16)) = true) <|
          lt (sI h81 (gP h81 v0 16) (gI h81 v0 17).toNatClampNeg ((gI h81 (gP h81 v0 16) (gI h81 v0 17).toNatClampNeg) + (1 : Int32))) fun h87 =>
          if (gI h87 v0 7) ≤ (gI h87 v0 8) then
            MX12_readStory_163 h87 v0
          else
            gg (kd h81 (gP h81 v0 5) = 20) <|
            gg (inB (gI h87 v0 8) (ln h81 (gP h81 v0 5)) = true) <|
            if (gI h87 (gP h81 v0 5) (gI h87 v0 8).toNatClampNeg) = (32 : Int32) then
              MX12_readStory_163 h87 v0
            else
              if (gI h87 (gP h81 v0 5) (gI h87 v0 8).toNatClampNeg) = (47 : Int32) then
                MX12_readStory_163 h87 v0
              else
                up1 (MX12_readStory_153 h87 v0)
set_option maxRecDepth 100000 in
set_option maxHeartbeats 8000000 in
theorem bX12_readStory_23 {d : Nat} {h : Hp} {v0 : Nat} {r : Int32} {h9 : Hp} {x : ((Hp) ⊕ (Int32 × Hp))} (H : BX12_readStory_23 h v0 = some x) (hb0 : ∀ s : Hp, x = .inl s → J (d + 2) YX12_readStory 23 [.ref v0, Value.null] [] s (oI r) h9) (hx : ∀ z : (Int32 × Hp), x = .inr (z) → z = (r, h9)) : J (d + 2) YX12_readStory 23 [.ref v0, Value.null] [] h (oI r) h9 := by
  unfold BX12_readStory_23 at H
  refine J_aload_n 0 dX12_readStory_23 rfl rfl ?_
  obtain ⟨g23, H⟩ := gd H
  refine J_getI 11 8 dX12_readStory_24 g23 flX12_137 rfl ?_
  refine J_aload_n 0 dX12_readStory_27 rfl rfl ?_
  refine J_getI 11 7 dX12_readStory_28 g23 flX12_134 rfl ?_
  refine J_icmp_ge 256 dX12_readStory_31 rfl (fun q24 => ?_) (fun q24 => ?_)
  · replace H := br1 q24 H
    obtain ⟨y, H9, rfl⟩ := up1_el H
    replace H := H9
    obtain rfl := hx _ rfl
    exact J_dr (kX12_readStory_256 H ) ⟨rfl, trivial⟩
  · replace H := br0 q24 H
    refine J_aload_n 0 dX12_readStory_34 rfl rfl ?_
    refine J_gP 11 5 dX12_readStory_35 g23 flX12_20 rfl rfl ?_
    refine J_aload_n 0 dX12_readStory_38 rfl rfl ?_
    refine J_getI 11 8 dX12_readStory_39 g23 flX12_137 rfl ?_
    obtain ⟨g36, H⟩ := gd H
    obtain ⟨g37, H⟩ := gd H
    refine J_iald dX12_readStory_42 g36 (inB_ok g37) ?_
    refine J_istore_n 1 dX12_readStory_43 rfl (by decide) (ls' := [.ref v0, .int (gI h (gP h v0 5) (gI h v0 8).toNatClampNeg)]) rfl ?_
    refine J_iload_n 1 dX12_readStory_44 rfl rfl ?_
    obtain ⟨t39, e38, H⟩ := bd H
    refine J_cS (as := [.int (gI h (gP h v0 5) (gI h v0 8).toNatClampNeg)]) YX12_isLetter 1 dX12_readStory_45 moX12_isLetter msX12_isLetter mlX12_143 (okX12_isLetter (d := d + 1) e38) rfl rfl [] rfl rfl (st2 := [.int t39]) rfl ?_
    refine J_if_eq 170 dX12_readStory_48 rfl (fun q40 => ?_) (fun q40 => ?_)
    · replace H := br1 q40 H
      refine J_iload_n 1 dX12_readStory_170 rfl rfl ?_
      refine J_bipush (47 : Int32) dX12_readStory_171 kb_47 ?_
      refine J_icmp_ne 243 dX12_readStory_173 rfl (fun q41 => ?_) (fun q41 => ?_)
      · replace H := br0 q41 H
        obtain ⟨y, H9, rfl⟩ := up1_el H
        replace H := H9
        obtain rfl := hx _ rfl
        exact J_dr (kX12_readStory_243 H ) ⟨rfl, trivial⟩
      · replace H := br1 q41 H
        refine J_aload_n 0 dX12_readStory_176 rfl rfl ?_
        refine J_gP 11 16 dX12_readStory_177 g23 flX12_39 rfl rfl ?_
        refine J_aload_n 0 dX12_readStory_180 rfl rfl ?_
        refine J_getI 11 17 dX12_readStory_181 g23 flX12_140 rfl ?_
        obtain ⟨g48, H⟩ := gd H
        obtain ⟨g49, H⟩ := gd H
        refine J_iald dX12_readStory_184 g48 (inB_ok g49) ?_
        refine J_if_le 243 dX12_readStory_185 rfl (fun q50 => ?_) (fun q50 => ?_)
        · replace H := br1 q50 H
          obtain ⟨y, H9, rfl⟩ := up1_el H
          replace H := H9
          obtain rfl := hx _ rfl
          exact J_dr (kX12_readStory_243 H ) ⟨rfl, trivial⟩
        · replace H := br0 q50 H
          refine J_aload_n 0 dX12_readStory_188 rfl rfl ?_
          refine J_getI 11 17 dX12_readStory_189 g23 flX12_140 rfl ?_
          refine J_iconst (4 : Int32) dX12_readStory_192 kc_4 ?_
          refine J_icmp_ge 243 dX12_readStory_193 rfl (fun q51 => ?_) (fun q51 => ?_)
          · replace H := br1 q51 H
            obtain ⟨y, H9, rfl⟩ := up1_el H
            replace H := H9
            obtain rfl := hx _ rfl
            exact J_dr (kX12_readStory_243 H ) ⟨rfl, trivial⟩
          · replace H := br0 q51 H
            refine J_aload_n 0 dX12_readStory_196 rfl rfl ?_
            refine J_dup dX12_readStory_197 rfl ?_
            refine J_getI 11 17 dX12_readStory_198 g23 flX12_140 rfl ?_
            refine J_iconst (1 : Int32) dX12_readStory_201 kc_1 ?_
            refine J_iadd dX12_readStory_202 ?_
            obtain ⟨h52, e53, H⟩ := lt_el H
            refine J_pI 11 17 dX12_readStory_203 g23 flX12_140 rfl rfl e53 ?_
            have c54 := ekI e53
            have c55 := elI e53
            have c56 := epI e53
            refine J_aload_n 0 dX12_readStory_206 rfl rfl ?_
            refine J_gP 11 15 dX12_readStory_207 (kq c54 g23) flX12_36 rfl (congrFun (congrFun c56 v0) 15) ?_
            refine J_aload_n 0 dX12_readStory_210 rfl rfl ?_
            refine J_getI 11 17 dX12_readStory_211 (kq c54 g23) flX12_140 rfl ?_
            refine J_iconst (0 : Int32) dX12_readStory_214 kc_0 ?_
            obtain ⟨g57, H⟩ := gd H
            obtain ⟨g58, H⟩ := gd H
            obtain ⟨h59, e60, H⟩ := lt_el H
            refine J_sI dX12_readStory_215 (kq c54 g57) (lq c55 g58) e60 ?_
            have c61 := (ekI e60).trans c54
            have c62 := (elI e60).trans c55
            have c63 := (epI e60).trans c56
            refine J_aload_n 0 dX12_readStory_216 rfl rfl ?_
            refine J_gP 11 16 dX12_readStory_217 (kq c61 g23) flX12_39 rfl (congrFun (congrFun c63 v0) 16) ?_
            refine J_aload_n 0 dX12_readStory_220 rfl rfl ?_
            refine J_getI 11 17 dX12_readStory_221 (kq c61 g23) flX12_140 rfl ?_
            refine J_iconst (0 : Int32) dX12_readStory_224 kc_0 ?_
            obtain ⟨g64, H⟩ := gd H
            obtain ⟨h65, e66, H⟩ := lt_el H
            refine J_sI dX12_readStory_225 (kq c61 g48) (lq c62 g64) e66 ?_
            have c67 := (ekI e66).trans c61
            have c68 := (elI e66).trans c62
            have c69 := (epI e66).trans c63
            refine J_aload_n 0 dX12_readStory_226 rfl rfl ?_
            refine J_dup dX12_readStory_227 rfl ?_
            refine J_getI 11 8 dX12_readStory_228 (kq c67 g23) flX12_137 rfl ?_
            refine J_iconst (1 : Int32) dX12_readStory_231 kc_1 ?_
            refine J_iadd dX12_readStory_232 ?_
            obtain ⟨h70, e71, H⟩ := lt_el H
            refine J_pI 11 8 dX12_readStory_233 (kq c67 g23) flX12_137 rfl rfl e71 ?_
            have c72 := (ekI e71).trans c67
            have c73 := (elI e71).trans c68
            have c74 := (epI e71).trans c69
            refine J_aload_n 0 dX12_readStory_236 rfl rfl ?_
            obtain ⟨h76, e75, H⟩ := bd H
            refine J_cV (as := []) 11 YX12_blanks 0 dX12_readStory_237 moX12_blanks mvX12_blanks mlX12_147 (kq c72 g23) rfl (okX12_blanks (d := d + 1) e75) rfl rfl [] rfl rfl (st2 := []) rfl ?_
            refine J_goto 253 dX12_readStory_240 rfl ?_
            refine J_goto 23 dX12_readStory_253 rfl ?_
            cases H
            exact J_dr (hb0 _ rfl) ⟨rfl, trivial⟩
    · replace H := br0 q40 H
      refine J_aload_n 0 dX12_readStory_51 rfl rfl ?_
      refine J_gP 11 16 dX12_readStory_52 g23 flX12_39 rfl rfl ?_
      refine J_aload_n 0 dX12_readStory_55 rfl rfl ?_
      refine J_getI 11 17 dX12_readStory_56 g23 flX12_140 rfl ?_
      obtain ⟨g77, H⟩ := gd H
      obtain ⟨g78, H⟩ := gd H
      refine J_iald dX12_readStory_59 g77 (inB_ok g78) ?_
      refine J_bipush (24 : Int32) dX12_readStory_60 kb_24 ?_
      refine J_icmp_ne 75 dX12_readStory_62 rfl (fun q79 => ?_) (fun q79 => ?_)
      · replace H := br0 q79 H
        refine J_aload_n 0 dX12_readStory_75 rfl rfl ?_
        refine J_bipush (40 : Int32) dX12_readStory_76 kb_40 ?_
        refine J_aload_n 0 dX12_readStory_78 rfl rfl ?_
        refine J_getI 11 17 dX12_readStory_79 g23 flX12_140 rfl ?_
        refine J_imul dX12_readStory_82 ?_
        refine J_aload_n 0 dX12_readStory_83 rfl rfl ?_
        refine J_gP 11 16 dX12_readStory_84 g23 flX12_39 rfl rfl ?_
        refine J_aload_n 0 dX12_readStory_87 rfl rfl ?_
        refine J_getI 11 17 dX12_readStory_88 g23 flX12_140 rfl ?_
        refine J_iald dX12_readStory_91 g77 (inB_ok g78) ?_
        refine J_iconst (0 : Int32) dX12_readStory_92 kc_0 ?_
        obtain ⟨t82, h81, e80, H⟩ := b2_el H
        refine J_cV (as := [.int ((40 : Int32) * (gI h v0 17)), .int (gI h (gP h v0 16) (gI h v0 17).toNatClampNeg), .int (0 : Int32)]) 11 YX12_readWord 3 dX12_readStory_93 moX12_readWord mvX12_readWord mlX12_150 g23 rfl (okX12_readWord (d := d) e80) rfl rfl [] rfl rfl (st2 := [.int t82]) rfl ?_
        refine J_if_ne 101 dX12_readStory_96 rfl (fun q83 => ?_) (fun q83 => ?_)
        · replace H := br0 q83 H
          refine J_aload_n 0 dX12_readStory_101 rfl rfl ?_
          obtain ⟨g84, H⟩ := gd H
          refine J_gP 11 16 dX12_readStory_102 g84 flX12_39 rfl rfl ?_
          refine J_aload_n 0 dX12_readStory_105 rfl rfl ?_
          refine J_getI 11 17 dX12_readStory_106 g84 flX12_140 rfl ?_
          refine J_dup2 dX12_readStory_109 rfl rfl ?_
          obtain ⟨g85, H⟩ := gd H
          obtain ⟨g86, H⟩ := gd H
          refine J_iald dX12_readStory_110 g85 (inB_ok g86) ?_
          refine J_iconst (1 : Int32) dX12_readStory_111 kc_1 ?_
          refine J_iadd dX12_readStory_112 ?_
          obtain ⟨h87, e88, H⟩ := lt_el H
          refine J_sI dX12_readStory_113 g85 (inB_ok g86) e88 ?_
          have c89 := ekI e88
          have c90 := elI e88
          have c91 := epI e88
          refine J_aload_n 0 dX12_readStory_114 rfl rfl ?_
          refine J_getI 11 8 dX12_readStory_115 (kq c89 g84) flX12_137 rfl ?_
          refine J_aload_n 0 dX12_readStory_118 rfl rfl ?_
          refine J_getI 11 7 dX12_readStory_119 (kq c89 g84) flX12_134 rfl ?_
          refine J_icmp_ge 163 dX12_readStory_122 rfl (fun q92 => ?_) (fun q92 => ?_)
          · replace H := br1 q92 H
            exact J_dr (kX12_readStory_163 H hb0 hx) ⟨rfl, trivial⟩
          · replace H := br0 q92 H
            refine J_aload_n 0 dX12_readStory_125 rfl rfl ?_
            refine J_gP 11 5 dX12_readStory_126 (kq c89 g84) flX12_20 rfl (congrFun (congrFun c91 v0) 5) ?_
            refine J_aload_n 0 dX12_readStory_129 rfl rfl ?_
            refine J_getI 11 8 dX12_readStory_130 (kq c89 g84) flX12_137 rfl ?_
            obtain ⟨g96, H⟩ := gd H
            obtain ⟨g97, H⟩ := gd H
            refine J_iald dX12_readStory_133 (kq c89 g96) (lq c90 g97) ?_
            refine J_bipush (32 : Int32) dX12_readStory_134 kb_32 ?_
            refine J_icmp_eq 163 dX12_readStory_136 rfl (fun q98 => ?_) (fun q98 => ?_)
            · replace H := br1 q98 H
              exact J_dr (kX12_readStory_163 H hb0 hx) ⟨rfl, trivial⟩
            · replace H := br0 q98 H
              refine J_aload_n 0 dX12_readStory_139 rfl rfl ?_
              refine J_gP 11 5 dX12_readStory_140 (kq c89 g84) flX12_20 rfl (congrFun (congrFun c91 v0) 5) ?_
              refine J_aload_n 0 dX12_readStory_143 rfl rfl ?_
              refine J_getI 11 8 dX12_readStory_144 (kq c89 g84) flX12_137 rfl ?_
              refine J_iald dX12_readStory_147 (kq c89 g96) (lq c90 g97) ?_
              refine J_bipush (47 : Int32) dX12_readStory_148 kb_47 ?_
              refine J_icmp_eq 163 dX12_readStory_150 rfl (fun q99 => ?_) (fun q99 => ?_)
              · replace H := br1 q99 H
                exact J_dr (kX12_readStory_163 H hb0 hx) ⟨rfl, trivial⟩
              · replace H := br0 q99 H
                obtain ⟨y, H9, rfl⟩ := up1_el H
                replace H := H9
                obtain rfl := hx _ rfl
                exact J_dr (kX12_readStory_153 H ) ⟨rfl, trivial⟩
        · replace H := br1 q83 H
          refine J_iconst (0 : Int32) dX12_readStory_99 kc_0 ?_
          cases H
          cases hx _ rfl
          exact J_rZ dX12_readStory_100 rfl rfl
      · replace H := br1 q79 H
        obtain ⟨y, H9, rfl⟩ := up1_el H
        replace H := H9
        obtain rfl := hx _ rfl
        exact J_dr (kX12_readStory_65 H ) ⟨rfl, trivial⟩
noncomputable def MX12_readStory_23 (h : Hp) (v0 : Nat) : Option (Int32 × Hp) := it (fun q : Hp => BX12_readStory_23 q v0) (h)
set_option maxRecDepth 100000 in
set_option maxHeartbeats 8000000 in
theorem kX12_readStory_23 {d : Nat} {h : Hp} {v0 : Nat} {r : Int32} {h9 : Hp} (H : MX12_readStory_23 h v0 = some (r, h9)) : J (d + 2) YX12_readStory 23 [.ref v0, Value.null] [] h (oI r) h9 := by
  unfold MX12_readStory_23 at H
  refine it_J (G := (fun q : Hp => J (d + 2) YX12_readStory 23 [.ref v0, Value.null] [] q (oI r) h9)) (Q := (fun y : (Int32 × Hp) => y = (r, h9))) (fun q x Hq hm => ?_) H rfl
  exact bX12_readStory_23 Hq (fun s hs => by subst hs; exact hm) (fun z hz => by subst hz; exact hm)
noncomputable def MX12_readStory (h : Hp) (v0 : Nat) : Option (Int32 × Hp) :=
  gg (kd h v0 = 11) <|
  lt (sI h v0 17 (0 : Int32)) fun h2 =>
  gg (kd h (gP h v0 15) = 20) <|
  gg (inB (0 : Int32) (ln h (gP h v0 15)) = true) <|
  lt (sI h2 (gP h v0 15) (0 : Int32).toNatClampNeg (0 : Int32)) fun h9 =>
  gg (kd h (gP h v0 16) = 20) <|
  gg (inB (0 : Int32) (ln h (gP h v0 16)) = true) <|
  lt (sI h9 (gP h v0 16) (0 : Int32).toNatClampNeg (0 : Int32)) fun h16 =>
  Option.bind (MX12_blanks h16 v0) fun h22 =>
  MX12_readStory_23 h22 v0
set_option maxRecDepth 100000 in
set_option maxHeartbeats 8000000 in
theorem eX12_readStory {d : Nat} {h : Hp} {v0 : Nat} {r : Int32} {h9 : Hp} (H : MX12_readStory h v0 = some (r, h9)) : J (d + 2) YX12_readStory 0 [.ref v0, Value.null] [] h (oI r) h9 := by
  unfold MX12_readStory at H
  refine J_aload_n 0 dX12_readStory_0 rfl rfl ?_
  refine J_iconst (0 : Int32) dX12_readStory_1 kc_0 ?_
  obtain ⟨g1, H⟩ := gd H
  obtain ⟨h2, e3, H⟩ := lt_el H
  refine J_pI 11 17 dX12_readStory_2 g1 flX12_140 rfl rfl e3 ?_
  have c4 := ekI e3
  have c5 := elI e3
  have c6 := epI e3
  refine J_aload_n 0 dX12_readStory_5 rfl rfl ?_
  refine J_gP 11 15 dX12_readStory_6 (kq c4 g1) flX12_36 rfl (congrFun (congrFun c6 v0) 15) ?_
  refine J_iconst (0 : Int32) dX12_readStory_9 kc_0 ?_
  refine J_iconst (0 : Int32) dX12_readStory_10 kc_0 ?_
  obtain ⟨g7, H⟩ := gd H
  obtain ⟨g8, H⟩ := gd H
  obtain ⟨h9, e10, H⟩ := lt_el H
  refine J_sI dX12_readStory_11 (kq c4 g7) (lq c5 g8) e10 ?_
  have c11 := (ekI e10).trans c4
  have c12 := (elI e10).trans c5
  have c13 := (epI e10).trans c6
  refine J_aload_n 0 dX12_readStory_12 rfl rfl ?_
  refine J_gP 11 16 dX12_readStory_13 (kq c11 g1) flX12_39 rfl (congrFun (congrFun c13 v0) 16) ?_
  refine J_iconst (0 : Int32) dX12_readStory_16 kc_0 ?_
  refine J_iconst (0 : Int32) dX12_readStory_17 kc_0 ?_
  obtain ⟨g14, H⟩ := gd H
  obtain ⟨g15, H⟩ := gd H
  obtain ⟨h16, e17, H⟩ := lt_el H
  refine J_sI dX12_readStory_18 (kq c11 g14) (lq c12 g15) e17 ?_
  have c18 := (ekI e17).trans c11
  have c19 := (elI e17).trans c12
  have c20 := (epI e17).trans c13
  refine J_aload_n 0 dX12_readStory_19 rfl rfl ?_
  obtain ⟨h22, e21, H⟩ := bd H
  refine J_cV (as := []) 11 YX12_blanks 0 dX12_readStory_20 moX12_blanks mvX12_blanks mlX12_147 (kq c18 g1) rfl (okX12_blanks (d := d + 1) e21) rfl rfl [] rfl rfl (st2 := []) rfl ?_
  exact J_dr (kX12_readStory_23 H ) ⟨rfl, trivial⟩
theorem okX12_readStory {d : Nat} {h : Hp} {v0 : Nat} {r : Int32} {h9 : Hp} (H : MX12_readStory h v0 = some (r, h9)) : CT (d + 2) YX12_readStory [.ref v0] h (oI r) h9 := CT_of (by decide +kernel) (Nat.le_of_ble_eq_true rfl) (eX12_readStory H)
