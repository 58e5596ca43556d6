noncomputable def MX12_readRule_258 (h : Hp) (v0 : Nat) : Option (Int32 × Hp) :=
  gg (β := (Int32 × Hp)) (kd h v0 = 11) <|
  b2 (α := Int32) (β := Hp) (γ := (Int32 × Hp)) (MX12_readIf h v0 (0 : Int32)) fun (t70 : Int32) (h69 : Hp) =>
  gg (β := (Int32 × Hp)) (zOk t70 = true) <|
  some (t70, h69)
set_option maxRecDepth 100000 in
set_option maxHeartbeats 8000000 in
theorem kX12_readRule_258 {d : Nat} {h : Hp} {v0 : Nat} {r : Int32} {h9 : Hp} (H : MX12_readRule_258 h v0 = some (r, h9)) : J (d + 37) YX12_readRule 258 [.ref v0, Value.null, Value.null, Value.null, Value.null] [] h (oI r) h9 := by
  unfold MX12_readRule_258 at H
  refine J_aload_n 0 dX12_readRule_258 rfl rfl ?_
  refine J_iconst (0 : Int32) dX12_readRule_259 kc_0 ?_
  obtain ⟨g68, H⟩ := gd H
  obtain ⟨t70, h69, e67, H⟩ := b2_el H
  refine J_cV (as := [.int (0 : Int32)]) 11 YX12_readIf 1 dX12_readRule_260 moX12_readIf mvX12_readIf mlX12_262 g68 rfl rfl (okX12_readIf (d := d) e67) rfl rfl [] rfl rfl (st2 := [.int t70]) rfl ?_
  obtain ⟨g71, H⟩ := gd H
  cases H
  exact J_rZ dX12_readRule_263 rfl g71
noncomputable def MX12_readRule_329 (h : Hp) (v0 : Nat) (v1 : Int32) (s0 : Nat) (s1 : Int32) (s2 : Int32) : Option (Int32 × Hp) :=
  gg (β := (Int32 × Hp)) (kd h s0 = 11) <|
  b2 (α := Int32) (β := Hp) (γ := (Int32 × Hp)) (MX12_readNumber h s0 s1 s2) fun (t80 : Int32) (h79 : Hp) =>
  if t80 = 0 then
    some ((0 : Int32), h79)
  else
    gg (β := (Int32 × Hp)) (kd h79 v0 = 11) <|
    gg (β := (Int32 × Hp)) (kd h79 (gP h79 v0 18) = 20) <|
    gg (β := (Int32 × Hp)) (inB (v1 + (2 : Int32)) (ln h79 (gP h79 v0 18)) = true) <|
    lt (α := Hp) (β := Option (Int32 × Hp)) (sI h79 (gP h79 v0 18) (v1 + (2 : Int32)).toNatClampNeg (gI h79 v0 11)) fun (h85 : Hp) =>
    some ((1 : Int32), h85)
set_option maxRecDepth 100000 in
set_option maxHeartbeats 8000000 in
theorem kX12_readRule_329 {d : Nat} {h : Hp} {v0 : Nat} {v1 : Int32} {s0 : Nat} {s1 : Int32} {s2 : Int32} {r : Int32} {h9 : Hp} (H : MX12_readRule_329 h v0 v1 s0 s1 s2 = some (r, h9)) : J (d + 37) YX12_readRule 329 [.ref v0, .int v1, Value.null, Value.null, Value.null] [.int s2, .int s1, .ref s0] h (oI r) h9 := by
  unfold MX12_readRule_329 at H
  obtain ⟨g78, H⟩ := gd H
  obtain ⟨t80, h79, e77, H⟩ := b2_el H
  refine J_cV (as := [.int s1, .int s2]) 11 YX12_readNumber 2 dX12_readRule_329 moX12_readNumber mvX12_readNumber mlX12_232 g78 rfl rfl (okX12_readNumber (d := d + 35) e77) rfl rfl [] rfl rfl (st2 := [.int t80]) rfl ?_
  refine J_if_ne 337 dX12_readRule_332 rfl (fun q81 => ?_) (fun q81 => ?_)
  · replace H := br0 q81 H
    refine J_aload_n 0 dX12_readRule_337 rfl rfl ?_
    obtain ⟨g82, H⟩ := gd H
    refine J_gP 11 18 dX12_readRule_338 g82 flX12_42 rfl rfl ?_
    refine J_iload_n 1 dX12_readRule_341 rfl rfl ?_
    refine J_iconst (2 : Int32) dX12_readRule_342 kc_2 ?_
    refine J_iadd dX12_readRule_343 ?_
    refine J_aload_n 0 dX12_readRule_344 rfl rfl ?_
    refine J_getI 11 11 dX12_readRule_345 g82 flX12_181 rfl ?_
    obtain ⟨g83, H⟩ := gd H
    obtain ⟨g84, H⟩ := gd H
    obtain ⟨h85, e86, H⟩ := lt_el H
    refine J_sI dX12_readRule_348 g83 (inB_ok g84) e86 ?_
    have c87 := ekI e86
    have c88 := elI e86
    have c89 := epI e86
    refine J_iconst (1 : Int32) dX12_readRule_349 kc_1 ?_
    cases H
    exact J_rZ dX12_readRule_350 rfl rfl
  · replace H := br1 q81 H
    refine J_iconst (0 : Int32) dX12_readRule_335 kc_0 ?_
    cases H
    exact J_rZ dX12_readRule_336 rfl rfl
noncomputable def MX12_readRule_316 (h : Hp) (v0 : Nat) (v1 : Int32) (v2 : Int32) (s0 : Nat) (s1 : Int32) : Option (Int32 × Hp) :=
  if v2 = (1 : Int32) then
    MX12_readRule_329 h v0 v1 s0 s1 (40 : Int32)
  else
    MX12_readRule_329 h v0 v1 s0 s1 (600 : Int32)
set_option maxRecDepth 100000 in
set_option maxHeartbeats 8000000 in
theorem kX12_readRule_316 {d : Nat} {h : Hp} {v0 : Nat} {v1 : Int32} {v2 : Int32} {s0 : Nat} {s1 : Int32} {r : Int32} {h9 : Hp} (H : MX12_readRule_316 h v0 v1 v2 s0 s1 = some (r, h9)) : J (d + 37) YX12_readRule 316 [.ref v0, .int v1, .int v2, Value.null, Value.null] [.int s1, .ref s0] h (oI r) h9 := by
  unfold MX12_readRule_316 at H
  refine J_iload_n 2 dX12_readRule_316 rfl rfl ?_
  refine J_iconst (1 : Int32) dX12_readRule_317 kc_1 ?_
  refine J_icmp_ne 326 dX12_readRule_318 rfl (fun q76 => ?_) (fun q76 => ?_)
  · replace H := br0 q76 H
    refine J_sipush (600 : Int32) dX12_readRule_326 ks_600 ?_
    exact J_dr (kX12_readRule_329 H ) ⟨rfl, ⟨rfl, trivial⟩⟩
  · replace H := br1 q76 H
    refine J_bipush (40 : Int32) dX12_readRule_321 kb_40 ?_
    refine J_goto 329 dX12_readRule_323 rfl ?_
    exact J_dr (kX12_readRule_329 H ) ⟨rfl, ⟨rfl, trivial⟩⟩
noncomputable def MX12_readRule_298 (h : Hp) (v0 : Nat) (v1 : Int32) (v2 : Int32) : Option (Int32 × Hp) :=
  if v2 = (1 : Int32) then
    gg (β := (Int32 × Hp)) (kd h v0 = 11) <|
    gg (β := (Int32 × Hp)) (kd h (gP h v0 18) = 20) <|
    gg (β := (Int32 × Hp)) (inB (v1 + (1 : Int32)) (ln h (gP h v0 18)) = true) <|
    MX12_readRule_316 h v0 v1 v2 v0 (gI h (gP h v0 18) (v1 + (1 : Int32)).toNatClampNeg)
  else
    MX12_readRule_316 h v0 v1 v2 v0 (0 : Int32)
set_option maxRecDepth 100000 in
set_option maxHeartbeats 8000000 in
theorem kX12_readRule_298 {d : Nat} {h : Hp} {v0 : Nat} {v1 : Int32} {v2 : Int32} {r : Int32} {h9 : Hp} (H : MX12_readRule_298 h v0 v1 v2 = some (r, h9)) : J (d + 37) YX12_readRule 298 [.ref v0, .int v1, .int v2, Value.null, Value.null] [] h (oI r) h9 := by
  unfold MX12_readRule_298 at H
  refine J_aload_n 0 dX12_readRule_298 rfl rfl ?_
  refine J_iload_n 2 dX12_readRule_299 rfl rfl ?_
  refine J_iconst (1 : Int32) dX12_readRule_300 kc_1 ?_
  refine J_icmp_ne 315 dX12_readRule_301 rfl (fun q75 => ?_) (fun q75 => ?_)
  · replace H := br0 q75 H
    refine J_iconst (0 : Int32) dX12_readRule_315 kc_0 ?_
    exact J_dr (kX12_readRule_316 H ) ⟨rfl, ⟨rfl, ⟨rfl, trivial⟩⟩⟩
  · replace H := br1 q75 H
    refine J_aload_n 0 dX12_readRule_304 rfl rfl ?_
    obtain ⟨g90, H⟩ := gd H
    refine J_gP 11 18 dX12_readRule_305 g90 flX12_42 rfl rfl ?_
    refine J_iload_n 1 dX12_readRule_308 rfl rfl ?_
    refine J_iconst (1 : Int32) dX12_readRule_309 kc_1 ?_
    refine J_iadd dX12_readRule_310 ?_
    obtain ⟨g91, H⟩ := gd H
    obtain ⟨g92, H⟩ := gd H
    refine J_iald dX12_readRule_311 g91 (inB_ok g92) ?_
    refine J_goto 316 dX12_readRule_312 rfl ?_
    exact J_dr (kX12_readRule_316 H ) ⟨rfl, ⟨rfl, ⟨rfl, trivial⟩⟩⟩
noncomputable def MX12_readRule_285 (h : Hp) (v0 : Nat) (v1 : Int32) (v2 : Int32) : Option (Int32 × Hp) :=
  if v2 = (1 : Int32) then
    MX12_readRule_298 h v0 v1 v2
  else
    if v2 = (6 : Int32) then
      MX12_readRule_298 h v0 v1 v2
    else
      some ((1 : Int32), h)
set_option maxRecDepth 100000 in
set_option maxHeartbeats 8000000 in
theorem kX12_readRule_285 {d : Nat} {h : Hp} {v0 : Nat} {v1 : Int32} {v2 : Int32} {r : Int32} {h9 : Hp} (H : MX12_readRule_285 h v0 v1 v2 = some (r, h9)) : J (d + 37) YX12_readRule 285 [.ref v0, .int v1, .int v2, Value.null, Value.null] [] h (oI r) h9 := by
  unfold MX12_readRule_285 at H
  refine J_iload_n 2 dX12_readRule_285 rfl rfl ?_
  refine J_iconst (1 : Int32) dX12_readRule_286 kc_1 ?_
  refine J_icmp_eq 298 dX12_readRule_287 rfl (fun q74 => ?_) (fun q74 => ?_)
  · replace H := br1 q74 H
    exact J_dr (kX12_readRule_298 H ) ⟨rfl, ⟨rfl, ⟨rfl, trivial⟩⟩⟩
  · replace H := br0 q74 H
    refine J_iload_n 2 dX12_readRule_290 rfl rfl ?_
    refine J_bipush (6 : Int32) dX12_readRule_291 kb_6 ?_
    refine J_icmp_eq 298 dX12_readRule_293 rfl (fun q93 => ?_) (fun q93 => ?_)
    · replace H := br1 q93 H
      exact J_dr (kX12_readRule_298 H ) ⟨rfl, ⟨rfl, ⟨rfl, trivial⟩⟩⟩
    · replace H := br0 q93 H
      refine J_iconst (1 : Int32) dX12_readRule_296 kc_1 ?_
      cases H
      exact J_rZ dX12_readRule_297 rfl rfl
noncomputable def MX12_readRule_223 (h : Hp) (v0 : Nat) (v1 : Int32) (v2 : Int32) (v3 : Int32) (s0 : Int32) : Option (Int32 × Hp) :=
  gg (β := (Int32 × Hp)) (kd h v0 = 11) <|
  b2 (α := Int32) (β := Hp) (γ := (Int32 × Hp)) (MX12_readNumber h v0 v3 s0) fun (t56 : Int32) (h55 : Hp) =>
  if t56 = 0 then
    some ((0 : Int32), h55)
  else
    gg (β := (Int32 × Hp)) (kd h55 v0 = 11) <|
    gg (β := (Int32 × Hp)) (kd h55 (gP h55 v0 18) = 20) <|
    gg (β := (Int32 × Hp)) (inB (v1 + (1 : Int32)) (ln h55 (gP h55 v0 18)) = true) <|
    lt (α := Hp) (β := Option (Int32 × Hp)) (sI h55 (gP h55 v0 18) (v1 + (1 : Int32)).toNatClampNeg (gI h55 v0 11)) fun (h61 : Hp) =>
    if v2 = 0 then
      MX12_readRule_258 h61 v0
    else
      if v2 = (4 : Int32) then
        MX12_readRule_258 h61 v0
      else
        if v2 = (6 : Int32) then
          b2 (α := Int32) (β := Hp) (γ := (Int32 × Hp)) (MX12_takes h61 v0 1) fun (t96 : Int32) (h95 : Hp) =>
          if t96 = 0 then
            gg (β := (Int32 × Hp)) (kd h95 v0 = 11) <|
            b2 (α := Int32) (β := Hp) (γ := (Int32 × Hp)) (MX12_fails h95 v0) fun (t101 : Int32) (h100 : Hp) =>
            gg (β := (Int32 × Hp)) (zOk t101 = true) <|
            some (t101, h100)
          else
            MX12_readRule_285 h95 v0 v1 v2
        else
          MX12_readRule_285 h61 v0 v1 v2
set_option maxRecDepth 100000 in
set_option maxHeartbeats 8000000 in
theorem kX12_readRule_223 {d : Nat} {h : Hp} {v0 : Nat} {v1 : Int32} {v2 : Int32} {v3 : Int32} {s0 : Int32} {r : Int32} {h9 : Hp} (H : MX12_readRule_223 h v0 v1 v2 v3 s0 = some (r, h9)) : J (d + 37) YX12_readRule 223 [.ref v0, .int v1, .int v2, .int v3, Value.null] [.int s0] h (oI r) h9 := by
  unfold MX12_readRule_223 at H
  refine J_istore dX12_readRule_223 (by decide) (ls' := [.ref v0, .int v1, .int v2, .int v3, .int s0]) rfl ?_
  refine J_aload_n 0 dX12_readRule_225 rfl rfl ?_
  refine J_iload_n 3 dX12_readRule_226 rfl rfl ?_
  refine J_iload dX12_readRule_227 rfl ?_
  obtain ⟨g54, H⟩ := gd H
  obtain ⟨t56, h55, e53, H⟩ := b2_el H
  refine J_cV (as := [.int v3, .int s0]) 11 YX12_readNumber 2 dX12_readRule_229 moX12_readNumber mvX12_readNumber mlX12_232 g54 rfl rfl (okX12_readNumber (d := d + 35) e53) rfl rfl [] rfl rfl (st2 := [.int t56]) rfl ?_
  refine J_if_ne 237 dX12_readRule_232 rfl (fun q57 => ?_) (fun q57 => ?_)
  · replace H := br0 q57 H
    refine J_aload_n 0 dX12_readRule_237 rfl rfl ?_
    obtain ⟨g58, H⟩ := gd H
    refine J_gP 11 18 dX12_readRule_238 g58 flX12_42 rfl rfl ?_
    refine J_iload_n 1 dX12_readRule_241 rfl rfl ?_
    refine J_iconst (1 : Int32) dX12_readRule_242 kc_1 ?_
    refine J_iadd dX12_readRule_243 ?_
    refine J_aload_n 0 dX12_readRule_244 rfl rfl ?_
    refine J_getI 11 11 dX12_readRule_245 g58 flX12_181 rfl ?_
    obtain ⟨g59, H⟩ := gd H
    obtain ⟨g60, H⟩ := gd H
    obtain ⟨h61, e62, H⟩ := lt_el H
    refine J_sI dX12_readRule_248 g59 (inB_ok g60) e62 ?_
    have c63 := ekI e62
    have c64 := elI e62
    have c65 := epI e62
    refine J_iload_n 2 dX12_readRule_249 rfl rfl ?_
    refine J_if_eq 258 dX12_readRule_250 rfl (fun q66 => ?_) (fun q66 => ?_)
    · replace H := br1 q66 H
      exact J_dr (kX12_readRule_258 H ) ⟨rfl, trivial⟩
    · replace H := br0 q66 H
      refine J_iload_n 2 dX12_readRule_253 rfl rfl ?_
      refine J_iconst (4 : Int32) dX12_readRule_254 kc_4 ?_
      refine J_icmp_ne 264 dX12_readRule_255 rfl (fun q72 => ?_) (fun q72 => ?_)
      · replace H := br0 q72 H
        refine J_iload_n 2 dX12_readRule_264 rfl rfl ?_
        refine J_bipush (6 : Int32) dX12_readRule_265 kb_6 ?_
        refine J_icmp_ne 285 dX12_readRule_267 rfl (fun q73 => ?_) (fun q73 => ?_)
        · replace H := br0 q73 H
          exact J_dr (kX12_readRule_285 H ) ⟨rfl, ⟨rfl, ⟨rfl, trivial⟩⟩⟩
        · replace H := br1 q73 H
          refine J_aload_n 0 dX12_readRule_270 rfl rfl ?_
          refine J_lSw (tx := "at") dX12_readRule_271 1 (by decide +kernel) ?_
          obtain ⟨t96, h95, e94, H⟩ := b2_el H
          refine J_cV (as := [.retAddr 1]) 11 YX12_takes 1 dX12_readRule_274 moX12_takes mvX12_takes mlX12_189 (kq c63 g58) rfl rfl (okX12_takes (d := d + 32) e94) rfl rfl [] rfl rfl (st2 := [.int t96]) rfl ?_
          refine J_if_ne 285 dX12_readRule_277 rfl (fun q97 => ?_) (fun q97 => ?_)
          · replace H := br0 q97 H
            exact J_dr (kX12_readRule_285 H ) ⟨rfl, ⟨rfl, ⟨rfl, trivial⟩⟩⟩
          · replace H := br1 q97 H
            refine J_aload_n 0 dX12_readRule_280 rfl rfl ?_
            obtain ⟨g99, H⟩ := gd H
            obtain ⟨t101, h100, e98, H⟩ := b2_el H
            refine J_cV (as := []) 11 YX12_fails 0 dX12_readRule_281 moX12_fails mvX12_fails mlX12_223 g99 rfl rfl (okX12_fails (d := d + 36) e98) rfl rfl [] rfl rfl (st2 := [.int t101]) rfl ?_
            obtain ⟨g102, H⟩ := gd H
            cases H
            exact J_rZ dX12_readRule_284 rfl g102
      · replace H := br1 q72 H
        exact J_dr (kX12_readRule_258 H ) ⟨rfl, trivial⟩
  · replace H := br1 q57 H
    refine J_iconst (0 : Int32) dX12_readRule_235 kc_0 ?_
    cases H
    exact J_rZ dX12_readRule_236 rfl rfl
noncomputable def MX12_readRule_206 (h : Hp) (v0 : Nat) (v1 : Int32) (v2 : Int32) (v3 : Int32) : Option (Int32 × Hp) :=
  MX12_readRule_223 h v0 v1 v2 v3 (999 : Int32)
set_option maxRecDepth 100000 in
set_option maxHeartbeats 8000000 in
theorem kX12_readRule_206 {d : Nat} {h : Hp} {v0 : Nat} {v1 : Int32} {v2 : Int32} {v3 : Int32} {r : Int32} {h9 : Hp} (H : MX12_readRule_206 h v0 v1 v2 v3 = some (r, h9)) : J (d + 37) YX12_readRule 206 [.ref v0, .int v1, .int v2, .int v3, Value.null] [] h (oI r) h9 := by
  unfold MX12_readRule_206 at H
  refine J_sipush (999 : Int32) dX12_readRule_206 ks_999 ?_
  refine J_goto 223 dX12_readRule_209 rfl ?_
  exact J_dr (kX12_readRule_223 H ) ⟨rfl, ⟨rfl, ⟨rfl, ⟨rfl, trivial⟩⟩⟩⟩
noncomputable def MX12_readRule_175 (h : Hp) (v0 : Nat) (v1 : Int32) (v2 : Int32) (s0 : Int32) : Option (Int32 × Hp) :=
  if v2 = 0 then
    MX12_readRule_223 h v0 v1 v2 s0 (400 : Int32)
  else
    if v2 = (1 : Int32) then
      MX12_readRule_223 h v0 v1 v2 s0 (40 : Int32)
    else
      if v2 = (2 : Int32) then
        MX12_readRule_206 h v0 v1 v2 s0
      else
        if v2 = (4 : Int32) then
          MX12_readRule_206 h v0 v1 v2 s0
        else
          if v2 = (3 : Int32) then
            MX12_readRule_223 h v0 v1 v2 s0 (99 : Int32)
          else
            MX12_readRule_223 h v0 v1 v2 s0 (5 : Int32)
set_option maxRecDepth 100000 in
set_option maxHeartbeats 8000000 in
theorem kX12_readRule_175 {d : Nat} {h : Hp} {v0 : Nat} {v1 : Int32} {v2 : Int32} {s0 : Int32} {r : Int32} {h9 : Hp} (H : MX12_readRule_175 h v0 v1 v2 s0 = some (r, h9)) : J (d + 37) YX12_readRule 175 [.ref v0, .int v1, .int v2, Value.null, Value.null] [.int s0] h (oI r) h9 := by
  unfold MX12_readRule_175 at H
  refine J_istore_n 3 dX12_readRule_175 rfl (by decide) (ls' := [.ref v0, .int v1, .int v2, .int s0, Value.null]) rfl ?_
  refine J_iload_n 2 dX12_readRule_176 rfl rfl ?_
  refine J_if_ne 186 dX12_readRule_177 rfl (fun q50 => ?_) (fun q50 => ?_)
  · replace H := br0 q50 H
    refine J_iload_n 2 dX12_readRule_186 rfl rfl ?_
    refine J_iconst (1 : Int32) dX12_readRule_187 kc_1 ?_
    refine J_icmp_ne 196 dX12_readRule_188 rfl (fun q51 => ?_) (fun q51 => ?_)
    · replace H := br0 q51 H
      refine J_iload_n 2 dX12_readRule_196 rfl rfl ?_
      refine J_iconst (2 : Int32) dX12_readRule_197 kc_2 ?_
      refine J_icmp_eq 206 dX12_readRule_198 rfl (fun q52 => ?_) (fun q52 => ?_)
      · replace H := br1 q52 H
        exact J_dr (kX12_readRule_206 H ) ⟨rfl, ⟨rfl, ⟨rfl, ⟨rfl, trivial⟩⟩⟩⟩
      · replace H := br0 q52 H
        refine J_iload_n 2 dX12_readRule_201 rfl rfl ?_
        refine J_iconst (4 : Int32) dX12_readRule_202 kc_4 ?_
        refine J_icmp_ne 212 dX12_readRule_203 rfl (fun q103 => ?_) (fun q103 => ?_)
        · replace H := br0 q103 H
          refine J_iload_n 2 dX12_readRule_212 rfl rfl ?_
          refine J_iconst (3 : Int32) dX12_readRule_213 kc_3 ?_
          refine J_icmp_ne 222 dX12_readRule_214 rfl (fun q104 => ?_) (fun q104 => ?_)
          · replace H := br0 q104 H
            refine J_iconst (5 : Int32) dX12_readRule_222 kc_5 ?_
            exact J_dr (kX12_readRule_223 H ) ⟨rfl, ⟨rfl, ⟨rfl, ⟨rfl, trivial⟩⟩⟩⟩
          · replace H := br1 q104 H
            refine J_bipush (99 : Int32) dX12_readRule_217 kb_99 ?_
            refine J_goto 223 dX12_readRule_219 rfl ?_
            exact J_dr (kX12_readRule_223 H ) ⟨rfl, ⟨rfl, ⟨rfl, ⟨rfl, trivial⟩⟩⟩⟩
        · replace H := br1 q103 H
          exact J_dr (kX12_readRule_206 H ) ⟨rfl, ⟨rfl, ⟨rfl, ⟨rfl, trivial⟩⟩⟩⟩
    · replace H := br1 q51 H
      refine J_bipush (40 : Int32) dX12_readRule_191 kb_40 ?_
      refine J_goto 223 dX12_readRule_193 rfl ?_
      exact J_dr (kX12_readRule_223 H ) ⟨rfl, ⟨rfl, ⟨rfl, ⟨rfl, trivial⟩⟩⟩⟩
  · replace H := br1 q50 H
    refine J_sipush (400 : Int32) dX12_readRule_180 ks_400 ?_
    refine J_goto 223 dX12_readRule_183 rfl ?_
    exact J_dr (kX12_readRule_223 H ) ⟨rfl, ⟨rfl, ⟨rfl, ⟨rfl, trivial⟩⟩⟩⟩
noncomputable def MX12_readRule_127 (h : Hp) (v0 : Nat) (v1 : Int32) (s0 : Int32) : Option (Int32 × Hp) :=
  if s0 = (-1 : Int32) then
    gg (β := (Int32 × Hp)) (kd h v0 = 11) <|
    b2 (α := Int32) (β := Hp) (γ := (Int32 × Hp)) (MX12_fails h v0) fun (t112 : Int32) (h111 : Hp) =>
    gg (β := (Int32 × Hp)) (zOk t112 = true) <|
    some (t112, h111)
  else
    gg (β := (Int32 × Hp)) (kd h v0 = 11) <|
    gg (β := (Int32 × Hp)) (kd h (gP h v0 18) = 20) <|
    gg (β := (Int32 × Hp)) (inB v1 (ln h (gP h v0 18)) = true) <|
    lt (α := Hp) (β := Option (Int32 × Hp)) (sI h (gP h v0 18) v1.toNatClampNeg s0) fun (h42 : Hp) =>
    if s0 = (5 : Int32) then
      b2 (α := Int32) (β := Hp) (γ := (Int32 × Hp)) (MX12_readIf h42 v0 (1 : Int32)) fun (t107 : Int32) (h106 : Hp) =>
      gg (β := (Int32 × Hp)) (zOk t107 = true) <|
      some (t107, h106)
    else
      if s0 = 0 then
        MX12_readRule_175 h42 v0 v1 s0 (10 : Int32)
      else
        if s0 = (1 : Int32) then
          MX12_readRule_175 h42 v0 v1 s0 (1 : Int32)
        else
          MX12_readRule_175 h42 v0 v1 s0 (0 : Int32)
set_option maxRecDepth 100000 in
set_option maxHeartbeats 8000000 in
theorem kX12_readRule_127 {d : Nat} {h : Hp} {v0 : Nat} {v1 : Int32} {s0 : Int32} {r : Int32} {h9 : Hp} (H : MX12_readRule_127 h v0 v1 s0 = some (r, h9)) : J (d + 37) YX12_readRule 127 [.ref v0, .int v1, Value.null, Value.null, Value.null] [.int s0] h (oI r) h9 := by
  unfold MX12_readRule_127 at H
  refine J_istore_n 2 dX12_readRule_127 rfl (by decide) (ls' := [.ref v0, .int v1, .int s0, Value.null, Value.null]) rfl ?_
  refine J_iload_n 2 dX12_readRule_128 rfl rfl ?_
  refine J_iconst (-1 : Int32) dX12_readRule_129 kc_m1 ?_
  refine J_icmp_ne 138 dX12_readRule_130 rfl (fun q38 => ?_) (fun q38 => ?_)
  · replace H := br0 q38 H
    refine J_aload_n 0 dX12_readRule_138 rfl rfl ?_
    obtain ⟨g39, H⟩ := gd H
    refine J_gP 11 18 dX12_readRule_139 g39 flX12_42 rfl rfl ?_
    refine J_iload_n 1 dX12_readRule_142 rfl rfl ?_
    refine J_iload_n 2 dX12_readRule_143 rfl rfl ?_
    obtain ⟨g40, H⟩ := gd H
    obtain ⟨g41, H⟩ := gd H
    obtain ⟨h42, e43, H⟩ := lt_el H
    refine J_sI dX12_readRule_144 g40 (inB_ok g41) e43 ?_
    have c44 := ekI e43
    have c45 := elI e43
    have c46 := epI e43
    refine J_iload_n 2 dX12_readRule_145 rfl rfl ?_
    refine J_iconst (5 : Int32) dX12_readRule_146 kc_5 ?_
    refine J_icmp_ne 156 dX12_readRule_147 rfl (fun q47 => ?_) (fun q47 => ?_)
    · replace H := br0 q47 H
      refine J_iload_n 2 dX12_readRule_156 rfl rfl ?_
      refine J_if_ne 165 dX12_readRule_157 rfl (fun q48 => ?_) (fun q48 => ?_)
      · replace H := br0 q48 H
        refine J_iload_n 2 dX12_readRule_165 rfl rfl ?_
        refine J_iconst (1 : Int32) dX12_readRule_166 kc_1 ?_
        refine J_icmp_ne 174 dX12_readRule_167 rfl (fun q49 => ?_) (fun q49 => ?_)
        · replace H := br0 q49 H
          refine J_iconst (0 : Int32) dX12_readRule_174 kc_0 ?_
          exact J_dr (kX12_readRule_175 H ) ⟨rfl, ⟨rfl, ⟨rfl, trivial⟩⟩⟩
        · replace H := br1 q49 H
          refine J_iconst (1 : Int32) dX12_readRule_170 kc_1 ?_
          refine J_goto 175 dX12_readRule_171 rfl ?_
          exact J_dr (kX12_readRule_175 H ) ⟨rfl, ⟨rfl, ⟨rfl, trivial⟩⟩⟩
      · replace H := br1 q48 H
        refine J_bipush (10 : Int32) dX12_readRule_160 kb_10 ?_
        refine J_goto 175 dX12_readRule_162 rfl ?_
        exact J_dr (kX12_readRule_175 H ) ⟨rfl, ⟨rfl, ⟨rfl, trivial⟩⟩⟩
    · replace H := br1 q47 H
      refine J_aload_n 0 dX12_readRule_150 rfl rfl ?_
      refine J_iconst (1 : Int32) dX12_readRule_151 kc_1 ?_
      obtain ⟨t107, h106, e105, H⟩ := b2_el H
      refine J_cV (as := [.int (1 : Int32)]) 11 YX12_readIf 1 dX12_readRule_152 moX12_readIf mvX12_readIf mlX12_262 (kq c44 g39) rfl rfl (okX12_readIf (d := d) e105) rfl rfl [] rfl rfl (st2 := [.int t107]) rfl ?_
      obtain ⟨g108, H⟩ := gd H
      cases H
      exact J_rZ dX12_readRule_155 rfl g108
  · replace H := br1 q38 H
    refine J_aload_n 0 dX12_readRule_133 rfl rfl ?_
    obtain ⟨g110, H⟩ := gd H
    obtain ⟨t112, h111, e109, H⟩ := b2_el H
    refine J_cV (as := []) 11 YX12_fails 0 dX12_readRule_134 moX12_fails mvX12_fails mlX12_223 g110 rfl rfl (okX12_fails (d := d + 36) e109) rfl rfl [] rfl rfl (st2 := [.int t112]) rfl ?_
    obtain ⟨g113, H⟩ := gd H
    cases H
    exact J_rZ dX12_readRule_137 rfl g113
noncomputable def MX12_readRule_31 (h : Hp) (v0 : Nat) (v1 : Int32) : Option (Int32 × Hp) :=
  gg (β := (Int32 × Hp)) (kd h v0 = 11) <|
  b2 (α := Int32) (β := Hp) (γ := (Int32 × Hp)) (MX12_takes h v0 13) fun (t6 : Int32) (h5 : Hp) =>
  if t6 = 0 then
    gg (β := (Int32 × Hp)) (kd h5 v0 = 11) <|
    b2 (α := Int32) (β := Hp) (γ := (Int32 × Hp)) (MX12_takes h5 v0 19) fun (t11 : Int32) (h10 : Hp) =>
    if t11 = 0 then
      gg (β := (Int32 × Hp)) (kd h10 v0 = 11) <|
      b2 (α := Int32) (β := Hp) (γ := (Int32 × Hp)) (MX12_takes h10 v0 17) fun (t16 : Int32) (h15 : Hp) =>
      if t16 = 0 then
        gg (β := (Int32 × Hp)) (kd h15 v0 = 11) <|
        b2 (α := Int32) (β := Hp) (γ := (Int32 × Hp)) (MX12_takes h15 v0 6) fun (t21 : Int32) (h20 : Hp) =>
        if t21 = 0 then
          gg (β := (Int32 × Hp)) (kd h20 v0 = 11) <|
          b2 (α := Int32) (β := Hp) (γ := (Int32 × Hp)) (MX12_takes h20 v0 18) fun (t26 : Int32) (h25 : Hp) =>
          if t26 = 0 then
            gg (β := (Int32 × Hp)) (kd h25 v0 = 11) <|
            b2 (α := Int32) (β := Hp) (γ := (Int32 × Hp)) (MX12_takes h25 v0 7) fun (t31 : Int32) (h30 : Hp) =>
            if t31 = 0 then
              gg (β := (Int32 × Hp)) (kd h30 v0 = 11) <|
              b2 (α := Int32) (β := Hp) (γ := (Int32 × Hp)) (MX12_takes h30 v0 3) fun (t36 : Int32) (h35 : Hp) =>
              if t36 = 0 then
                MX12_readRule_127 h35 v0 v1 (-1 : Int32)
              else
                MX12_readRule_127 h35 v0 v1 (6 : Int32)
            else
              MX12_readRule_127 h30 v0 v1 (5 : Int32)
          else
            MX12_readRule_127 h25 v0 v1 (4 : Int32)
        else
          MX12_readRule_127 h20 v0 v1 (3 : Int32)
      else
        MX12_readRule_127 h15 v0 v1 (2 : Int32)
    else
      MX12_readRule_127 h10 v0 v1 (1 : Int32)
  else
    MX12_readRule_127 h5 v0 v1 (0 : Int32)
set_option maxRecDepth 100000 in
set_option maxHeartbeats 8000000 in
theorem kX12_readRule_31 {d : Nat} {h : Hp} {v0 : Nat} {v1 : Int32} {r : Int32} {h9 : Hp} (H : MX12_readRule_31 h v0 v1 = some (r, h9)) : J (d + 37) YX12_readRule 31 [.ref v0, .int v1, Value.null, Value.null, Value.null] [] h (oI r) h9 := by
  unfold MX12_readRule_31 at H
  refine J_aload_n 0 dX12_readRule_31 rfl rfl ?_
  refine J_lS (tx := "measure") dX12_readRule_32 13 (by decide +kernel) ?_
  obtain ⟨g4, H⟩ := gd H
  obtain ⟨t6, h5, e3, H⟩ := b2_el H
  refine J_cV (as := [.retAddr 13]) 11 YX12_takes 1 dX12_readRule_34 moX12_takes mvX12_takes mlX12_189 g4 rfl rfl (okX12_takes (d := d + 32) e3) rfl rfl [] rfl rfl (st2 := [.int t6]) rfl ?_
  refine J_if_eq 44 dX12_readRule_37 rfl (fun q7 => ?_) (fun q7 => ?_)
  · replace H := br1 q7 H
    refine J_aload_n 0 dX12_readRule_44 rfl rfl ?_
    refine J_lS (tx := "space") dX12_readRule_45 19 (by decide +kernel) ?_
    obtain ⟨g9, H⟩ := gd H
    obtain ⟨t11, h10, e8, H⟩ := b2_el H
    refine J_cV (as := [.retAddr 19]) 11 YX12_takes 1 dX12_readRule_47 moX12_takes mvX12_takes mlX12_189 g9 rfl rfl (okX12_takes (d := d + 32) e8) rfl rfl [] rfl rfl (st2 := [.int t11]) rfl ?_
    refine J_if_eq 57 dX12_readRule_50 rfl (fun q12 => ?_) (fun q12 => ?_)
    · replace H := br1 q12 H
      refine J_aload_n 0 dX12_readRule_57 rfl rfl ?_
      refine J_lS (tx := "part") dX12_readRule_58 17 (by decide +kernel) ?_
      obtain ⟨g14, H⟩ := gd H
      obtain ⟨t16, h15, e13, H⟩ := b2_el H
      refine J_cV (as := [.retAddr 17]) 11 YX12_takes 1 dX12_readRule_60 moX12_takes mvX12_takes mlX12_189 g14 rfl rfl (okX12_takes (d := d + 32) e13) rfl rfl [] rfl rfl (st2 := [.int t16]) rfl ?_
      refine J_if_eq 70 dX12_readRule_63 rfl (fun q17 => ?_) (fun q17 => ?_)
      · replace H := br1 q17 H
        refine J_aload_n 0 dX12_readRule_70 rfl rfl ?_
        refine J_lS (tx := "fat") dX12_readRule_71 6 (by decide +kernel) ?_
        obtain ⟨g19, H⟩ := gd H
        obtain ⟨t21, h20, e18, H⟩ := b2_el H
        refine J_cV (as := [.retAddr 6]) 11 YX12_takes 1 dX12_readRule_73 moX12_takes mvX12_takes mlX12_189 g19 rfl rfl (okX12_takes (d := d + 32) e18) rfl rfl [] rfl rfl (st2 := [.int t21]) rfl ?_
        refine J_if_eq 83 dX12_readRule_76 rfl (fun q22 => ?_) (fun q22 => ?_)
        · replace H := br1 q22 H
          refine J_aload_n 0 dX12_readRule_83 rfl rfl ?_
          refine J_lSw (tx := "pay") dX12_readRule_84 18 (by decide +kernel) ?_
          obtain ⟨g24, H⟩ := gd H
          obtain ⟨t26, h25, e23, H⟩ := b2_el H
          refine J_cV (as := [.retAddr 18]) 11 YX12_takes 1 dX12_readRule_87 moX12_takes mvX12_takes mlX12_189 g24 rfl rfl (okX12_takes (d := d + 32) e23) rfl rfl [] rfl rfl (st2 := [.int t26]) rfl ?_
          refine J_if_eq 97 dX12_readRule_90 rfl (fun q27 => ?_) (fun q27 => ?_)
          · replace H := br1 q27 H
            refine J_aload_n 0 dX12_readRule_97 rfl rfl ?_
            refine J_lSw (tx := "free") dX12_readRule_98 7 (by decide +kernel) ?_
            obtain ⟨g29, H⟩ := gd H
            obtain ⟨t31, h30, e28, H⟩ := b2_el H
            refine J_cV (as := [.retAddr 7]) 11 YX12_takes 1 dX12_readRule_101 moX12_takes mvX12_takes mlX12_189 g29 rfl rfl (okX12_takes (d := d + 32) e28) rfl rfl [] rfl rfl (st2 := [.int t31]) rfl ?_
            refine J_if_eq 111 dX12_readRule_104 rfl (fun q32 => ?_) (fun q32 => ?_)
            · replace H := br1 q32 H
              refine J_aload_n 0 dX12_readRule_111 rfl rfl ?_
              refine J_lSw (tx := "close") dX12_readRule_112 3 (by decide +kernel) ?_
              obtain ⟨g34, H⟩ := gd H
              obtain ⟨t36, h35, e33, H⟩ := b2_el H
              refine J_cV (as := [.retAddr 3]) 11 YX12_takes 1 dX12_readRule_115 moX12_takes mvX12_takes mlX12_189 g34 rfl rfl (okX12_takes (d := d + 32) e33) rfl rfl [] rfl rfl (st2 := [.int t36]) rfl ?_
              refine J_if_eq 126 dX12_readRule_118 rfl (fun q37 => ?_) (fun q37 => ?_)
              · replace H := br1 q37 H
                refine J_iconst (-1 : Int32) dX12_readRule_126 kc_m1 ?_
                exact J_dr (kX12_readRule_127 H ) ⟨rfl, ⟨rfl, trivial⟩⟩
              · replace H := br0 q37 H
                refine J_bipush (6 : Int32) dX12_readRule_121 kb_6 ?_
                refine J_goto 127 dX12_readRule_123 rfl ?_
                exact J_dr (kX12_readRule_127 H ) ⟨rfl, ⟨rfl, trivial⟩⟩
            · replace H := br0 q32 H
              refine J_iconst (5 : Int32) dX12_readRule_107 kc_5 ?_
              refine J_goto 127 dX12_readRule_108 rfl ?_
              exact J_dr (kX12_readRule_127 H ) ⟨rfl, ⟨rfl, trivial⟩⟩
          · replace H := br0 q27 H
            refine J_iconst (4 : Int32) dX12_readRule_93 kc_4 ?_
            refine J_goto 127 dX12_readRule_94 rfl ?_
            exact J_dr (kX12_readRule_127 H ) ⟨rfl, ⟨rfl, trivial⟩⟩
        · replace H := br0 q22 H
          refine J_iconst (3 : Int32) dX12_readRule_79 kc_3 ?_
          refine J_goto 127 dX12_readRule_80 rfl ?_
          exact J_dr (kX12_readRule_127 H ) ⟨rfl, ⟨rfl, trivial⟩⟩
      · replace H := br0 q17 H
        refine J_iconst (2 : Int32) dX12_readRule_66 kc_2 ?_
        refine J_goto 127 dX12_readRule_67 rfl ?_
        exact J_dr (kX12_readRule_127 H ) ⟨rfl, ⟨rfl, trivial⟩⟩
    · replace H := br0 q12 H
      refine J_iconst (1 : Int32) dX12_readRule_53 kc_1 ?_
      refine J_goto 127 dX12_readRule_54 rfl ?_
      exact J_dr (kX12_readRule_127 H ) ⟨rfl, ⟨rfl, trivial⟩⟩
  · replace H := br0 q7 H
    refine J_iconst (0 : Int32) dX12_readRule_40 kc_0 ?_
    refine J_goto 127 dX12_readRule_41 rfl ?_
    exact J_dr (kX12_readRule_127 H ) ⟨rfl, ⟨rfl, trivial⟩⟩
noncomputable def BX12_readRule_11 (h : Hp) (v0 : Nat) (v1 : Int32) (v2 : Int32) : Option ((Int32 × Hp) ⊕ (Int32 × Hp)) :=
  if (5 : Int32) ≤ v2 then
    up1 (MX12_readRule_31 h v0 v1)
  else
    gg (β := ((Int32 × Hp) ⊕ (Int32 × Hp))) (kd h v0 = 11) <|
    gg (β := ((Int32 × Hp) ⊕ (Int32 × Hp))) (kd h (gP h v0 18) = 20) <|
    gg (β := ((Int32 × Hp) ⊕ (Int32 × Hp))) (inB (v1 + v2) (ln h (gP h v0 18)) = true) <|
    lt (α := Hp) (β := Option ((Int32 × Hp) ⊕ (Int32 × Hp))) (sI h (gP h v0 18) (v1 + v2).toNatClampNeg (0 : Int32)) fun (h117 : Hp) =>
    some (.inl ((v2 + (1 : Int32)), h117))
set_option maxRecDepth 100000 in
set_option maxHeartbeats 8000000 in
theorem bX12_readRule_11 {d : Nat} {h : Hp} {v0 : Nat} {v1 : Int32} {v2 : Int32} {r : Int32} {h9 : Hp} {x : ((Int32 × Hp) ⊕ (Int32 × Hp))} (H : BX12_readRule_11 h v0 v1 v2 = some x) (hb0 : ∀ s : Int32 × Hp, x = .inl s → J (d + 37) YX12_readRule 11 [.ref v0, .int v1, .int s.1, Value.null, Value.null] [] s.2 (oI r) h9) (hx : ∀ z : (Int32 × Hp), x = .inr (z) → z = (r, h9)) : J (d + 37) YX12_readRule 11 [.ref v0, .int v1, .int v2, Value.null, Value.null] [] h (oI r) h9 := by
  unfold BX12_readRule_11 at H
  refine J_iload_n 2 dX12_readRule_11 rfl rfl ?_
  refine J_iconst (5 : Int32) dX12_readRule_12 kc_5 ?_
  refine J_icmp_ge 31 dX12_readRule_13 rfl (fun q2 => ?_) (fun q2 => ?_)
  · replace H := br1 q2 H
    obtain ⟨y0, H90, rfl⟩ := up1_el H
    replace H := H90
    obtain rfl := hx _ rfl
    exact J_dr (kX12_readRule_31 H ) ⟨rfl, ⟨rfl, trivial⟩⟩
  · replace H := br0 q2 H
    refine J_aload_n 0 dX12_readRule_16 rfl rfl ?_
    obtain ⟨g114, H⟩ := gd H
    refine J_gP 11 18 dX12_readRule_17 g114 flX12_42 rfl rfl ?_
    refine J_iload_n 1 dX12_readRule_20 rfl rfl ?_
    refine J_iload_n 2 dX12_readRule_21 rfl rfl ?_
    refine J_iadd dX12_readRule_22 ?_
    refine J_iconst (0 : Int32) dX12_readRule_23 kc_0 ?_
    obtain ⟨g115, H⟩ := gd H
    obtain ⟨g116, H⟩ := gd H
    obtain ⟨h117, e118, H⟩ := lt_el H
    refine J_sI dX12_readRule_24 g115 (inB_ok g116) e118 ?_
    have c119 := ekI e118
    have c120 := elI e118
    have c121 := epI e118
    refine J_iinc (v2 + (1 : Int32)) dX12_readRule_25 rfl (congrArg (HAdd.hAdd v2) kc_1) (by decide) (ls' := [.ref v0, .int v1, .int (v2 + (1 : Int32)), Value.null, Value.null]) rfl ?_
    refine J_goto 11 dX12_readRule_28 rfl ?_
    cases H
    exact J_dr (hb0 _ rfl) ⟨rfl, ⟨rfl, ⟨rfl, trivial⟩⟩⟩
noncomputable def MX12_readRule_11 (h : Hp) (v0 : Nat) (v1 : Int32) (v2 : Int32) : Option (Int32 × Hp) := it (fun q : Int32 × Hp => BX12_readRule_11 q.2 v0 v1 q.1) (v2, h)
set_option maxRecDepth 100000 in
set_option maxHeartbeats 8000000 in
theorem kX12_readRule_11 {d : Nat} {h : Hp} {v0 : Nat} {v1 : Int32} {v2 : Int32} {r : Int32} {h9 : Hp} (H : MX12_readRule_11 h v0 v1 v2 = some (r, h9)) : J (d + 37) YX12_readRule 11 [.ref v0, .int v1, .int v2, Value.null, Value.null] [] h (oI r) h9 := by
  unfold MX12_readRule_11 at H
  refine it_J (G := (fun q : Int32 × Hp => J (d + 37) YX12_readRule 11 [.ref v0, .int v1, .int q.1, Value.null, Value.null] [] q.2 (oI r) h9)) (Q := (fun y : (Int32 × Hp) => y = (r, h9))) (fun q x Hq hm => ?_) H rfl
  exact bX12_readRule_11 Hq (fun s hs => by subst hs; exact hm) (fun z hz => by subst hz; exact hm)
noncomputable def MX12_readRule (h : Hp) (v0 : Nat) : Option (Int32 × Hp) :=
  gg (β := (Int32 × Hp)) (kd h v0 = 11) <|
  MX12_readRule_11 h v0 ((2 : Int32) + ((5 : Int32) * (gI h v0 19))) (0 : Int32)
set_option maxRecDepth 100000 in
set_option maxHeartbeats 8000000 in
theorem eX12_readRule {d : Nat} {h : Hp} {v0 : Nat} {r : Int32} {h9 : Hp} (H : MX12_readRule h v0 = some (r, h9)) : J (d + 37) YX12_readRule 0 [.ref v0, Value.null, Value.null, Value.null, Value.null] [] h (oI r) h9 := by
  unfold MX12_readRule at H
  refine J_iconst (2 : Int32) dX12_readRule_0 kc_2 ?_
  refine J_iconst (5 : Int32) dX12_readRule_1 kc_5 ?_
  refine J_aload_n 0 dX12_readRule_2 rfl rfl ?_
  obtain ⟨g1, H⟩ := gd H
  refine J_getI 11 19 dX12_readRule_3 g1 flX12_245 rfl ?_
  refine J_imul dX12_readRule_6 ?_
  refine J_iadd dX12_readRule_7 ?_
  refine J_istore_n 1 dX12_readRule_8 rfl (by decide) (ls' := [.ref v0, .int ((2 : Int32) + ((5 : Int32) * (gI h v0 19))), Value.null, Value.null, Value.null]) rfl ?_
  refine J_iconst (0 : Int32) dX12_readRule_9 kc_0 ?_
  refine J_istore_n 2 dX12_readRule_10 rfl (by decide) (ls' := [.ref v0, .int ((2 : Int32) + ((5 : Int32) * (gI h v0 19))), .int (0 : Int32), Value.null, Value.null]) rfl ?_
  exact J_dr (kX12_readRule_11 H ) ⟨rfl, ⟨rfl, ⟨rfl, trivial⟩⟩⟩
theorem okX12_readRule {d : Nat} {h : Hp} {v0 : Nat} {r : Int32} {h9 : Hp} (H : MX12_readRule h v0 = some (r, h9)) : CT (d + 37) YX12_readRule [.ref v0] h (oI r) h9 := CT_of (by decide +kernel) (Nat.le_of_ble_eq_true rfl) (eX12_readRule H)
noncomputable def MX12_readStory_276 (h : Hp) (v0 : Nat) : Option (Int32 × Hp) :=
  gg (β := (Int32 × Hp)) (kd h v0 = 11) <|
  if (gI h v0 9) = (-1 : Int32) then
    some ((1 : Int32), h)
  else
    some ((0 : Int32), h)
set_option maxRecDepth 100000 in
set_option maxHeartbeats 8000000 in
theorem kX12_readStory_276 {d : Nat} {h : Hp} {v0 : Nat} {r : Int32} {h9 : Hp} (H : MX12_readStory_276 h v0 = some (r, h9)) : J (d + 2) YX12_readStory 276 [.ref v0, Value.null] [] h (oI r) h9 := by
  unfold MX12_readStory_276 at H
  refine J_aload_n 0 dX12_readStory_276 rfl rfl ?_
  obtain ⟨g29, H⟩ := gd H
  refine J_getI 11 9 dX12_readStory_277 g29 flX12_23 rfl ?_
  refine J_iconst (-1 : Int32) dX12_readStory_280 kc_m1 ?_
  refine J_icmp_ne 288 dX12_readStory_281 rfl (fun q30 => ?_) (fun q30 => ?_)
  · replace H := br0 q30 H
    refine J_iconst (0 : Int32) dX12_readStory_288 kc_0 ?_
    cases H
    exact J_rZ dX12_readStory_289 rfl rfl
  · replace H := br1 q30 H
    refine J_iconst (1 : Int32) dX12_readStory_284 kc_1 ?_
    refine J_goto 289 dX12_readStory_285 rfl ?_
    cases H
    exact J_rZ dX12_readStory_289 rfl rfl
noncomputable def MX12_readStory_256 (h : Hp) (v0 : Nat) : Option (Int32 × Hp) :=
  gg (β := (Int32 × Hp)) (kd h v0 = 11) <|
  gg (β := (Int32 × Hp)) (kd h (gP h v0 16) = 20) <|
  gg (β := (Int32 × Hp)) (inB (gI h v0 17) (ln h (gP h v0 16)) = true) <|
  if (gI h (gP h v0 16) (gI h v0 17).toNatClampNeg) = 0 then
    lt (α := Hp) (β := Option (Int32 × Hp)) (sI h v0 9 (gI h v0 7)) fun (h31 : Hp) =>
    MX12_readStory_276 h31 v0
  else
    MX12_readStory_276 h v0
set_option maxRecDepth 100000 in
set_option maxHeartbeats 8000000 in
theorem kX12_readStory_256 {d : Nat} {h : Hp} {v0 : Nat} {r : Int32} {h9 : Hp} (H : MX12_readStory_256 h v0 = some (r, h9)) : J (d + 2) YX12_readStory 256 [.ref v0, Value.null] [] h (oI r) h9 := by
  unfold MX12_readStory_256 at H
  refine J_aload_n 0 dX12_readStory_256 rfl rfl ?_
  obtain ⟨g25, H⟩ := gd H
  refine J_gP 11 16 dX12_readStory_257 g25 flX12_39 rfl rfl ?_
  refine J_aload_n 0 dX12_readStory_260 rfl rfl ?_
  refine J_getI 11 17 dX12_readStory_261 g25 flX12_140 rfl ?_
  obtain ⟨g26, H⟩ := gd H
  obtain ⟨g27, H⟩ := gd H
  refine J_iald dX12_readStory_264 g26 (inB_ok g27) ?_
  refine J_if_ne 276 dX12_readStory_265 rfl (fun q28 => ?_) (fun q28 => ?_)
  · replace H := br0 q28 H
    exact J_dr (kX12_readStory_276 H ) ⟨rfl, trivial⟩
  · replace H := br1 q28 H
    refine J_aload_n 0 dX12_readStory_268 rfl rfl ?_
    refine J_aload_n 0 dX12_readStory_269 rfl rfl ?_
    refine J_getI 11 7 dX12_readStory_270 g25 flX12_134 rfl ?_
    obtain ⟨h31, e32, H⟩ := lt_el H
    refine J_pI 11 9 dX12_readStory_273 g25 flX12_23 rfl rfl e32 ?_
    have c33 := ekI e32
    have c34 := elI e32
    have c35 := epI e32
    exact J_dr (kX12_readStory_276 H ) ⟨rfl, trivial⟩
noncomputable def MX12_readStory_243 (h : Hp) (v0 : Nat) : Option (Int32 × Hp) :=
  gg (β := (Int32 × Hp)) (kd h v0 = 11) <|
  lt (α := Hp) (β := Option (Int32 × Hp)) (sI h v0 9 (gI h v0 8)) fun (h43 : Hp) =>
  some ((0 : Int32), h43)
set_option maxRecDepth 100000 in
set_option maxHeartbeats 8000000 in
theorem kX12_readStory_243 {d : Nat} {h : Hp} {v0 : Nat} {r : Int32} {h9 : Hp} (H : MX12_readStory_243 h v0 = some (r, h9)) : J (d + 2) YX12_readStory 243 [.ref v0, Value.null] [] h (oI r) h9 := by
  unfold MX12_readStory_243 at H
  refine J_aload_n 0 dX12_readStory_243 rfl rfl ?_
  refine J_aload_n 0 dX12_readStory_244 rfl rfl ?_
  obtain ⟨g42, H⟩ := gd H
  refine J_getI 11 8 dX12_readStory_245 g42 flX12_137 rfl ?_
  obtain ⟨h43, e44, H⟩ := lt_el H
  refine J_pI 11 9 dX12_readStory_248 g42 flX12_23 rfl rfl e44 ?_
  have c45 := ekI e44
  have c46 := elI e44
  have c47 := epI e44
  refine J_iconst (0 : Int32) dX12_readStory_251 kc_0 ?_
  cases H
  exact J_rZ dX12_readStory_252 rfl rfl
noncomputable def MX12_readStory_163 (h : Hp) (v0 : Nat) : Option ((Hp) ⊕ (Int32 × Hp)) :=
  gg (β := ((Hp) ⊕ (Int32 × Hp))) (kd h v0 = 11) <|
  Option.bind (α := Hp) (β := ((Hp) ⊕ (Int32 × Hp))) (MX12_blanks h v0) fun (h95 : Hp) =>
  some (.inl h95)
set_option maxRecDepth 100000 in
set_option maxHeartbeats 8000000 in
theorem kX12_readStory_163 {d : Nat} {h : Hp} {v0 : Nat} {r : Int32} {h9 : Hp} {x : ((Hp) ⊕ (Int32 × Hp))} (H : MX12_readStory_163 h v0 = some x) (hb0 : ∀ s : Hp, x = .inl s → J (d + 2) YX12_readStory 23 [.ref v0, Value.null] [] s (oI r) h9) (hx : ∀ z : (Int32 × Hp), x = .inr (z) → z = (r, h9)) : J (d + 2) YX12_readStory 163 [.ref v0, Value.null] [] h (oI r) h9 := by
  unfold MX12_readStory_163 at H
  refine J_aload_n 0 dX12_readStory_163 rfl rfl ?_
  obtain ⟨g94, H⟩ := gd H
  obtain ⟨h95, e93, H⟩ := bd H
  refine J_cV (as := []) 11 YX12_blanks 0 dX12_readStory_164 moX12_blanks mvX12_blanks mlX12_147 g94 rfl rfl (okX12_blanks (d := d + 1) e93) rfl rfl [] rfl rfl (st2 := []) rfl ?_
  refine J_goto 253 dX12_readStory_167 rfl ?_
  refine J_goto 23 dX12_readStory_253 rfl ?_
  cases H
  exact J_dr (hb0 _ rfl) ⟨rfl, trivial⟩
noncomputable def MX12_readStory_153 (h : Hp) (v0 : Nat) : Option (Int32 × Hp) :=
  gg (β := (Int32 × Hp)) (kd h v0 = 11) <|
  lt (α := Hp) (β := Option (Int32 × Hp)) (sI h v0 9 (gI h v0 8)) fun (h101 : Hp) =>
  some ((0 : Int32), h101)
set_option maxRecDepth 100000 in
set_option maxHeartbeats 8000000 in
theorem kX12_readStory_153 {d : Nat} {h : Hp} {v0 : Nat} {r : Int32} {h9 : Hp} (H : MX12_readStory_153 h v0 = some (r, h9)) : J (d + 2) YX12_readStory 153 [.ref v0, Value.null] [] h (oI r) h9 := by
  unfold MX12_readStory_153 at H
  refine J_aload_n 0 dX12_readStory_153 rfl rfl ?_
  refine J_aload_n 0 dX12_readStory_154 rfl rfl ?_
  obtain ⟨g100, H⟩ := gd H
  refine J_getI 11 8 dX12_readStory_155 g100 flX12_137 rfl ?_
  obtain ⟨h101, e102, H⟩ := lt_el H
  refine J_pI 11 9 dX12_readStory_158 g100 flX12_23 rfl rfl e102 ?_
  have c103 := ekI e102
  have c104 := elI e102
  have c105 := epI e102
  refine J_iconst (0 : Int32) dX12_readStory_161 kc_0 ?_
  cases H
  exact J_rZ dX12_readStory_162 rfl rfl
noncomputable def MX12_readStory_65 (h : Hp) (v0 : Nat) : Option (Int32 × Hp) :=
  gg (β := (Int32 × Hp)) (kd h v0 = 11) <|
  lt (α := Hp) (β := Option (Int32 × Hp)) (sI h v0 9 (gI h v0 8)) fun (h107 : Hp) =>
  some ((0 : Int32), h107)
set_option maxRecDepth 100000 in
set_option maxHeartbeats 8000000 in
theorem kX12_readStory_65 {d : Nat} {h : Hp} {v0 : Nat} {r : Int32} {h9 : Hp} (H : MX12_readStory_65 h v0 = some (r, h9)) : J (d + 2) YX12_readStory 65 [.ref v0, Value.null] [] h (oI r) h9 := by
  unfold MX12_readStory_65 at H
  refine J_aload_n 0 dX12_readStory_65 rfl rfl ?_
  refine J_aload_n 0 dX12_readStory_66 rfl rfl ?_
  obtain ⟨g106, H⟩ := gd H
  refine J_getI 11 8 dX12_readStory_67 g106 flX12_137 rfl ?_
  obtain ⟨h107, e108, H⟩ := lt_el H
  refine J_pI 11 9 dX12_readStory_70 g106 flX12_23 rfl rfl e108 ?_
  have c109 := ekI e108
  have c110 := elI e108
  have c111 := epI e108
  refine J_iconst (0 : Int32) dX12_readStory_73 kc_0 ?_
  cases H
  exact J_rZ dX12_readStory_74 rfl rfl
noncomputable def BX12_readStory_23 (h : Hp) (v0 : Nat) : Option ((Hp) ⊕ (Int32 × Hp)) :=
  gg (β := ((Hp) ⊕ (Int32 × Hp))) (kd h v0 = 11) <|
  if (gI h v0 7) ≤ (gI h v0 8) then
    up1 (MX12_readStory_256 h v0)
  else
    gg (β := ((Hp) ⊕ (Int32 × Hp))) (kd h (gP h v0 5) = 20) <|
    gg (β := ((Hp) ⊕ (Int32 × Hp))) (inB (gI h v0 8) (ln h (gP h v0 5)) = true) <|
    Option.bind (α := Int32) (β := ((Hp) ⊕ (Int32 × Hp))) (MX12_isLetter h (gI h (gP h v0 5) (gI h v0 8).toNatClampNeg)) fun (t39 : Int32) =>
    if t39 = 0 then
      if (gI h (gP h v0 5) (gI h v0 8).toNatClampNeg) = (47 : Int32) then
        gg (β := ((Hp) ⊕ (Int32 × Hp))) (kd h (gP h v0 16) = 20) <|
        gg (β := ((Hp) ⊕ (Int32 × Hp))) (inB (gI h v0 17) (ln h (gP h v0 16)) = true) <|
        if (gI h (gP h v0 16) (gI h v0 17).toNatClampNeg) ≤ 0 then
          up1 (MX12_readStory_243 h v0)
        else
          if (4 : Int32) ≤ (gI h v0 17) then
            up1 (MX12_readStory_243 h v0)
          else
            lt (α := Hp) (β := Option ((Hp) ⊕ (Int32 × Hp))) (sI h v0 17 ((gI h v0 17) + (1 : Int32))) fun (h52 : Hp) =>
            gg (β := ((Hp) ⊕ (Int32 × Hp))) (kd h (gP h v0 15) = 20) <|
            gg (β := ((Hp) ⊕ (Int32 × Hp))) (inB (gI h52 v0 17) (ln h (gP h v0 15)) = true) <|
            lt (α := Hp) (β := Option ((Hp) ⊕ (Int32 × Hp))) (sI h52 (gP h v0 15) (gI h52 v0 17).toNatClampNeg (0 : Int32)) fun (h59 : Hp) =>
            gg (β := ((Hp) ⊕ (Int32 × Hp))) (inB (gI h59 v0 17) (ln h (gP h v0 16)) = true) <|
            lt (α := Hp) (β := Option ((Hp) ⊕ (Int32 × Hp))) (sI h59 (gP h v0 16) (gI h59 v0 17).toNatClampNeg (0 : Int32)) fun (h65 : Hp) =>
            lt (α := Hp) (β := Option ((Hp) ⊕ (Int32 × Hp))) (sI h65 v0 8 ((gI h65 v0 8) + (1 : Int32))) fun (h70 : Hp) =>
            Option.bind (α := Hp) (β := ((Hp) ⊕ (Int32 × Hp))) (MX12_blanks h70 v0) fun (h76 : Hp) =>
            some (.inl h76)
      else
        up1 (MX12_readStory_243 h v0)
    else
      gg (β := ((Hp) ⊕ (Int32 × Hp))) (kd h (gP h v0 16) = 20) <|
      gg (β := ((Hp) ⊕ (Int32 × Hp))) (inB (gI h v0 17) (ln h (gP h v0 16)) = true) <|
      if (gI h (gP h v0 16) (gI h v0 17).toNatClampNeg) = (24 : Int32) then
        up1 (MX12_readStory_65 h v0)
      else
        b2 (α := Int32) (β := Hp) (γ := ((Hp) ⊕ (Int32 × Hp))) (MX12_readWord h v0 ((40 : Int32) * (gI h v0 17)) (gI h (gP h v0 16) (gI h v0 17).toNatClampNeg) (0 : Int32)) fun (t82 : Int32) (h81 : Hp) =>
        if t82 = 0 then
          some (.inr (((0 : Int32), h81)))
        else
          gg (β := ((Hp) ⊕ (Int32 × Hp))) (kd h81 v0 = 11) <|
          gg (β := ((Hp) ⊕ (Int32 × Hp))) (kd h81 (gP h81 v0 16) = 20) <|
          gg (β := ((Hp) ⊕ (Int32 × Hp))) (inB (gI h81 v0 17) (ln h81 (gP h81 v0 16)) = true) <|
          lt (α := Hp) (β := Option ((Hp) ⊕ (Int32 × Hp))) (sI h81 (gP h81 v0 16) (gI h81 v0 17).toNatClampNeg ((gI h81 (gP h81 v0 16) (gI h81 v0 17).toNatClampNeg) + (1 : Int32))) fun (h87 : Hp) =>
          if (gI h87 v0 7) ≤ (gI h87 v0 8) then
            MX12_readStory_163 h87 v0
          else
            gg (β := ((Hp) ⊕ (Int32 × Hp))) (kd h81 (gP h81 v0 5) = 20) <|
            gg (β := ((Hp) ⊕ (Int32 × Hp))) (inB (gI h87 v0 8) (ln h81 (gP h81 v0 5)) = true) <|
            if (gI h87 (gP h81 v0 5) (gI h87 v0 8).toNatClampNeg) = (32 : Int32) then
              MX12_readStory_163 h87 v0
            else
              if (gI h87 (gP h81 v0 5) (gI h87 v0 8).toNatClampNeg) = (47 : Int32) then
                MX12_readStory_163 h87 v0
              else
                up1 (MX12_readStory_153 h87 v0)
set_option maxRecDepth 100000 in
set_option maxHeartbeats 8000000 in
theorem bX12_readStory_23 {d : Nat} {h : Hp} {v0 : Nat} {r : Int32} {h9 : Hp} {x : ((Hp) ⊕ (Int32 × Hp))} (H : BX12_readStory_23 h v0 = some x) (hb0 : ∀ s : Hp, x = .inl s → J (d + 2) YX12_readStory 23 [.ref v0, Value.null] [] s (oI r) h9) (hx : ∀ z : (Int32 × Hp), x = .inr (z) → z = (r, h9)) : J (d + 2) YX12_readStory 23 [.ref v0, Value.null] [] h (oI r) h9 := by
  unfold BX12_readStory_23 at H
  refine J_aload_n 0 dX12_readStory_23 rfl rfl ?_
  obtain ⟨g23, H⟩ := gd H
  refine J_getI 11 8 dX12_readStory_24 g23 flX12_137 rfl ?_
  refine J_aload_n 0 dX12_readStory_27 rfl rfl ?_
  refine J_getI 11 7 dX12_readStory_28 g23 flX12_134 rfl ?_
  refine J_icmp_ge 256 dX12_readStory_31 rfl (fun q24 => ?_) (fun q24 => ?_)
  · replace H := br1 q24 H
    obtain ⟨y0, H90, rfl⟩ := up1_el H
    replace H := H90
    obtain rfl := hx _ rfl
    exact J_dr (kX12_readStory_256 H ) ⟨rfl, trivial⟩
  · replace H := br0 q24 H
    refine J_aload_n 0 dX12_readStory_34 rfl rfl ?_
    refine J_gP 11 5 dX12_readStory_35 g23 flX12_20 rfl rfl ?_
    refine J_aload_n 0 dX12_readStory_38 rfl rfl ?_
    refine J_getI 11 8 dX12_readStory_39 g23 flX12_137 rfl ?_
    obtain ⟨g36, H⟩ := gd H
    obtain ⟨g37, H⟩ := gd H
    refine J_iald dX12_readStory_42 g36 (inB_ok g37) ?_
    refine J_istore_n 1 dX12_readStory_43 rfl (by decide) (ls' := [.ref v0, .int (gI h (gP h v0 5) (gI h v0 8).toNatClampNeg)]) rfl ?_
    refine J_iload_n 1 dX12_readStory_44 rfl rfl ?_
    obtain ⟨t39, e38, H⟩ := bd H
    refine J_cS (as := [.int (gI h (gP h v0 5) (gI h v0 8).toNatClampNeg)]) YX12_isLetter 1 dX12_readStory_45 moX12_isLetter msX12_isLetter mlX12_143 (okX12_isLetter (d := d + 1) e38) rfl rfl [] rfl rfl (st2 := [.int t39]) rfl ?_
    refine J_if_eq 170 dX12_readStory_48 rfl (fun q40 => ?_) (fun q40 => ?_)
    · replace H := br1 q40 H
      refine J_iload_n 1 dX12_readStory_170 rfl rfl ?_
      refine J_bipush (47 : Int32) dX12_readStory_171 kb_47 ?_
      refine J_icmp_ne 243 dX12_readStory_173 rfl (fun q41 => ?_) (fun q41 => ?_)
      · replace H := br0 q41 H
        obtain ⟨y0, H90, rfl⟩ := up1_el H
        replace H := H90
        obtain rfl := hx _ rfl
        exact J_dr (kX12_readStory_243 H ) ⟨rfl, trivial⟩
      · replace H := br1 q41 H
        refine J_aload_n 0 dX12_readStory_176 rfl rfl ?_
        refine J_gP 11 16 dX12_readStory_177 g23 flX12_39 rfl rfl ?_
        refine J_aload_n 0 dX12_readStory_180 rfl rfl ?_
        refine J_getI 11 17 dX12_readStory_181 g23 flX12_140 rfl ?_
        obtain ⟨g48, H⟩ := gd H
        obtain ⟨g49, H⟩ := gd H
        refine J_iald dX12_readStory_184 g48 (inB_ok g49) ?_
        refine J_if_le 243 dX12_readStory_185 rfl (fun q50 => ?_) (fun q50 => ?_)
        · replace H := br1 q50 H
          obtain ⟨y0, H90, rfl⟩ := up1_el H
          replace H := H90
          obtain rfl := hx _ rfl
          exact J_dr (kX12_readStory_243 H ) ⟨rfl, trivial⟩
        · replace H := br0 q50 H
          refine J_aload_n 0 dX12_readStory_188 rfl rfl ?_
          refine J_getI 11 17 dX12_readStory_189 g23 flX12_140 rfl ?_
          refine J_iconst (4 : Int32) dX12_readStory_192 kc_4 ?_
          refine J_icmp_ge 243 dX12_readStory_193 rfl (fun q51 => ?_) (fun q51 => ?_)
          · replace H := br1 q51 H
            obtain ⟨y0, H90, rfl⟩ := up1_el H
            replace H := H90
            obtain rfl := hx _ rfl
            exact J_dr (kX12_readStory_243 H ) ⟨rfl, trivial⟩
          · replace H := br0 q51 H
            refine J_aload_n 0 dX12_readStory_196 rfl rfl ?_
            refine J_dup dX12_readStory_197 rfl ?_
            refine J_getI 11 17 dX12_readStory_198 g23 flX12_140 rfl ?_
            refine J_iconst (1 : Int32) dX12_readStory_201 kc_1 ?_
            refine J_iadd dX12_readStory_202 ?_
            obtain ⟨h52, e53, H⟩ := lt_el H
            refine J_pI 11 17 dX12_readStory_203 g23 flX12_140 rfl rfl e53 ?_
            have c54 := ekI e53
            have c55 := elI e53
            have c56 := epI e53
            refine J_aload_n 0 dX12_readStory_206 rfl rfl ?_
            refine J_gP 11 15 dX12_readStory_207 (kq c54 g23) flX12_36 rfl (congrFun (congrFun c56 v0) 15) ?_
            refine J_aload_n 0 dX12_readStory_210 rfl rfl ?_
            refine J_getI 11 17 dX12_readStory_211 (kq c54 g23) flX12_140 rfl ?_
            refine J_iconst (0 : Int32) dX12_readStory_214 kc_0 ?_
            obtain ⟨g57, H⟩ := gd H
            obtain ⟨g58, H⟩ := gd H
            obtain ⟨h59, e60, H⟩ := lt_el H
            refine J_sI dX12_readStory_215 (kq c54 g57) (lq c55 g58) e60 ?_
            have c61 := (ekI e60).trans c54
            have c62 := (elI e60).trans c55
            have c63 := (epI e60).trans c56
            refine J_aload_n 0 dX12_readStory_216 rfl rfl ?_
            refine J_gP 11 16 dX12_readStory_217 (kq c61 g23) flX12_39 rfl (congrFun (congrFun c63 v0) 16) ?_
            refine J_aload_n 0 dX12_readStory_220 rfl rfl ?_
            refine J_getI 11 17 dX12_readStory_221 (kq c61 g23) flX12_140 rfl ?_
            refine J_iconst (0 : Int32) dX12_readStory_224 kc_0 ?_
            obtain ⟨g64, H⟩ := gd H
            obtain ⟨h65, e66, H⟩ := lt_el H
            refine J_sI dX12_readStory_225 (kq c61 g48) (lq c62 g64) e66 ?_
            have c67 := (ekI e66).trans c61
            have c68 := (elI e66).trans c62
            have c69 := (epI e66).trans c63
            refine J_aload_n 0 dX12_readStory_226 rfl rfl ?_
            refine J_dup dX12_readStory_227 rfl ?_
            refine J_getI 11 8 dX12_readStory_228 (kq c67 g23) flX12_137 rfl ?_
            refine J_iconst (1 : Int32) dX12_readStory_231 kc_1 ?_
            refine J_iadd dX12_readStory_232 ?_
            obtain ⟨h70, e71, H⟩ := lt_el H
            refine J_pI 11 8 dX12_readStory_233 (kq c67 g23) flX12_137 rfl rfl e71 ?_
            have c72 := (ekI e71).trans c67
            have c73 := (elI e71).trans c68
            have c74 := (epI e71).trans c69
            refine J_aload_n 0 dX12_readStory_236 rfl rfl ?_
            obtain ⟨h76, e75, H⟩ := bd H
            refine J_cV (as := []) 11 YX12_blanks 0 dX12_readStory_237 moX12_blanks mvX12_blanks mlX12_147 (kq c72 g23) rfl rfl (okX12_blanks (d := d + 1) e75) rfl rfl [] rfl rfl (st2 := []) rfl ?_
            refine J_goto 253 dX12_readStory_240 rfl ?_
            refine J_goto 23 dX12_readStory_253 rfl ?_
            cases H
            exact J_dr (hb0 _ rfl) ⟨rfl, trivial⟩
    · replace H := br0 q40 H
      refine J_aload_n 0 dX12_readStory_51 rfl rfl ?_
      refine J_gP 11 16 dX12_readStory_52 g23 flX12_39 rfl rfl ?_
      refine J_aload_n 0 dX12_readStory_55 rfl rfl ?_
      refine J_getI 11 17 dX12_readStory_56 g23 flX12_140 rfl ?_
      obtain ⟨g77, H⟩ := gd H
      obtain ⟨g78, H⟩ := gd H
      refine J_iald dX12_readStory_59 g77 (inB_ok g78) ?_
      refine J_bipush (24 : Int32) dX12_readStory_60 kb_24 ?_
      refine J_icmp_ne 75 dX12_readStory_62 rfl (fun q79 => ?_) (fun q79 => ?_)
      · replace H := br0 q79 H
        refine J_aload_n 0 dX12_readStory_75 rfl rfl ?_
        refine J_bipush (40 : Int32) dX12_readStory_76 kb_40 ?_
        refine J_aload_n 0 dX12_readStory_78 rfl rfl ?_
        refine J_getI 11 17 dX12_readStory_79 g23 flX12_140 rfl ?_
        refine J_imul dX12_readStory_82 ?_
        refine J_aload_n 0 dX12_readStory_83 rfl rfl ?_
        refine J_gP 11 16 dX12_readStory_84 g23 flX12_39 rfl rfl ?_
        refine J_aload_n 0 dX12_readStory_87 rfl rfl ?_
        refine J_getI 11 17 dX12_readStory_88 g23 flX12_140 rfl ?_
        refine J_iald dX12_readStory_91 g77 (inB_ok g78) ?_
        refine J_iconst (0 : Int32) dX12_readStory_92 kc_0 ?_
        obtain ⟨t82, h81, e80, H⟩ := b2_el H
        refine J_cV (as := [.int ((40 : Int32) * (gI h v0 17)), .int (gI h (gP h v0 16) (gI h v0 17).toNatClampNeg), .int (0 : Int32)]) 11 YX12_readWord 3 dX12_readStory_93 moX12_readWord mvX12_readWord mlX12_150 g23 rfl rfl (okX12_readWord (d := d) e80) rfl rfl [] rfl rfl (st2 := [.int t82]) rfl ?_
        refine J_if_ne 101 dX12_readStory_96 rfl (fun q83 => ?_) (fun q83 => ?_)
        · replace H := br0 q83 H
          refine J_aload_n 0 dX12_readStory_101 rfl rfl ?_
          obtain ⟨g84, H⟩ := gd H
          refine J_gP 11 16 dX12_readStory_102 g84 flX12_39 rfl rfl ?_
          refine J_aload_n 0 dX12_readStory_105 rfl rfl ?_
          refine J_getI 11 17 dX12_readStory_106 g84 flX12_140 rfl ?_
          refine J_dup2 dX12_readStory_109 rfl rfl ?_
          obtain ⟨g85, H⟩ := gd H
          obtain ⟨g86, H⟩ := gd H
          refine J_iald dX12_readStory_110 g85 (inB_ok g86) ?_
          refine J_iconst (1 : Int32) dX12_readStory_111 kc_1 ?_
          refine J_iadd dX12_readStory_112 ?_
          obtain ⟨h87, e88, H⟩ := lt_el H
          refine J_sI dX12_readStory_113 g85 (inB_ok g86) e88 ?_
          have c89 := ekI e88
          have c90 := elI e88
          have c91 := epI e88
          refine J_aload_n 0 dX12_readStory_114 rfl rfl ?_
          refine J_getI 11 8 dX12_readStory_115 (kq c89 g84) flX12_137 rfl ?_
          refine J_aload_n 0 dX12_readStory_118 rfl rfl ?_
          refine J_getI 11 7 dX12_readStory_119 (kq c89 g84) flX12_134 rfl ?_
          refine J_icmp_ge 163 dX12_readStory_122 rfl (fun q92 => ?_) (fun q92 => ?_)
          · replace H := br1 q92 H
            exact J_dr (kX12_readStory_163 H hb0 hx) ⟨rfl, trivial⟩
          · replace H := br0 q92 H
            refine J_aload_n 0 dX12_readStory_125 rfl rfl ?_
            refine J_gP 11 5 dX12_readStory_126 (kq c89 g84) flX12_20 rfl (congrFun (congrFun c91 v0) 5) ?_
            refine J_aload_n 0 dX12_readStory_129 rfl rfl ?_
            refine J_getI 11 8 dX12_readStory_130 (kq c89 g84) flX12_137 rfl ?_
            obtain ⟨g96, H⟩ := gd H
            obtain ⟨g97, H⟩ := gd H
            refine J_iald dX12_readStory_133 (kq c89 g96) (lq c90 g97) ?_
            refine J_bipush (32 : Int32) dX12_readStory_134 kb_32 ?_
            refine J_icmp_eq 163 dX12_readStory_136 rfl (fun q98 => ?_) (fun q98 => ?_)
            · replace H := br1 q98 H
              exact J_dr (kX12_readStory_163 H hb0 hx) ⟨rfl, trivial⟩
            · replace H := br0 q98 H
              refine J_aload_n 0 dX12_readStory_139 rfl rfl ?_
              refine J_gP 11 5 dX12_readStory_140 (kq c89 g84) flX12_20 rfl (congrFun (congrFun c91 v0) 5) ?_
              refine J_aload_n 0 dX12_readStory_143 rfl rfl ?_
              refine J_getI 11 8 dX12_readStory_144 (kq c89 g84) flX12_137 rfl ?_
              refine J_iald dX12_readStory_147 (kq c89 g96) (lq c90 g97) ?_
              refine J_bipush (47 : Int32) dX12_readStory_148 kb_47 ?_
              refine J_icmp_eq 163 dX12_readStory_150 rfl (fun q99 => ?_) (fun q99 => ?_)
              · replace H := br1 q99 H
                exact J_dr (kX12_readStory_163 H hb0 hx) ⟨rfl, trivial⟩
              · replace H := br0 q99 H
                obtain ⟨y0, H90, rfl⟩ := up1_el H
                replace H := H90
                obtain rfl := hx _ rfl
                exact J_dr (kX12_readStory_153 H ) ⟨rfl, trivial⟩
        · replace H := br1 q83 H
          refine J_iconst (0 : Int32) dX12_readStory_99 kc_0 ?_
          cases H
          cases hx _ rfl
          exact J_rZ dX12_readStory_100 rfl rfl
      · replace H := br1 q79 H
        obtain ⟨y0, H90, rfl⟩ := up1_el H
        replace H := H90
        obtain rfl := hx _ rfl
        exact J_dr (kX12_readStory_65 H ) ⟨rfl, trivial⟩
noncomputable def MX12_readStory_23 (h : Hp) (v0 : Nat) : Option (Int32 × Hp) := it (fun q : Hp => BX12_readStory_23 q v0) (h)
set_option maxRecDepth 100000 in
set_option maxHeartbeats 8000000 in
theorem kX12_readStory_23 {d : Nat} {h : Hp} {v0 : Nat} {r : Int32} {h9 : Hp} (H : MX12_readStory_23 h v0 = some (r, h9)) : J (d + 2) YX12_readStory 23 [.ref v0, Value.null] [] h (oI r) h9 := by
  unfold MX12_readStory_23 at H
  refine it_J (G := (fun q : Hp => J (d + 2) YX12_readStory 23 [.ref v0, Value.null] [] q (oI r) h9)) (Q := (fun y : (Int32 × Hp) => y = (r, h9))) (fun q x Hq hm => ?_) H rfl
  exact bX12_readStory_23 Hq (fun s hs => by subst hs; exact hm) (fun z hz => by subst hz; exact hm)
noncomputable def MX12_readStory (h : Hp) (v0 : Nat) : Option (Int32 × Hp) :=
  gg (β := (Int32 × Hp)) (kd h v0 = 11) <|
  lt (α := Hp) (β := Option (Int32 × Hp)) (sI h v0 17 (0 : Int32)) fun (h2 : Hp) =>
  gg (β := (Int32 × Hp)) (kd h (gP h v0 15) = 20) <|
  gg (β := (Int32 × Hp)) (inB (0 : Int32) (ln h (gP h v0 15)) = true) <|
  lt (α := Hp) (β := Option (Int32 × Hp)) (sI h2 (gP h v0 15) (0 : Int32).toNatClampNeg (0 : Int32)) fun (h9 : Hp) =>
  gg (β := (Int32 × Hp)) (kd h (gP h v0 16) = 20) <|
  gg (β := (Int32 × Hp)) (inB (0 : Int32) (ln h (gP h v0 16)) = true) <|
  lt (α := Hp) (β := Option (Int32 × Hp)) (sI h9 (gP h v0 16) (0 : Int32).toNatClampNeg (0 : Int32)) fun (h16 : Hp) =>
  Option.bind (α := Hp) (β := (Int32 × Hp)) (MX12_blanks h16 v0) fun (h22 : Hp) =>
  MX12_readStory_23 h22 v0
set_option maxRecDepth 100000 in
set_option maxHeartbeats 8000000 in
theorem eX12_readStory {d : Nat} {h : Hp} {v0 : Nat} {r : Int32} {h9 : Hp} (H : MX12_readStory h v0 = some (r, h9)) : J (d + 2) YX12_readStory 0 [.ref v0, Value.null] [] h (oI r) h9 := by
  unfold MX12_readStory at H
  refine J_aload_n 0 dX12_readStory_0 rfl rfl ?_
  refine J_iconst (0 : Int32) dX12_readStory_1 kc_0 ?_
  obtain ⟨g1, H⟩ := gd H
  obtain ⟨h2, e3, H⟩ := lt_el H
  refine J_pI 11 17 dX12_readStory_2 g1 flX12_140 rfl rfl e3 ?_
  have c4 := ekI e3
  have c5 := elI e3
  have c6 := epI e3
  refine J_aload_n 0 dX12_readStory_5 rfl rfl ?_
  refine J_gP 11 15 dX12_readStory_6 (kq c4 g1) flX12_36 rfl (congrFun (congrFun c6 v0) 15) ?_
  refine J_iconst (0 : Int32) dX12_readStory_9 kc_0 ?_
  refine J_iconst (0 : Int32) dX12_readStory_10 kc_0 ?_
  obtain ⟨g7, H⟩ := gd H
  obtain ⟨g8, H⟩ := gd H
  obtain ⟨h9, e10, H⟩ := lt_el H
  refine J_sI dX12_readStory_11 (kq c4 g7) (lq c5 g8) e10 ?_
  have c11 := (ekI e10).trans c4
  have c12 := (elI e10).trans c5
  have c13 := (epI e10).trans c6
  refine J_aload_n 0 dX12_readStory_12 rfl rfl ?_
  refine J_gP 11 16 dX12_readStory_13 (kq c11 g1) flX12_39 rfl (congrFun (congrFun c13 v0) 16) ?_
  refine J_iconst (0 : Int32) dX12_readStory_16 kc_0 ?_
  refine J_iconst (0 : Int32) dX12_readStory_17 kc_0 ?_
  obtain ⟨g14, H⟩ := gd H
  obtain ⟨g15, H⟩ := gd H
  obtain ⟨h16, e17, H⟩ := lt_el H
  refine J_sI dX12_readStory_18 (kq c11 g14) (lq c12 g15) e17 ?_
  have c18 := (ekI e17).trans c11
  have c19 := (elI e17).trans c12
  have c20 := (epI e17).trans c13
  refine J_aload_n 0 dX12_readStory_19 rfl rfl ?_
  obtain ⟨h22, e21, H⟩ := bd H
  refine J_cV (as := []) 11 YX12_blanks 0 dX12_readStory_20 moX12_blanks mvX12_blanks mlX12_147 (kq c18 g1) rfl rfl (okX12_blanks (d := d + 1) e21) rfl rfl [] rfl rfl (st2 := []) rfl ?_
  exact J_dr (kX12_readStory_23 H ) ⟨rfl, trivial⟩
theorem okX12_readStory {d : Nat} {h : Hp} {v0 : Nat} {r : Int32} {h9 : Hp} (H : MX12_readStory h v0 = some (r, h9)) : CT (d + 2) YX12_readStory [.ref v0] h (oI r) h9 := CT_of (by decide +kernel) (Nat.le_of_ble_eq_true rfl) (eX12_readStory H)
noncomputable def MX12_readStyle_141 (h : Hp) (v0 : Nat) : Option (Int32 × Hp) :=
  gg (β := (Int32 × Hp)) (kd h v0 = 11) <|
  b2 (α := Int32) (β := Hp) (γ := (Int32 × Hp)) (MX12_fails h v0) fun (t47 : Int32) (h46 : Hp) =>
  gg (β := (Int32 × Hp)) (zOk t47 = true) <|
  some (t47, h46)
set_option maxRecDepth 100000 in
set_option maxHeartbeats 8000000 in
theorem kX12_readStyle_141 {d : Nat} {h : Hp} {v0 : Nat} {r : Int32} {h9 : Hp} (H : MX12_readStyle_141 h v0 = some (r, h9)) : J (d + 38) YX12_readStyle 141 [.ref v0, Value.null] [] h (oI r) h9 := by
  unfold MX12_readStyle_141 at H
  refine J_aload_n 0 dX12_readStyle_141 rfl rfl ?_
  obtain ⟨g45, H⟩ := gd H
  obtain ⟨t47, h46, e44, H⟩ := b2_el H
  refine J_cV (as := []) 11 YX12_fails 0 dX12_readStyle_142 moX12_fails mvX12_fails mlX12_223 g45 rfl rfl (okX12_fails (d := d + 37) e44) rfl rfl [] rfl rfl (st2 := [.int t47]) rfl ?_
  obtain ⟨g48, H⟩ := gd H
  cases H
  exact J_rZ dX12_readStyle_145 rfl g48
noncomputable def MX12_readStyle_112 (h : Hp) (v0 : Nat) (s0 : Int32) : Option ((Int32 × Hp) ⊕ (Int32 × Hp)) :=
  if s0 = 0 then
    gg (β := ((Int32 × Hp) ⊕ (Int32 × Hp))) (kd h v0 = 11) <|
    if (gI h v0 7) ≤ (gI h v0 8) then
      some (.inl (s0, h))
    else
      up1 (MX12_readStyle_141 h v0)
  else
    gg (β := ((Int32 × Hp) ⊕ (Int32 × Hp))) (kd h v0 = 11) <|
    lt (α := Hp) (β := Option ((Int32 × Hp) ⊕ (Int32 × Hp))) (sI h v0 8 ((gI h v0 8) + (1 : Int32))) fun (h50 : Hp) =>
    some (.inl (s0, h50))
set_option maxRecDepth 100000 in
set_option maxHeartbeats 8000000 in
theorem kX12_readStyle_112 {d : Nat} {h : Hp} {v0 : Nat} {s0 : Int32} {r : Int32} {h9 : Hp} {x : ((Int32 × Hp) ⊕ (Int32 × Hp))} (H : MX12_readStyle_112 h v0 s0 = some x) (hb0 : ∀ s : Int32 × Hp, x = .inl s → J (d + 38) YX12_readStyle 37 [.ref v0, .int s.1] [] s.2 (oI r) h9) (hx : ∀ z : (Int32 × Hp), x = .inr (z) → z = (r, h9)) : J (d + 38) YX12_readStyle 112 [.ref v0, Value.null] [.int s0] h (oI r) h9 := by
  unfold MX12_readStyle_112 at H
  refine J_istore_n 1 dX12_readStyle_112 rfl (by decide) (ls' := [.ref v0, .int s0]) rfl ?_
  refine J_iload_n 1 dX12_readStyle_113 rfl rfl ?_
  refine J_if_eq 130 dX12_readStyle_114 rfl (fun q41 => ?_) (fun q41 => ?_)
  · replace H := br1 q41 H
    refine J_aload_n 0 dX12_readStyle_130 rfl rfl ?_
    obtain ⟨g42, H⟩ := gd H
    refine J_getI 11 8 dX12_readStyle_131 g42 flX12_137 rfl ?_
    refine J_aload_n 0 dX12_readStyle_134 rfl rfl ?_
    refine J_getI 11 7 dX12_readStyle_135 g42 flX12_134 rfl ?_
    refine J_icmp_ge 37 dX12_readStyle_138 rfl (fun q43 => ?_) (fun q43 => ?_)
    · replace H := br1 q43 H
      cases H
      exact J_dr (hb0 _ rfl) ⟨rfl, ⟨rfl, trivial⟩⟩
    · replace H := br0 q43 H
      obtain ⟨y0, H90, rfl⟩ := up1_el H
      replace H := H90
      obtain rfl := hx _ rfl
      exact J_dr (kX12_readStyle_141 H ) ⟨rfl, trivial⟩
  · replace H := br0 q41 H
    refine J_aload_n 0 dX12_readStyle_117 rfl rfl ?_
    refine J_dup dX12_readStyle_118 rfl ?_
    obtain ⟨g49, H⟩ := gd H
    refine J_getI 11 8 dX12_readStyle_119 g49 flX12_137 rfl ?_
    refine J_iconst (1 : Int32) dX12_readStyle_122 kc_1 ?_
    refine J_iadd dX12_readStyle_123 ?_
    obtain ⟨h50, e51, H⟩ := lt_el H
    refine J_pI 11 8 dX12_readStyle_124 g49 flX12_137 rfl rfl e51 ?_
    have c52 := ekI e51
    have c53 := elI e51
    have c54 := epI e51
    refine J_goto 37 dX12_readStyle_127 rfl ?_
    cases H
    exact J_dr (hb0 _ rfl) ⟨rfl, ⟨rfl, trivial⟩⟩
noncomputable def MX12_readStyle_111 (h : Hp) (v0 : Nat) : Option ((Int32 × Hp) ⊕ (Int32 × Hp)) :=
  MX12_readStyle_112 h v0 (0 : Int32)
set_option maxRecDepth 100000 in
set_option maxHeartbeats 8000000 in
theorem kX12_readStyle_111 {d : Nat} {h : Hp} {v0 : Nat} {r : Int32} {h9 : Hp} {x : ((Int32 × Hp) ⊕ (Int32 × Hp))} (H : MX12_readStyle_111 h v0 = some x) (hb0 : ∀ s : Int32 × Hp, x = .inl s → J (d + 38) YX12_readStyle 37 [.ref v0, .int s.1] [] s.2 (oI r) h9) (hx : ∀ z : (Int32 × Hp), x = .inr (z) → z = (r, h9)) : J (d + 38) YX12_readStyle 111 [.ref v0, Value.null] [] h (oI r) h9 := by
  unfold MX12_readStyle_111 at H
  refine J_iconst (0 : Int32) dX12_readStyle_111 kc_0 ?_
  exact J_dr (kX12_readStyle_112 H hb0 hx) ⟨rfl, trivial⟩
noncomputable def MX12_readStyle_54 (h : Hp) (v0 : Nat) : Option (Int32 × Hp) :=
  gg (β := (Int32 × Hp)) (kd h v0 = 11) <|
  b2 (α := Int32) (β := Hp) (γ := (Int32 × Hp)) (MX12_fails h v0) fun (t61 : Int32) (h60 : Hp) =>
  gg (β := (Int32 × Hp)) (zOk t61 = true) <|
  some (t61, h60)
set_option maxRecDepth 100000 in
set_option maxHeartbeats 8000000 in
theorem kX12_readStyle_54 {d : Nat} {h : Hp} {v0 : Nat} {r : Int32} {h9 : Hp} (H : MX12_readStyle_54 h v0 = some (r, h9)) : J (d + 38) YX12_readStyle 54 [.ref v0, Value.null] [] h (oI r) h9 := by
  unfold MX12_readStyle_54 at H
  refine J_aload_n 0 dX12_readStyle_54 rfl rfl ?_
  obtain ⟨g59, H⟩ := gd H
  obtain ⟨t61, h60, e58, H⟩ := b2_el H
  refine J_cV (as := []) 11 YX12_fails 0 dX12_readStyle_55 moX12_fails mvX12_fails mlX12_223 g59 rfl rfl (okX12_fails (d := d + 37) e58) rfl rfl [] rfl rfl (st2 := [.int t61]) rfl ?_
  obtain ⟨g62, H⟩ := gd H
  cases H
  exact J_rZ dX12_readStyle_58 rfl g62
noncomputable def BX12_readStyle_37 (h : Hp) (v0 : Nat) (v1 : Int32) : Option ((Int32 × Hp) ⊕ (Int32 × Hp)) :=
  if v1 = 0 then
    some (.inr (((1 : Int32), h)))
  else
    gg (β := ((Int32 × Hp) ⊕ (Int32 × Hp))) (kd h v0 = 11) <|
    Option.bind (α := Hp) (β := ((Int32 × Hp) ⊕ (Int32 × Hp))) (MX12_blanks h v0) fun (h24 : Hp) =>
    gg (β := ((Int32 × Hp) ⊕ (Int32 × Hp))) (kd h24 v0 = 11) <|
    if (gI h24 v0 19) = (12 : Int32) then
      up1 (MX12_readStyle_54 h24 v0)
    else
      b2 (α := Int32) (β := Hp) (γ := ((Int32 × Hp) ⊕ (Int32 × Hp))) (MX12_readRule h24 v0) fun (t29 : Int32) (h28 : Hp) =>
      if t29 = 0 then
        some (.inr (((0 : Int32), h28)))
      else
        gg (β := ((Int32 × Hp) ⊕ (Int32 × Hp))) (kd h28 v0 = 11) <|
        lt (α := Hp) (β := Option ((Int32 × Hp) ⊕ (Int32 × Hp))) (sI h28 v0 19 ((gI h28 v0 19) + (1 : Int32))) fun (h32 : Hp) =>
        Option.bind (α := Hp) (β := ((Int32 × Hp) ⊕ (Int32 × Hp))) (MX12_blanks h32 v0) fun (h38 : Hp) =>
        gg (β := ((Int32 × Hp) ⊕ (Int32 × Hp))) (kd h38 v0 = 11) <|
        if (gI h38 v0 7) ≤ (gI h38 v0 8) then
          MX12_readStyle_111 h38 v0
        else
          gg (β := ((Int32 × Hp) ⊕ (Int32 × Hp))) (kd h38 (gP h38 v0 5) = 20) <|
          gg (β := ((Int32 × Hp) ⊕ (Int32 × Hp))) (inB (gI h38 v0 8) (ln h38 (gP h38 v0 5)) = true) <|
          if (gI h38 (gP h38 v0 5) (gI h38 v0 8).toNatClampNeg) = (59 : Int32) then
            MX12_readStyle_112 h38 v0 (1 : Int32)
          else
            MX12_readStyle_111 h38 v0
set_option maxRecDepth 100000 in
set_option maxHeartbeats 8000000 in
theorem bX12_readStyle_37 {d : Nat} {h : Hp} {v0 : Nat} {v1 : Int32} {r : Int32} {h9 : Hp} {x : ((Int32 × Hp) ⊕ (Int32 × Hp))} (H : BX12_readStyle_37 h v0 v1 = some x) (hb0 : ∀ s : Int32 × Hp, x = .inl s → J (d + 38) YX12_readStyle 37 [.ref v0, .int s.1] [] s.2 (oI r) h9) (hx : ∀ z : (Int32 × Hp), x = .inr (z) → z = (r, h9)) : J (d + 38) YX12_readStyle 37 [.ref v0, .int v1] [] h (oI r) h9 := by
  unfold BX12_readStyle_37 at H
  refine J_iload_n 1 dX12_readStyle_37 rfl rfl ?_
  refine J_if_eq 146 dX12_readStyle_38 rfl (fun q21 => ?_) (fun q21 => ?_)
  · replace H := br1 q21 H
    refine J_iconst (1 : Int32) dX12_readStyle_146 kc_1 ?_
    cases H
    cases hx _ rfl
    exact J_rZ dX12_readStyle_147 rfl rfl
  · replace H := br0 q21 H
    refine J_aload_n 0 dX12_readStyle_41 rfl rfl ?_
    obtain ⟨g23, H⟩ := gd H
    obtain ⟨h24, e22, H⟩ := bd H
    refine J_cV (as := []) 11 YX12_blanks 0 dX12_readStyle_42 moX12_blanks mvX12_blanks mlX12_147 g23 rfl rfl (okX12_blanks (d := d + 37) e22) rfl rfl [] rfl rfl (st2 := []) rfl ?_
    refine J_aload_n 0 dX12_readStyle_45 rfl rfl ?_
    obtain ⟨g25, H⟩ := gd H
    refine J_getI 11 19 dX12_readStyle_46 g25 flX12_245 rfl ?_
    refine J_bipush (12 : Int32) dX12_readStyle_49 kb_12 ?_
    refine J_icmp_ne 59 dX12_readStyle_51 rfl (fun q26 => ?_) (fun q26 => ?_)
    · replace H := br0 q26 H
      refine J_aload_n 0 dX12_readStyle_59 rfl rfl ?_
      obtain ⟨t29, h28, e27, H⟩ := b2_el H
      refine J_cV (as := []) 11 YX12_readRule 0 dX12_readStyle_60 moX12_readRule mvX12_readRule mlX12_267 g25 rfl rfl (okX12_readRule (d := d) e27) rfl rfl [] rfl rfl (st2 := [.int t29]) rfl ?_
      refine J_if_ne 68 dX12_readStyle_63 rfl (fun q30 => ?_) (fun q30 => ?_)
      · replace H := br0 q30 H
        refine J_aload_n 0 dX12_readStyle_68 rfl rfl ?_
        refine J_dup dX12_readStyle_69 rfl ?_
        obtain ⟨g31, H⟩ := gd H
        refine J_getI 11 19 dX12_readStyle_70 g31 flX12_245 rfl ?_
        refine J_iconst (1 : Int32) dX12_readStyle_73 kc_1 ?_
        refine J_iadd dX12_readStyle_74 ?_
        obtain ⟨h32, e33, H⟩ := lt_el H
        refine J_pI 11 19 dX12_readStyle_75 g31 flX12_245 rfl rfl e33 ?_
        have c34 := ekI e33
        have c35 := elI e33
        have c36 := epI e33
        refine J_aload_n 0 dX12_readStyle_78 rfl rfl ?_
        obtain ⟨h38, e37, H⟩ := bd H
        refine J_cV (as := []) 11 YX12_blanks 0 dX12_readStyle_79 moX12_blanks mvX12_blanks mlX12_147 (kq c34 g31) rfl rfl (okX12_blanks (d := d + 37) e37) rfl rfl [] rfl rfl (st2 := []) rfl ?_
        refine J_aload_n 0 dX12_readStyle_82 rfl rfl ?_
        obtain ⟨g39, H⟩ := gd H
        refine J_getI 11 8 dX12_readStyle_83 g39 flX12_137 rfl ?_
        refine J_aload_n 0 dX12_readStyle_86 rfl rfl ?_
        refine J_getI 11 7 dX12_readStyle_87 g39 flX12_134 rfl ?_
        refine J_icmp_ge 111 dX12_readStyle_90 rfl (fun q40 => ?_) (fun q40 => ?_)
        · replace H := br1 q40 H
          exact J_dr (kX12_readStyle_111 H hb0 hx) ⟨rfl, trivial⟩
        · replace H := br0 q40 H
          refine J_aload_n 0 dX12_readStyle_93 rfl rfl ?_
          refine J_gP 11 5 dX12_readStyle_94 g39 flX12_20 rfl rfl ?_
          refine J_aload_n 0 dX12_readStyle_97 rfl rfl ?_
          refine J_getI 11 8 dX12_readStyle_98 g39 flX12_137 rfl ?_
          obtain ⟨g55, H⟩ := gd H
          obtain ⟨g56, H⟩ := gd H
          refine J_iald dX12_readStyle_101 g55 (inB_ok g56) ?_
          refine J_bipush (59 : Int32) dX12_readStyle_102 kb_59 ?_
          refine J_icmp_ne 111 dX12_readStyle_104 rfl (fun q57 => ?_) (fun q57 => ?_)
          · replace H := br0 q57 H
            exact J_dr (kX12_readStyle_111 H hb0 hx) ⟨rfl, trivial⟩
          · replace H := br1 q57 H
            refine J_iconst (1 : Int32) dX12_readStyle_107 kc_1 ?_
            refine J_goto 112 dX12_readStyle_108 rfl ?_
            exact J_dr (kX12_readStyle_112 H hb0 hx) ⟨rfl, trivial⟩
      · replace H := br1 q30 H
        refine J_iconst (0 : Int32) dX12_readStyle_66 kc_0 ?_
        cases H
        cases hx _ rfl
        exact J_rZ dX12_readStyle_67 rfl rfl
    · replace H := br1 q26 H
      obtain ⟨y0, H90, rfl⟩ := up1_el H
      replace H := H90
      obtain rfl := hx _ rfl
      exact J_dr (kX12_readStyle_54 H ) ⟨rfl, trivial⟩
noncomputable def MX12_readStyle_37 (h : Hp) (v0 : Nat) (v1 : Int32) : Option (Int32 × Hp) := it (fun q : Int32 × Hp => BX12_readStyle_37 q.2 v0 q.1) (v1, h)
set_option maxRecDepth 100000 in
set_option maxHeartbeats 8000000 in
theorem kX12_readStyle_37 {d : Nat} {h : Hp} {v0 : Nat} {v1 : Int32} {r : Int32} {h9 : Hp} (H : MX12_readStyle_37 h v0 v1 = some (r, h9)) : J (d + 38) YX12_readStyle 37 [.ref v0, .int v1] [] h (oI r) h9 := by
  unfold MX12_readStyle_37 at H
  refine it_J (G := (fun q : Int32 × Hp => J (d + 38) YX12_readStyle 37 [.ref v0, .int q.1] [] q.2 (oI r) h9)) (Q := (fun y : (Int32 × Hp) => y = (r, h9))) (fun q x Hq hm => ?_) H rfl
  exact bX12_readStyle_37 Hq (fun s hs => by subst hs; exact hm) (fun z hz => by subst hz; exact hm)
noncomputable def MX12_readStyle_36 (h : Hp) (v0 : Nat) (s0 : Int32) : Option (Int32 × Hp) :=
  MX12_readStyle_37 h v0 s0
set_option maxRecDepth 100000 in
set_option maxHeartbeats 8000000 in
theorem kX12_readStyle_36 {d : Nat} {h : Hp} {v0 : Nat} {s0 : Int32} {r : Int32} {h9 : Hp} (H : MX12_readStyle_36 h v0 s0 = some (r, h9)) : J (d + 38) YX12_readStyle 36 [.ref v0, Value.null] [.int s0] h (oI r) h9 := by
  unfold MX12_readStyle_36 at H
  refine J_istore_n 1 dX12_readStyle_36 rfl (by decide) (ls' := [.ref v0, .int s0]) rfl ?_
  exact J_dr (kX12_readStyle_37 H ) ⟨rfl, ⟨rfl, trivial⟩⟩
noncomputable def MX12_readStyle (h : Hp) (v0 : Nat) : Option (Int32 × Hp) :=
  gg (β := (Int32 × Hp)) (kd h v0 = 11) <|
  lt (α := Hp) (β := Option (Int32 × Hp)) (sI h v0 19 (0 : Int32)) fun (h2 : Hp) =>
  lt (α := Hp) (β := Option (Int32 × Hp)) (sI h2 v0 20 (62 : Int32)) fun (h7 : Hp) =>
  lt (α := Hp) (β := Option (Int32 × Hp)) (sI h7 v0 10 (0 : Int32)) fun (h12 : Hp) =>
  Option.bind (α := Hp) (β := (Int32 × Hp)) (MX12_blanks h12 v0) fun (h18 : Hp) =>
  gg (β := (Int32 × Hp)) (kd h18 v0 = 11) <|
  if (gI h18 v0 7) ≤ (gI h18 v0 8) then
    MX12_readStyle_36 h18 v0 (0 : Int32)
  else
    MX12_readStyle_36 h18 v0 (1 : Int32)
set_option maxRecDepth 100000 in
set_option maxHeartbeats 8000000 in
theorem eX12_readStyle {d : Nat} {h : Hp} {v0 : Nat} {r : Int32} {h9 : Hp} (H : MX12_readStyle h v0 = some (r, h9)) : J (d + 38) YX12_readStyle 0 [.ref v0, Value.null] [] h (oI r) h9 := by
  unfold MX12_readStyle at H
  refine J_aload_n 0 dX12_readStyle_0 rfl rfl ?_
  refine J_iconst (0 : Int32) dX12_readStyle_1 kc_0 ?_
  obtain ⟨g1, H⟩ := gd H
  obtain ⟨h2, e3, H⟩ := lt_el H
  refine J_pI 11 19 dX12_readStyle_2 g1 flX12_245 rfl rfl e3 ?_
  have c4 := ekI e3
  have c5 := elI e3
  have c6 := epI e3
  refine J_aload_n 0 dX12_readStyle_5 rfl rfl ?_
  refine J_bipush (62 : Int32) dX12_readStyle_6 kb_62 ?_
  obtain ⟨h7, e8, H⟩ := lt_el H
  refine J_pI 11 20 dX12_readStyle_8 (kq c4 g1) flX12_184 rfl rfl e8 ?_
  have c9 := (ekI e8).trans c4
  have c10 := (elI e8).trans c5
  have c11 := (epI e8).trans c6
  refine J_aload_n 0 dX12_readStyle_11 rfl rfl ?_
  refine J_iconst (0 : Int32) dX12_readStyle_12 kc_0 ?_
  obtain ⟨h12, e13, H⟩ := lt_el H
  refine J_pI 11 10 dX12_readStyle_13 (kq c9 g1) flX12_211 rfl rfl e13 ?_
  have c14 := (ekI e13).trans c9
  have c15 := (elI e13).trans c10
  have c16 := (epI e13).trans c11
  refine J_aload_n 0 dX12_readStyle_16 rfl rfl ?_
  obtain ⟨h18, e17, H⟩ := bd H
  refine J_cV (as := []) 11 YX12_blanks 0 dX12_readStyle_17 moX12_blanks mvX12_blanks mlX12_147 (kq c14 g1) rfl rfl (okX12_blanks (d := d + 37) e17) rfl rfl [] rfl rfl (st2 := []) rfl ?_
  refine J_aload_n 0 dX12_readStyle_20 rfl rfl ?_
  obtain ⟨g19, H⟩ := gd H
  refine J_getI 11 8 dX12_readStyle_21 g19 flX12_137 rfl ?_
  refine J_aload_n 0 dX12_readStyle_24 rfl rfl ?_
  refine J_getI 11 7 dX12_readStyle_25 g19 flX12_134 rfl ?_
  refine J_icmp_ge 35 dX12_readStyle_28 rfl (fun q20 => ?_) (fun q20 => ?_)
  · replace H := br1 q20 H
    refine J_iconst (0 : Int32) dX12_readStyle_35 kc_0 ?_
    exact J_dr (kX12_readStyle_36 H ) ⟨rfl, trivial⟩
  · replace H := br0 q20 H
    refine J_iconst (1 : Int32) dX12_readStyle_31 kc_1 ?_
    refine J_goto 36 dX12_readStyle_32 rfl ?_
    exact J_dr (kX12_readStyle_36 H ) ⟨rfl, trivial⟩
theorem okX12_readStyle {d : Nat} {h : Hp} {v0 : Nat} {r : Int32} {h9 : Hp} (H : MX12_readStyle h v0 = some (r, h9)) : CT (d + 38) YX12_readStyle [.ref v0] h (oI r) h9 := CT_of (by decide +kernel) (Nat.le_of_ble_eq_true rfl) (eX12_readStyle H)
noncomputable def MX12_row_15 (h : Hp) (v0 : Nat) (v1 : Int32) (v2 : Int32) (s0 : Nat) (s1 : Int32) : Option (Int32 × Hp) :=
  gg (β := (Int32 × Hp)) (kd h s0 = 11) <|
  lt (α := Hp) (β := Option (Int32 × Hp)) (sI h s0 0 s1) fun (h6 : Hp) =>
  gg (β := (Int32 × Hp)) (kd h v0 = 11) <|
  if (gI h6 v0 0) ≤ 0 then
    gg (β := (Int32 × Hp)) (kd h (gP h v0 1) = 20) <|
    gg (β := (Int32 × Hp)) (inB ((((337180 : Int32) + ((5 : Int32) * v1)) + (1 : Int32)) + v2) (ln h (gP h v0 1)) = true) <|
    some ((gI h6 (gP h v0 1) ((((337180 : Int32) + ((5 : Int32) * v1)) + (1 : Int32)) + v2).toNatClampNeg), h6)
  else
    some ((0 : Int32), h6)
set_option maxRecDepth 100000 in
set_option maxHeartbeats 8000000 in
theorem kX12_row_15 {d : Nat} {h : Hp} {v0 : Nat} {v1 : Int32} {v2 : Int32} {s0 : Nat} {s1 : Int32} {r : Int32} {h9 : Hp} (H : MX12_row_15 h v0 v1 v2 s0 s1 = some (r, h9)) : J (d + 2) YX12_row 15 [.ref v0, .int v1, .int v2] [.int s1, .ref s0] h (oI r) h9 := by
  unfold MX12_row_15 at H
  obtain ⟨g5, H⟩ := gd H
  obtain ⟨h6, e7, H⟩ := lt_el H
  refine J_pI 11 0 dX12_row_15 g5 flX12_122 rfl rfl e7 ?_
  have c8 := ekI e7
  have c9 := elI e7
  have c10 := epI e7
  refine J_aload_n 0 dX12_row_18 rfl rfl ?_
  obtain ⟨g11, H⟩ := gd H
  refine J_getI 11 0 dX12_row_19 (kq c8 g11) flX12_122 rfl ?_
  refine J_if_le 27 dX12_row_22 rfl (fun q12 => ?_) (fun q12 => ?_)
  · replace H := br1 q12 H
    refine J_aload_n 0 dX12_row_27 rfl rfl ?_
    refine J_gP 11 1 dX12_row_28 (kq c8 g11) flX12_8 rfl (congrFun (congrFun c10 v0) 1) ?_
    refine J_ldcw (337180 : Int32) coX12_390 dX12_row_31 ?_
    refine J_iconst (5 : Int32) dX12_row_34 kc_5 ?_
    refine J_iload_n 1 dX12_row_35 rfl rfl ?_
    refine J_imul dX12_row_36 ?_
    refine J_iadd dX12_row_37 ?_
    refine J_iconst (1 : Int32) dX12_row_38 kc_1 ?_
    refine J_iadd dX12_row_39 ?_
    refine J_iload_n 2 dX12_row_40 rfl rfl ?_
    refine J_iadd dX12_row_41 ?_
    obtain ⟨g13, H⟩ := gd H
    obtain ⟨g14, H⟩ := gd H
    refine J_iald dX12_row_42 (kq c8 g13) (lq c9 g14) ?_
    cases H
    exact J_iretI dX12_row_43 rfl
  · replace H := br0 q12 H
    refine J_iconst (0 : Int32) dX12_row_25 kc_0 ?_
    cases H
    exact J_iretI dX12_row_26 rfl
noncomputable def MX12_row (h : Hp) (v0 : Nat) (v1 : Int32) (v2 : Int32) : Option (Int32 × Hp) :=
  gg (β := (Int32 × Hp)) (kd h v0 = 11) <|
  Option.bind (α := Int32) (β := (Int32 × Hp)) (MX12_isRow h v0 v1 v2) fun (t3 : Int32) =>
  if t3 = 0 then
    MX12_row_15 h v0 v1 v2 v0 (1 : Int32)
  else
    MX12_row_15 h v0 v1 v2 v0 (0 : Int32)
set_option maxRecDepth 100000 in
set_option maxHeartbeats 8000000 in
theorem eX12_row {d : Nat} {h : Hp} {v0 : Nat} {v1 : Int32} {v2 : Int32} {r : Int32} {h9 : Hp} (H : MX12_row h v0 v1 v2 = some (r, h9)) : J (d + 2) YX12_row 0 [.ref v0, .int v1, .int v2] [] h (oI r) h9 := by
  unfold MX12_row at H
  refine J_aload_n 0 dX12_row_0 rfl rfl ?_
  refine J_aload_n 0 dX12_row_1 rfl rfl ?_
  refine J_iload_n 1 dX12_row_2 rfl rfl ?_
  refine J_iload_n 2 dX12_row_3 rfl rfl ?_
  obtain ⟨g2, H⟩ := gd H
  obtain ⟨t3, e1, H⟩ := bd H
  refine J_cV (as := [.int v1, .int v2]) 11 YX12_isRow 2 dX12_row_4 moX12_isRow mvX12_isRow mlX12_481 g2 rfl rfl (okX12_isRow (d := d) e1) rfl rfl [.ref v0] rfl rfl (st2 := [.int t3, .ref v0]) rfl ?_
  refine J_if_ne 14 dX12_row_7 rfl (fun q4 => ?_) (fun q4 => ?_)
  · replace H := br0 q4 H
    refine J_iconst (0 : Int32) dX12_row_14 kc_0 ?_
    exact J_dr (kX12_row_15 H ) ⟨rfl, ⟨rfl, ⟨rfl, trivial⟩⟩⟩
  · replace H := br1 q4 H
    refine J_iconst (1 : Int32) dX12_row_10 kc_1 ?_
    refine J_goto 15 dX12_row_11 rfl ?_
    exact J_dr (kX12_row_15 H ) ⟨rfl, ⟨rfl, ⟨rfl, trivial⟩⟩⟩
theorem okX12_row {d : Nat} {h : Hp} {v0 : Nat} {v1 : Int32} {v2 : Int32} {r : Int32} {h9 : Hp} (H : MX12_row h v0 v1 v2 = some (r, h9)) : CT (d + 2) YX12_row [.ref v0, .int v1, .int v2] h (oI r) h9 := CT_of (by decide +kernel) (Nat.le_of_ble_eq_true rfl) (eX12_row H)
noncomputable def MX12_rule_42 (h : Hp) (v0 : Nat) (v1 : Int32) (v2 : Int32) (v3 : Int32) (s0 : Nat) (s1 : Int32) : Option (Int32 × Hp) :=
  gg (β := (Int32 × Hp)) (kd h s0 = 11) <|
  lt (α := Hp) (β := Option (Int32 × Hp)) (sI h s0 0 s1) fun (h12 : Hp) =>
  gg (β := (Int32 × Hp)) (kd h v0 = 11) <|
  if (gI h12 v0 0) ≤ 0 then
    Option.bind (α := Hp) (β := (Int32 × Hp)) (MX12_tells h12 v0 v1 v2) fun (h20 : Hp) =>
    if v3 = 0 then
      gg (β := (Int32 × Hp)) (kd h20 v0 = 11) <|
      some ((gI h20 v0 25), h20)
    else
      if v3 = (1 : Int32) then
        gg (β := (Int32 × Hp)) (kd h20 v0 = 11) <|
        some ((gI h20 v0 27), h20)
      else
        if v3 = (2 : Int32) then
          gg (β := (Int32 × Hp)) (kd h20 v0 = 11) <|
          some ((gI h20 v0 28), h20)
        else
          if v3 = (3 : Int32) then
            gg (β := (Int32 × Hp)) (kd h20 v0 = 11) <|
            some ((gI h20 v0 29), h20)
          else
            if v3 = (4 : Int32) then
              gg (β := (Int32 × Hp)) (kd h20 v0 = 11) <|
              some ((gI h20 v0 30), h20)
            else
              gg (β := (Int32 × Hp)) (kd h20 v0 = 11) <|
              some ((gI h20 v0 26), h20)
  else
    some ((0 : Int32), h12)
set_option maxRecDepth 100000 in
set_option maxHeartbeats 8000000 in
theorem kX12_rule_42 {d : Nat} {h : Hp} {v0 : Nat} {v1 : Int32} {v2 : Int32} {v3 : Int32} {s0 : Nat} {s1 : Int32} {r : Int32} {h9 : Hp} (H : MX12_rule_42 h v0 v1 v2 v3 s0 s1 = some (r, h9)) : J (d + 3) YX12_rule 42 [.ref v0, .int v1, .int v2, .int v3] [.int s1, .ref s0] h (oI r) h9 := by
  unfold MX12_rule_42 at H
  obtain ⟨g11, H⟩ := gd H
  obtain ⟨h12, e13, H⟩ := lt_el H
  refine J_pI 11 0 dX12_rule_42 g11 flX12_122 rfl rfl e13 ?_
  have c14 := ekI e13
  have c15 := elI e13
  have c16 := epI e13
  refine J_aload_n 0 dX12_rule_45 rfl rfl ?_
  obtain ⟨g17, H⟩ := gd H
  refine J_getI 11 0 dX12_rule_46 (kq c14 g17) flX12_122 rfl ?_
  refine J_if_le 54 dX12_rule_49 rfl (fun q18 => ?_) (fun q18 => ?_)
  · replace H := br1 q18 H
    refine J_aload_n 0 dX12_rule_54 rfl rfl ?_
    refine J_iload_n 1 dX12_rule_55 rfl rfl ?_
    refine J_iload_n 2 dX12_rule_56 rfl rfl ?_
    obtain ⟨h20, e19, H⟩ := bd H
    refine J_cV (as := [.int v1, .int v2]) 11 YX12_tells 2 dX12_rule_57 moX12_tells mvX12_tells mlX12_314 (kq c14 g17) rfl rfl (okX12_tells (d := d) e19) rfl rfl [] rfl rfl (st2 := []) rfl ?_
    refine J_iload_n 3 dX12_rule_60 rfl rfl ?_
    refine J_if_ne 71 dX12_rule_61 rfl (fun q21 => ?_) (fun q21 => ?_)
    · replace H := br0 q21 H
      refine J_iload_n 3 dX12_rule_71 rfl rfl ?_
      refine J_iconst (1 : Int32) dX12_rule_72 kc_1 ?_
      refine J_icmp_ne 83 dX12_rule_73 rfl (fun q22 => ?_) (fun q22 => ?_)
      · replace H := br0 q22 H
        refine J_iload_n 3 dX12_rule_83 rfl rfl ?_
        refine J_iconst (2 : Int32) dX12_rule_84 kc_2 ?_
        refine J_icmp_ne 95 dX12_rule_85 rfl (fun q23 => ?_) (fun q23 => ?_)
        · replace H := br0 q23 H
          refine J_iload_n 3 dX12_rule_95 rfl rfl ?_
          refine J_iconst (3 : Int32) dX12_rule_96 kc_3 ?_
          refine J_icmp_ne 107 dX12_rule_97 rfl (fun q24 => ?_) (fun q24 => ?_)
          · replace H := br0 q24 H
            refine J_iload_n 3 dX12_rule_107 rfl rfl ?_
            refine J_iconst (4 : Int32) dX12_rule_108 kc_4 ?_
            refine J_icmp_ne 119 dX12_rule_109 rfl (fun q25 => ?_) (fun q25 => ?_)
            · replace H := br0 q25 H
              refine J_aload_n 0 dX12_rule_119 rfl rfl ?_
              obtain ⟨g26, H⟩ := gd H
              refine J_getI 11 26 dX12_rule_120 g26 flX12_291 rfl ?_
              cases H
              exact J_iretI dX12_rule_123 rfl
            · replace H := br1 q25 H
              refine J_aload_n 0 dX12_rule_112 rfl rfl ?_
              obtain ⟨g27, H⟩ := gd H
              refine J_getI 11 30 dX12_rule_113 g27 flX12_309 rfl ?_
              refine J_goto 123 dX12_rule_116 rfl ?_
              cases H
              exact J_iretI dX12_rule_123 rfl
          · replace H := br1 q24 H
            refine J_aload_n 0 dX12_rule_100 rfl rfl ?_
            obtain ⟨g28, H⟩ := gd H
            refine J_getI 11 29 dX12_rule_101 g28 flX12_306 rfl ?_
            refine J_goto 123 dX12_rule_104 rfl ?_
            cases H
            exact J_iretI dX12_rule_123 rfl
        · replace H := br1 q23 H
          refine J_aload_n 0 dX12_rule_88 rfl rfl ?_
          obtain ⟨g29, H⟩ := gd H
          refine J_getI 11 28 dX12_rule_89 g29 flX12_303 rfl ?_
          refine J_goto 123 dX12_rule_92 rfl ?_
          cases H
          exact J_iretI dX12_rule_123 rfl
      · replace H := br1 q22 H
        refine J_aload_n 0 dX12_rule_76 rfl rfl ?_
        obtain ⟨g30, H⟩ := gd H
        refine J_getI 11 27 dX12_rule_77 g30 flX12_300 rfl ?_
        refine J_goto 123 dX12_rule_80 rfl ?_
        cases H
        exact J_iretI dX12_rule_123 rfl
    · replace H := br1 q21 H
      refine J_aload_n 0 dX12_rule_64 rfl rfl ?_
      obtain ⟨g31, H⟩ := gd H
      refine J_getI 11 25 dX12_rule_65 g31 flX12_298 rfl ?_
      refine J_goto 123 dX12_rule_68 rfl ?_
      cases H
      exact J_iretI dX12_rule_123 rfl
  · replace H := br0 q18 H
    refine J_iconst (0 : Int32) dX12_rule_52 kc_0 ?_
    cases H
    exact J_iretI dX12_rule_53 rfl
noncomputable def MX12_rule (h : Hp) (v0 : Nat) (v1 : Int32) (v2 : Int32) (v3 : Int32) : Option (Int32 × Hp) :=
  gg (β := (Int32 × Hp)) (kd h v0 = 11) <|
  Option.bind (α := Int32) (β := (Int32 × Hp)) (MX12_isPart h v0 v1) fun (t3 : Int32) =>
  if t3 = 0 then
    MX12_rule_42 h v0 v1 v2 v3 v0 (1 : Int32)
  else
    Option.bind (α := Int32) (β := (Int32 × Hp)) (MX12_isIn h v2 (0 : Int32) (600 : Int32)) fun (t6 : Int32) =>
    if t6 = 0 then
      MX12_rule_42 h v0 v1 v2 v3 v0 (2 : Int32)
    else
      Option.bind (α := Int32) (β := (Int32 × Hp)) (MX12_isIn h v3 (0 : Int32) (5 : Int32)) fun (t9 : Int32) =>
      if t9 = 0 then
        MX12_rule_42 h v0 v1 v2 v3 v0 (3 : Int32)
      else
        MX12_rule_42 h v0 v1 v2 v3 v0 (0 : Int32)
set_option maxRecDepth 100000 in
set_option maxHeartbeats 8000000 in
theorem eX12_rule {d : Nat} {h : Hp} {v0 : Nat} {v1 : Int32} {v2 : Int32} {v3 : Int32} {r : Int32} {h9 : Hp} (H : MX12_rule h v0 v1 v2 v3 = some (r, h9)) : J (d + 3) YX12_rule 0 [.ref v0, .int v1, .int v2, .int v3] [] h (oI r) h9 := by
  unfold MX12_rule at H
  refine J_aload_n 0 dX12_rule_0 rfl rfl ?_
  refine J_aload_n 0 dX12_rule_1 rfl rfl ?_
  refine J_iload_n 1 dX12_rule_2 rfl rfl ?_
  obtain ⟨g2, H⟩ := gd H
  obtain ⟨t3, e1, H⟩ := bd H
  refine J_cV (as := [.int v1]) 11 YX12_isPart 1 dX12_rule_3 moX12_isPart mvX12_isPart mlX12_311 g2 rfl rfl (okX12_isPart (d := d + 2) e1) rfl rfl [.ref v0] rfl rfl (st2 := [.int t3, .ref v0]) rfl ?_
  refine J_if_ne 13 dX12_rule_6 rfl (fun q4 => ?_) (fun q4 => ?_)
  · replace H := br0 q4 H
    refine J_iload_n 2 dX12_rule_13 rfl rfl ?_
    refine J_iconst (0 : Int32) dX12_rule_14 kc_0 ?_
    refine J_sipush (600 : Int32) dX12_rule_15 ks_600 ?_
    obtain ⟨t6, e5, H⟩ := bd H
    refine J_cS (as := [.int v2, .int (0 : Int32), .int (600 : Int32)]) YX12_isIn 3 dX12_rule_18 moX12_isIn msX12_isIn mlX12_157 (okX12_isIn (d := d + 2) e5) rfl rfl [.ref v0] rfl rfl (st2 := [.int t6, .ref v0]) rfl ?_
    refine J_if_ne 28 dX12_rule_21 rfl (fun q7 => ?_) (fun q7 => ?_)
    · replace H := br0 q7 H
      refine J_iload_n 3 dX12_rule_28 rfl rfl ?_
      refine J_iconst (0 : Int32) dX12_rule_29 kc_0 ?_
      refine J_iconst (5 : Int32) dX12_rule_30 kc_5 ?_
      obtain ⟨t9, e8, H⟩ := bd H
      refine J_cS (as := [.int v3, .int (0 : Int32), .int (5 : Int32)]) YX12_isIn 3 dX12_rule_31 moX12_isIn msX12_isIn mlX12_157 (okX12_isIn (d := d + 2) e8) rfl rfl [.ref v0] rfl rfl (st2 := [.int t9, .ref v0]) rfl ?_
      refine J_if_ne 41 dX12_rule_34 rfl (fun q10 => ?_) (fun q10 => ?_)
      · replace H := br0 q10 H
        refine J_iconst (0 : Int32) dX12_rule_41 kc_0 ?_
        exact J_dr (kX12_rule_42 H ) ⟨rfl, ⟨rfl, ⟨rfl, ⟨rfl, trivial⟩⟩⟩⟩
      · replace H := br1 q10 H
        refine J_iconst (3 : Int32) dX12_rule_37 kc_3 ?_
        refine J_goto 42 dX12_rule_38 rfl ?_
        exact J_dr (kX12_rule_42 H ) ⟨rfl, ⟨rfl, ⟨rfl, ⟨rfl, trivial⟩⟩⟩⟩
    · replace H := br1 q7 H
      refine J_iconst (2 : Int32) dX12_rule_24 kc_2 ?_
      refine J_goto 42 dX12_rule_25 rfl ?_
      exact J_dr (kX12_rule_42 H ) ⟨rfl, ⟨rfl, ⟨rfl, ⟨rfl, trivial⟩⟩⟩⟩
  · replace H := br1 q4 H
    refine J_iconst (1 : Int32) dX12_rule_9 kc_1 ?_
    refine J_goto 42 dX12_rule_10 rfl ?_
    exact J_dr (kX12_rule_42 H ) ⟨rfl, ⟨rfl, ⟨rfl, ⟨rfl, trivial⟩⟩⟩⟩
theorem okX12_rule {d : Nat} {h : Hp} {v0 : Nat} {v1 : Int32} {v2 : Int32} {v3 : Int32} {r : Int32} {h9 : Hp} (H : MX12_rule h v0 v1 v2 v3 = some (r, h9)) : CT (d + 3) YX12_rule [.ref v0, .int v1, .int v2, .int v3] h (oI r) h9 := CT_of (by decide +kernel) (Nat.le_of_ble_eq_true rfl) (eX12_rule H)
noncomputable def MX12_runs_27 (h : Hp) (v0 : Nat) (v1 : Int32) (v2 : Int32) (s0 : Nat) (s1 : Int32) : Option (Int32 × Hp) :=
  gg (β := (Int32 × Hp)) (kd h s0 = 11) <|
  lt (α := Hp) (β := Option (Int32 × Hp)) (sI h s0 0 s1) fun (h9 : Hp) =>
  gg (β := (Int32 × Hp)) (kd h v0 = 11) <|
  if (gI h9 v0 0) ≤ 0 then
    Option.bind (α := Int32) (β := (Int32 × Hp)) (MX12_machine0 h9 v1) fun (t17 : Int32) =>
    if v2 = 0 then
      gg (β := (Int32 × Hp)) (kd h (gP h v0 1) = 20) <|
      gg (β := (Int32 × Hp)) (inB (t17 + (29 : Int32)) (ln h (gP h v0 1)) = true) <|
      some ((gI h9 (gP h v0 1) (t17 + (29 : Int32)).toNatClampNeg), h9)
    else
      if v2 = (1 : Int32) then
        gg (β := (Int32 × Hp)) (kd h (gP h v0 1) = 20) <|
        gg (β := (Int32 × Hp)) (inB (t17 + (30 : Int32)) (ln h (gP h v0 1)) = true) <|
        some ((gI h9 (gP h v0 1) (t17 + (30 : Int32)).toNatClampNeg), h9)
      else
        if v2 = (2 : Int32) then
          gg (β := (Int32 × Hp)) (kd h (gP h v0 1) = 20) <|
          gg (β := (Int32 × Hp)) (inB (t17 + (31 : Int32)) (ln h (gP h v0 1)) = true) <|
          some ((gI h9 (gP h v0 1) (t17 + (31 : Int32)).toNatClampNeg), h9)
        else
          if v2 = (3 : Int32) then
            gg (β := (Int32 × Hp)) (kd h (gP h v0 1) = 20) <|
            gg (β := (Int32 × Hp)) (inB (t17 + (32 : Int32)) (ln h (gP h v0 1)) = true) <|
            some ((gI h9 (gP h v0 1) (t17 + (32 : Int32)).toNatClampNeg), h9)
          else
            if v2 = (4 : Int32) then
              gg (β := (Int32 × Hp)) (kd h (gP h v0 1) = 20) <|
              gg (β := (Int32 × Hp)) (inB (t17 + (28 : Int32)) (ln h (gP h v0 1)) = true) <|
              some ((gI h9 (gP h v0 1) (t17 + (28 : Int32)).toNatClampNeg), h9)
            else
              gg (β := (Int32 × Hp)) (kd h (gP h v0 1) = 20) <|
              gg (β := (Int32 × Hp)) (inB (t17 + (29 : Int32)) (ln h (gP h v0 1)) = true) <|
              if (gI h9 (gP h v0 1) (t17 + (29 : Int32)).toNatClampNeg) = 0 then
                some ((-1 : Int32), h9)
              else
                gg (β := (Int32 × Hp)) (inB (t17 + (33 : Int32)) (ln h (gP h v0 1)) = true) <|
                some ((gI h9 (gP h v0 1) (t17 + (33 : Int32)).toNatClampNeg), h9)
  else
    some ((0 : Int32), h9)
set_option maxRecDepth 100000 in
set_option maxHeartbeats 8000000 in
theorem kX12_runs_27 {d : Nat} {h : Hp} {v0 : Nat} {v1 : Int32} {v2 : Int32} {s0 : Nat} {s1 : Int32} {r : Int32} {h9 : Hp} (H : MX12_runs_27 h v0 v1 v2 s0 s1 = some (r, h9)) : J (d + 1) YX12_runs 27 [.ref v0, .int v1, .int v2, Value.null] [.int s1, .ref s0] h (oI r) h9 := by
  unfold MX12_runs_27 at H
  obtain ⟨g8, H⟩ := gd H
  obtain ⟨h9, e10, H⟩ := lt_el H
  refine J_pI 11 0 dX12_runs_27 g8 flX12_122 rfl rfl e10 ?_
  have c11 := ekI e10
  have c12 := elI e10
  have c13 := epI e10
  refine J_aload_n 0 dX12_runs_30 rfl rfl ?_
  obtain ⟨g14, H⟩ := gd H
  refine J_getI 11 0 dX12_runs_31 (kq c11 g14) flX12_122 rfl ?_
  refine J_if_le 39 dX12_runs_34 rfl (fun q15 => ?_) (fun q15 => ?_)
  · replace H := br1 q15 H
    refine J_iload_n 1 dX12_runs_39 rfl rfl ?_
    obtain ⟨t17, e16, H⟩ := bd H
    refine J_cS (as := [.int v1]) YX12_machine0 1 dX12_runs_40 moX12_machine0 msX12_machine0 mlX12_360 (okX12_machine0 (d := d) e16) rfl rfl [] rfl rfl (st2 := [.int t17]) rfl ?_
    refine J_istore_n 3 dX12_runs_43 rfl (by decide) (ls' := [.ref v0, .int v1, .int v2, .int t17]) rfl ?_
    refine J_iload_n 2 dX12_runs_44 rfl rfl ?_
    refine J_if_ne 60 dX12_runs_45 rfl (fun q18 => ?_) (fun q18 => ?_)
    · replace H := br0 q18 H
      refine J_iload_n 2 dX12_runs_60 rfl rfl ?_
      refine J_iconst (1 : Int32) dX12_runs_61 kc_1 ?_
      refine J_icmp_ne 77 dX12_runs_62 rfl (fun q19 => ?_) (fun q19 => ?_)
      · replace H := br0 q19 H
        refine J_iload_n 2 dX12_runs_77 rfl rfl ?_
        refine J_iconst (2 : Int32) dX12_runs_78 kc_2 ?_
        refine J_icmp_ne 94 dX12_runs_79 rfl (fun q20 => ?_) (fun q20 => ?_)
        · replace H := br0 q20 H
          refine J_iload_n 2 dX12_runs_94 rfl rfl ?_
          refine J_iconst (3 : Int32) dX12_runs_95 kc_3 ?_
          refine J_icmp_ne 111 dX12_runs_96 rfl (fun q21 => ?_) (fun q21 => ?_)
          · replace H := br0 q21 H
            refine J_iload_n 2 dX12_runs_111 rfl rfl ?_
            refine J_iconst (4 : Int32) dX12_runs_112 kc_4 ?_
            refine J_icmp_ne 128 dX12_runs_113 rfl (fun q22 => ?_) (fun q22 => ?_)
            · replace H := br0 q22 H
              refine J_aload_n 0 dX12_runs_128 rfl rfl ?_
              refine J_gP 11 1 dX12_runs_129 (kq c11 g14) flX12_8 rfl (congrFun (congrFun c13 v0) 1) ?_
              refine J_iload_n 3 dX12_runs_132 rfl rfl ?_
              refine J_bipush (29 : Int32) dX12_runs_133 kb_29 ?_
              refine J_iadd dX12_runs_135 ?_
              obtain ⟨g23, H⟩ := gd H
              obtain ⟨g24, H⟩ := gd H
              refine J_iald dX12_runs_136 (kq c11 g23) (lq c12 g24) ?_
              refine J_if_ne 144 dX12_runs_137 rfl (fun q25 => ?_) (fun q25 => ?_)
              · replace H := br0 q25 H
                refine J_aload_n 0 dX12_runs_144 rfl rfl ?_
                refine J_gP 11 1 dX12_runs_145 (kq c11 g14) flX12_8 rfl (congrFun (congrFun c13 v0) 1) ?_
                refine J_iload_n 3 dX12_runs_148 rfl rfl ?_
                refine J_bipush (33 : Int32) dX12_runs_149 kb_33 ?_
                refine J_iadd dX12_runs_151 ?_
                obtain ⟨g26, H⟩ := gd H
                refine J_iald dX12_runs_152 (kq c11 g23) (lq c12 g26) ?_
                cases H
                exact J_iretI dX12_runs_153 rfl
              · replace H := br1 q25 H
                refine J_iconst (-1 : Int32) dX12_runs_140 kc_m1 ?_
                refine J_goto 153 dX12_runs_141 rfl ?_
                cases H
                exact J_iretI dX12_runs_153 rfl
            · replace H := br1 q22 H
              refine J_aload_n 0 dX12_runs_116 rfl rfl ?_
              refine J_gP 11 1 dX12_runs_117 (kq c11 g14) flX12_8 rfl (congrFun (congrFun c13 v0) 1) ?_
              refine J_iload_n 3 dX12_runs_120 rfl rfl ?_
              refine J_bipush (28 : Int32) dX12_runs_121 kb_28 ?_
              refine J_iadd dX12_runs_123 ?_
              obtain ⟨g27, H⟩ := gd H
              obtain ⟨g28, H⟩ := gd H
              refine J_iald dX12_runs_124 (kq c11 g27) (lq c12 g28) ?_
              refine J_goto 153 dX12_runs_125 rfl ?_
              cases H
              exact J_iretI dX12_runs_153 rfl
          · replace H := br1 q21 H
            refine J_aload_n 0 dX12_runs_99 rfl rfl ?_
            refine J_gP 11 1 dX12_runs_100 (kq c11 g14) flX12_8 rfl (congrFun (congrFun c13 v0) 1) ?_
            refine J_iload_n 3 dX12_runs_103 rfl rfl ?_
            refine J_bipush (32 : Int32) dX12_runs_104 kb_32 ?_
            refine J_iadd dX12_runs_106 ?_
            obtain ⟨g29, H⟩ := gd H
            obtain ⟨g30, H⟩ := gd H
            refine J_iald dX12_runs_107 (kq c11 g29) (lq c12 g30) ?_
            refine J_goto 153 dX12_runs_108 rfl ?_
            cases H
            exact J_iretI dX12_runs_153 rfl
        · replace H := br1 q20 H
          refine J_aload_n 0 dX12_runs_82 rfl rfl ?_
          refine J_gP 11 1 dX12_runs_83 (kq c11 g14) flX12_8 rfl (congrFun (congrFun c13 v0) 1) ?_
          refine J_iload_n 3 dX12_runs_86 rfl rfl ?_
          refine J_bipush (31 : Int32) dX12_runs_87 kb_31 ?_
          refine J_iadd dX12_runs_89 ?_
          obtain ⟨g31, H⟩ := gd H
          obtain ⟨g32, H⟩ := gd H
          refine J_iald dX12_runs_90 (kq c11 g31) (lq c12 g32) ?_
          refine J_goto 153 dX12_runs_91 rfl ?_
          cases H
          exact J_iretI dX12_runs_153 rfl
      · replace H := br1 q19 H
        refine J_aload_n 0 dX12_runs_65 rfl rfl ?_
        refine J_gP 11 1 dX12_runs_66 (kq c11 g14) flX12_8 rfl (congrFun (congrFun c13 v0) 1) ?_
        refine J_iload_n 3 dX12_runs_69 rfl rfl ?_
        refine J_bipush (30 : Int32) dX12_runs_70 kb_30 ?_
        refine J_iadd dX12_runs_72 ?_
        obtain ⟨g33, H⟩ := gd H
        obtain ⟨g34, H⟩ := gd H
        refine J_iald dX12_runs_73 (kq c11 g33) (lq c12 g34) ?_
        refine J_goto 153 dX12_runs_74 rfl ?_
        cases H
        exact J_iretI dX12_runs_153 rfl
    · replace H := br1 q18 H
      refine J_aload_n 0 dX12_runs_48 rfl rfl ?_
      refine J_gP 11 1 dX12_runs_49 (kq c11 g14) flX12_8 rfl (congrFun (congrFun c13 v0) 1) ?_
      refine J_iload_n 3 dX12_runs_52 rfl rfl ?_
      refine J_bipush (29 : Int32) dX12_runs_53 kb_29 ?_
      refine J_iadd dX12_runs_55 ?_
      obtain ⟨g35, H⟩ := gd H
      obtain ⟨g36, H⟩ := gd H
      refine J_iald dX12_runs_56 (kq c11 g35) (lq c12 g36) ?_
      refine J_goto 153 dX12_runs_57 rfl ?_
      cases H
      exact J_iretI dX12_runs_153 rfl
  · replace H := br0 q15 H
    refine J_iconst (0 : Int32) dX12_runs_37 kc_0 ?_
    cases H
    exact J_iretI dX12_runs_38 rfl
noncomputable def MX12_runs (h : Hp) (v0 : Nat) (v1 : Int32) (v2 : Int32) : Option (Int32 × Hp) :=
  gg (β := (Int32 × Hp)) (kd h v0 = 11) <|
  Option.bind (α := Int32) (β := (Int32 × Hp)) (MX12_isMachine h v0 v1) fun (t3 : Int32) =>
  if t3 = 0 then
    MX12_runs_27 h v0 v1 v2 v0 (1 : Int32)
  else
    Option.bind (α := Int32) (β := (Int32 × Hp)) (MX12_isIn h v2 (0 : Int32) (5 : Int32)) fun (t6 : Int32) =>
    if t6 = 0 then
      MX12_runs_27 h v0 v1 v2 v0 (2 : Int32)
    else
      MX12_runs_27 h v0 v1 v2 v0 (0 : Int32)
set_option maxRecDepth 100000 in
set_option maxHeartbeats 8000000 in
theorem eX12_runs {d : Nat} {h : Hp} {v0 : Nat} {v1 : Int32} {v2 : Int32} {r : Int32} {h9 : Hp} (H : MX12_runs h v0 v1 v2 = some (r, h9)) : J (d + 1) YX12_runs 0 [.ref v0, .int v1, .int v2, Value.null] [] h (oI r) h9 := by
  unfold MX12_runs at H
  refine J_aload_n 0 dX12_runs_0 rfl rfl ?_
  refine J_aload_n 0 dX12_runs_1 rfl rfl ?_
  refine J_iload_n 1 dX12_runs_2 rfl rfl ?_
  obtain ⟨g2, H⟩ := gd H
  obtain ⟨t3, e1, H⟩ := bd H
  refine J_cV (as := [.int v1]) 11 YX12_isMachine 1 dX12_runs_3 moX12_isMachine mvX12_isMachine mlX12_363 g2 rfl rfl (okX12_isMachine (d := d) e1) rfl rfl [.ref v0] rfl rfl (st2 := [.int t3, .ref v0]) rfl ?_
  refine J_if_ne 13 dX12_runs_6 rfl (fun q4 => ?_) (fun q4 => ?_)
  · replace H := br0 q4 H
    refine J_iload_n 2 dX12_runs_13 rfl rfl ?_
    refine J_iconst (0 : Int32) dX12_runs_14 kc_0 ?_
    refine J_iconst (5 : Int32) dX12_runs_15 kc_5 ?_
    obtain ⟨t6, e5, H⟩ := bd H
    refine J_cS (as := [.int v2, .int (0 : Int32), .int (5 : Int32)]) YX12_isIn 3 dX12_runs_16 moX12_isIn msX12_isIn mlX12_157 (okX12_isIn (d := d) e5) rfl rfl [.ref v0] rfl rfl (st2 := [.int t6, .ref v0]) rfl ?_
    refine J_if_ne 26 dX12_runs_19 rfl (fun q7 => ?_) (fun q7 => ?_)
    · replace H := br0 q7 H
      refine J_iconst (0 : Int32) dX12_runs_26 kc_0 ?_
      exact J_dr (kX12_runs_27 H ) ⟨rfl, ⟨rfl, ⟨rfl, trivial⟩⟩⟩
    · replace H := br1 q7 H
      refine J_iconst (2 : Int32) dX12_runs_22 kc_2 ?_
      refine J_goto 27 dX12_runs_23 rfl ?_
      exact J_dr (kX12_runs_27 H ) ⟨rfl, ⟨rfl, ⟨rfl, trivial⟩⟩⟩
  · replace H := br1 q4 H
    refine J_iconst (1 : Int32) dX12_runs_9 kc_1 ?_
    refine J_goto 27 dX12_runs_10 rfl ?_
    exact J_dr (kX12_runs_27 H ) ⟨rfl, ⟨rfl, ⟨rfl, trivial⟩⟩⟩
theorem okX12_runs {d : Nat} {h : Hp} {v0 : Nat} {v1 : Int32} {v2 : Int32} {r : Int32} {h9 : Hp} (H : MX12_runs h v0 v1 v2 = some (r, h9)) : CT (d + 1) YX12_runs [.ref v0, .int v1, .int v2] h (oI r) h9 := CT_of (by decide +kernel) (Nat.le_of_ble_eq_true rfl) (eX12_runs H)
noncomputable def MX12_says_14 (h : Hp) (v0 : Nat) (v1 : Int32) (v2 : Int32) (s0 : Nat) (s1 : Int32) : Option (Int32 × Hp) :=
  gg (β := (Int32 × Hp)) (kd h s0 = 11) <|
  lt (α := Hp) (β := Option (Int32 × Hp)) (sI h s0 0 s1) fun (h6 : Hp) =>
  gg (β := (Int32 × Hp)) (kd h v0 = 11) <|
  if (gI h6 v0 0) ≤ 0 then
    Option.bind (α := Int32) (β := (Int32 × Hp)) (MX12_slug0 h6 v1) fun (t14 : Int32) =>
    gg (β := (Int32 × Hp)) (kd h (gP h v0 1) = 20) <|
    gg (β := (Int32 × Hp)) (inB (t14 + (9 : Int32)) (ln h (gP h v0 1)) = true) <|
    Option.bind (α := Int32) (β := (Int32 × Hp)) (MX12_isIn h6 v2 (0 : Int32) ((gI h6 (gP h v0 1) (t14 + (9 : Int32)).toNatClampNeg) - (1 : Int32))) fun (t18 : Int32) =>
    if t18 = 0 then
      some ((-1 : Int32), h6)
    else
      Option.bind (α := Int32) (β := (Int32 × Hp)) (MX12_slug0 h6 v1) fun (t21 : Int32) =>
      gg (β := (Int32 × Hp)) (inB ((t21 + (432 : Int32)) + v2) (ln h (gP h v0 1)) = true) <|
      some ((gI h6 (gP h v0 1) ((t21 + (432 : Int32)) + v2).toNatClampNeg), h6)
  else
    some ((0 : Int32), h6)
set_option maxRecDepth 100000 in
set_option maxHeartbeats 8000000 in
theorem kX12_says_14 {d : Nat} {h : Hp} {v0 : Nat} {v1 : Int32} {v2 : Int32} {s0 : Nat} {s1 : Int32} {r : Int32} {h9 : Hp} (H : MX12_says_14 h v0 v1 v2 s0 s1 = some (r, h9)) : J (d + 1) YX12_says 14 [.ref v0, .int v1, .int v2] [.int s1, .ref s0] h (oI r) h9 := by
  unfold MX12_says_14 at H
  obtain ⟨g5, H⟩ := gd H
  obtain ⟨h6, e7, H⟩ := lt_el H
  refine J_pI 11 0 dX12_says_14 g5 flX12_122 rfl rfl e7 ?_
  have c8 := ekI e7
  have c9 := elI e7
  have c10 := epI e7
  refine J_aload_n 0 dX12_says_17 rfl rfl ?_
  obtain ⟨g11, H⟩ := gd H
  refine J_getI 11 0 dX12_says_18 (kq c8 g11) flX12_122 rfl ?_
  refine J_if_le 26 dX12_says_21 rfl (fun q12 => ?_) (fun q12 => ?_)
  · replace H := br1 q12 H
    refine J_iload_n 2 dX12_says_26 rfl rfl ?_
    refine J_iconst (0 : Int32) dX12_says_27 kc_0 ?_
    refine J_aload_n 0 dX12_says_28 rfl rfl ?_
    refine J_gP 11 1 dX12_says_29 (kq c8 g11) flX12_8 rfl (congrFun (congrFun c10 v0) 1) ?_
    refine J_iload_n 1 dX12_says_32 rfl rfl ?_
    obtain ⟨t14, e13, H⟩ := bd H
    refine J_cS (as := [.int v1]) YX12_slug0 1 dX12_says_33 moX12_slug0 msX12_slug0 mlX12_342 (okX12_slug0 (d := d) e13) rfl rfl [.ref (gP h v0 1), .int (0 : Int32), .int v2] rfl rfl (st2 := [.int t14, .ref (gP h v0 1), .int (0 : Int32), .int v2]) rfl ?_
    refine J_bipush (9 : Int32) dX12_says_36 kb_9 ?_
    refine J_iadd dX12_says_38 ?_
    obtain ⟨g15, H⟩ := gd H
    obtain ⟨g16, H⟩ := gd H
    refine J_iald dX12_says_39 (kq c8 g15) (lq c9 g16) ?_
    refine J_iconst (1 : Int32) dX12_says_40 kc_1 ?_
    refine J_isub dX12_says_41 ?_
    obtain ⟨t18, e17, H⟩ := bd H
    refine J_cS (as := [.int v2, .int (0 : Int32), .int ((gI h6 (gP h v0 1) (t14 + (9 : Int32)).toNatClampNeg) - (1 : Int32))]) YX12_isIn 3 dX12_says_42 moX12_isIn msX12_isIn mlX12_157 (okX12_isIn (d := d) e17) rfl rfl [] rfl rfl (st2 := [.int t18]) rfl ?_
    refine J_if_eq 66 dX12_says_45 rfl (fun q19 => ?_) (fun q19 => ?_)
    · replace H := br1 q19 H
      refine J_iconst (-1 : Int32) dX12_says_66 kc_m1 ?_
      cases H
      exact J_iretI dX12_says_67 rfl
    · replace H := br0 q19 H
      refine J_aload_n 0 dX12_says_48 rfl rfl ?_
      refine J_gP 11 1 dX12_says_49 (kq c8 g11) flX12_8 rfl (congrFun (congrFun c10 v0) 1) ?_
      refine J_iload_n 1 dX12_says_52 rfl rfl ?_
      obtain ⟨t21, e20, H⟩ := bd H
      refine J_cS (as := [.int v1]) YX12_slug0 1 dX12_says_53 moX12_slug0 msX12_slug0 mlX12_342 (okX12_slug0 (d := d) e20) rfl rfl [.ref (gP h v0 1)] rfl rfl (st2 := [.int t21, .ref (gP h v0 1)]) rfl ?_
      refine J_sipush (432 : Int32) dX12_says_56 ks_432 ?_
      refine J_iadd dX12_says_59 ?_
      refine J_iload_n 2 dX12_says_60 rfl rfl ?_
      refine J_iadd dX12_says_61 ?_
      obtain ⟨g22, H⟩ := gd H
      refine J_iald dX12_says_62 (kq c8 g15) (lq c9 g22) ?_
      refine J_goto 67 dX12_says_63 rfl ?_
      cases H
      exact J_iretI dX12_says_67 rfl
  · replace H := br0 q12 H
    refine J_iconst (0 : Int32) dX12_says_24 kc_0 ?_
    cases H
    exact J_iretI dX12_says_25 rfl
noncomputable def MX12_says (h : Hp) (v0 : Nat) (v1 : Int32) (v2 : Int32) : Option (Int32 × Hp) :=
  gg (β := (Int32 × Hp)) (kd h v0 = 11) <|
  Option.bind (α := Int32) (β := (Int32 × Hp)) (MX12_isSlug h v0 v1) fun (t3 : Int32) =>
  if t3 = 0 then
    MX12_says_14 h v0 v1 v2 v0 (1 : Int32)
  else
    MX12_says_14 h v0 v1 v2 v0 (0 : Int32)
set_option maxRecDepth 100000 in
set_option maxHeartbeats 8000000 in
theorem eX12_says {d : Nat} {h : Hp} {v0 : Nat} {v1 : Int32} {v2 : Int32} {r : Int32} {h9 : Hp} (H : MX12_says h v0 v1 v2 = some (r, h9)) : J (d + 1) YX12_says 0 [.ref v0, .int v1, .int v2] [] h (oI r) h9 := by
  unfold MX12_says at H
  refine J_aload_n 0 dX12_says_0 rfl rfl ?_
  refine J_aload_n 0 dX12_says_1 rfl rfl ?_
  refine J_iload_n 1 dX12_says_2 rfl rfl ?_
  obtain ⟨g2, H⟩ := gd H
  obtain ⟨t3, e1, H⟩ := bd H
  refine J_cV (as := [.int v1]) 11 YX12_isSlug 1 dX12_says_3 moX12_isSlug mvX12_isSlug mlX12_396 g2 rfl rfl (okX12_isSlug (d := d) e1) rfl rfl [.ref v0] rfl rfl (st2 := [.int t3, .ref v0]) rfl ?_
  refine J_if_ne 13 dX12_says_6 rfl (fun q4 => ?_) (fun q4 => ?_)
  · replace H := br0 q4 H
    refine J_iconst (0 : Int32) dX12_says_13 kc_0 ?_
    exact J_dr (kX12_says_14 H ) ⟨rfl, ⟨rfl, ⟨rfl, trivial⟩⟩⟩
  · replace H := br1 q4 H
    refine J_iconst (1 : Int32) dX12_says_9 kc_1 ?_
    refine J_goto 14 dX12_says_10 rfl ?_
    exact J_dr (kX12_says_14 H ) ⟨rfl, ⟨rfl, ⟨rfl, trivial⟩⟩⟩
theorem okX12_says {d : Nat} {h : Hp} {v0 : Nat} {v1 : Int32} {v2 : Int32} {r : Int32} {h9 : Hp} (H : MX12_says h v0 v1 v2 = some (r, h9)) : CT (d + 1) YX12_says [.ref v0, .int v1, .int v2] h (oI r) h9 := CT_of (by decide +kernel) (Nat.le_of_ble_eq_true rfl) (eX12_says H)
noncomputable def MX12_slip_167 (h : Hp) (v0 : Nat) (v3 : Int32) (v4 : Int32) (v5 : Int32) (s0 : Int32) : Option (Int32 × Hp) :=
  gg (β := (Int32 × Hp)) (kd h v0 = 11) <|
  gg (β := (Int32 × Hp)) (kd h (gP h v0 1) = 20) <|
  gg (β := (Int32 × Hp)) (inB ((v4 + (432 : Int32)) + v5) (ln h (gP h v0 1)) = true) <|
  lt (α := Hp) (β := Option (Int32 × Hp)) (sI h (gP h v0 1) ((v4 + (432 : Int32)) + v5).toNatClampNeg ((97 : Int32) + v3)) fun (h34 : Hp) =>
  gg (β := (Int32 × Hp)) (zOk s0 = true) <|
  some (s0, h34)
set_option maxRecDepth 100000 in
set_option maxHeartbeats 8000000 in
theorem kX12_slip_167 {d : Nat} {h : Hp} {v0 : Nat} {v3 : Int32} {v4 : Int32} {v5 : Int32} {s0 : Int32} {r : Int32} {h9 : Hp} (H : MX12_slip_167 h v0 v3 v4 v5 s0 = some (r, h9)) : J (d + 1) YX12_slip 167 [.ref v0, Value.null, Value.null, .int v3, .int v4, .int v5, Value.null, Value.null] [.int s0] h (oI r) h9 := by
  unfold MX12_slip_167 at H
  refine J_istore dX12_slip_167 (by decide) (ls' := [.ref v0, Value.null, Value.null, .int v3, .int v4, .int v5, Value.null, .int s0]) rfl ?_
  refine J_aload_n 0 dX12_slip_169 rfl rfl ?_
  obtain ⟨g31, H⟩ := gd H
  refine J_gP 11 1 dX12_slip_170 g31 flX12_8 rfl rfl ?_
  refine J_iload dX12_slip_173 rfl ?_
  refine J_sipush (432 : Int32) dX12_slip_175 ks_432 ?_
  refine J_iadd dX12_slip_178 ?_
  refine J_iload dX12_slip_179 rfl ?_
  refine J_iadd dX12_slip_181 ?_
  refine J_bipush (97 : Int32) dX12_slip_182 kb_97 ?_
  refine J_iload_n 3 dX12_slip_184 rfl rfl ?_
  refine J_iadd dX12_slip_185 ?_
  obtain ⟨g32, H⟩ := gd H
  obtain ⟨g33, H⟩ := gd H
  obtain ⟨h34, e35, H⟩ := lt_el H
  refine J_sI dX12_slip_186 g32 (inB_ok g33) e35 ?_
  have c36 := ekI e35
  have c37 := elI e35
  have c38 := epI e35
  refine J_iload dX12_slip_187 rfl ?_
  obtain ⟨g39, H⟩ := gd H
  cases H
  exact J_rZ dX12_slip_189 rfl g39
noncomputable def MX12_slip_129 (h : Hp) (v0 : Nat) (v3 : Int32) (v4 : Int32) (v5 : Int32) (s0 : Nat) (s1 : Int32) : Option (Int32 × Hp) :=
  gg (β := (Int32 × Hp)) (kd h s0 = 11) <|
  lt (α := Hp) (β := Option (Int32 × Hp)) (sI h s0 0 s1) fun (h21 : Hp) =>
  gg (β := (Int32 × Hp)) (kd h v0 = 11) <|
  if (gI h21 v0 0) ≤ 0 then
    gg (β := (Int32 × Hp)) (kd h (gP h v0 1) = 20) <|
    gg (β := (Int32 × Hp)) (inB ((v4 + (432 : Int32)) + v5) (ln h (gP h v0 1)) = true) <|
    if (gI h21 (gP h v0 1) ((v4 + (432 : Int32)) + v5).toNatClampNeg) = ((97 : Int32) + v3) then
      MX12_slip_167 h21 v0 v3 v4 v5 (0 : Int32)
    else
      MX12_slip_167 h21 v0 v3 v4 v5 (1 : Int32)
  else
    some ((0 : Int32), h21)
set_option maxRecDepth 100000 in
set_option maxHeartbeats 8000000 in
theorem kX12_slip_129 {d : Nat} {h : Hp} {v0 : Nat} {v3 : Int32} {v4 : Int32} {v5 : Int32} {s0 : Nat} {s1 : Int32} {r : Int32} {h9 : Hp} (H : MX12_slip_129 h v0 v3 v4 v5 s0 s1 = some (r, h9)) : J (d + 1) YX12_slip 129 [.ref v0, Value.null, Value.null, .int v3, .int v4, .int v5, Value.null, Value.null] [.int s1, .ref s0] h (oI r) h9 := by
  unfold MX12_slip_129 at H
  obtain ⟨g20, H⟩ := gd H
  obtain ⟨h21, e22, H⟩ := lt_el H
  refine J_pI 11 0 dX12_slip_129 g20 flX12_122 rfl rfl e22 ?_
  have c23 := ekI e22
  have c24 := elI e22
  have c25 := epI e22
  refine J_aload_n 0 dX12_slip_132 rfl rfl ?_
  obtain ⟨g26, H⟩ := gd H
  refine J_getI 11 0 dX12_slip_133 (kq c23 g26) flX12_122 rfl ?_
  refine J_if_le 141 dX12_slip_136 rfl (fun q27 => ?_) (fun q27 => ?_)
  · replace H := br1 q27 H
    refine J_aload_n 0 dX12_slip_141 rfl rfl ?_
    refine J_gP 11 1 dX12_slip_142 (kq c23 g26) flX12_8 rfl (congrFun (congrFun c25 v0) 1) ?_
    refine J_iload dX12_slip_145 rfl ?_
    refine J_sipush (432 : Int32) dX12_slip_147 ks_432 ?_
    refine J_iadd dX12_slip_150 ?_
    refine J_iload dX12_slip_151 rfl ?_
    refine J_iadd dX12_slip_153 ?_
    obtain ⟨g28, H⟩ := gd H
    obtain ⟨g29, H⟩ := gd H
    refine J_iald dX12_slip_154 (kq c23 g28) (lq c24 g29) ?_
    refine J_bipush (97 : Int32) dX12_slip_155 kb_97 ?_
    refine J_iload_n 3 dX12_slip_157 rfl rfl ?_
    refine J_iadd dX12_slip_158 ?_
    refine J_icmp_eq 166 dX12_slip_159 rfl (fun q30 => ?_) (fun q30 => ?_)
    · replace H := br1 q30 H
      refine J_iconst (0 : Int32) dX12_slip_166 kc_0 ?_
      exact J_dr (kX12_slip_167 H ) ⟨rfl, ⟨rfl, ⟨rfl, ⟨rfl, trivial⟩⟩⟩⟩
    · replace H := br0 q30 H
      refine J_iconst (1 : Int32) dX12_slip_162 kc_1 ?_
      refine J_goto 167 dX12_slip_163 rfl ?_
      exact J_dr (kX12_slip_167 H ) ⟨rfl, ⟨rfl, ⟨rfl, ⟨rfl, trivial⟩⟩⟩⟩
  · replace H := br0 q27 H
    refine J_iconst (0 : Int32) dX12_slip_139 kc_0 ?_
    cases H
    exact J_rZ dX12_slip_140 rfl rfl
noncomputable def MX12_slip_124 (h : Hp) (v0 : Nat) (v3 : Int32) (v4 : Int32) (v5 : Int32) (s0 : Nat) : Option (Int32 × Hp) :=
  MX12_slip_129 h v0 v3 v4 v5 s0 (2 : Int32)
set_option maxRecDepth 100000 in
set_option maxHeartbeats 8000000 in
theorem kX12_slip_124 {d : Nat} {h : Hp} {v0 : Nat} {v3 : Int32} {v4 : Int32} {v5 : Int32} {s0 : Nat} {r : Int32} {h9 : Hp} (H : MX12_slip_124 h v0 v3 v4 v5 s0 = some (r, h9)) : J (d + 1) YX12_slip 124 [.ref v0, Value.null, Value.null, .int v3, .int v4, .int v5, Value.null, Value.null] [.ref s0] h (oI r) h9 := by
  unfold MX12_slip_124 at H
  refine J_iconst (2 : Int32) dX12_slip_124 kc_2 ?_
  refine J_goto 129 dX12_slip_125 rfl ?_
  exact J_dr (kX12_slip_129 H ) ⟨rfl, ⟨rfl, ⟨rfl, ⟨rfl, trivial⟩⟩⟩⟩
noncomputable def MX12_slip_107 (h : Hp) (v0 : Nat) (v3 : Int32) (v4 : Int32) (v5 : Int32) : Option (Int32 × Hp) :=
  if v5 = (-1 : Int32) then
    MX12_slip_124 h v0 v3 v4 v5 v0
  else
    Option.bind (α := Int32) (β := (Int32 × Hp)) (MX12_isIn h v3 (0 : Int32) (25 : Int32)) fun (t41 : Int32) =>
    if t41 = 0 then
      MX12_slip_124 h v0 v3 v4 v5 v0
    else
      MX12_slip_129 h v0 v3 v4 v5 v0 (0 : Int32)
set_option maxRecDepth 100000 in
set_option maxHeartbeats 8000000 in
theorem kX12_slip_107 {d : Nat} {h : Hp} {v0 : Nat} {v3 : Int32} {v4 : Int32} {v5 : Int32} {r : Int32} {h9 : Hp} (H : MX12_slip_107 h v0 v3 v4 v5 = some (r, h9)) : J (d + 1) YX12_slip 107 [.ref v0, Value.null, Value.null, .int v3, .int v4, .int v5, Value.null, Value.null] [] h (oI r) h9 := by
  unfold MX12_slip_107 at H
  refine J_aload_n 0 dX12_slip_107 rfl rfl ?_
  refine J_iload dX12_slip_108 rfl ?_
  refine J_iconst (-1 : Int32) dX12_slip_110 kc_m1 ?_
  refine J_icmp_eq 124 dX12_slip_111 rfl (fun q19 => ?_) (fun q19 => ?_)
  · replace H := br1 q19 H
    exact J_dr (kX12_slip_124 H ) ⟨rfl, ⟨rfl, ⟨rfl, ⟨rfl, trivial⟩⟩⟩⟩
  · replace H := br0 q19 H
    refine J_iload_n 3 dX12_slip_114 rfl rfl ?_
    refine J_iconst (0 : Int32) dX12_slip_115 kc_0 ?_
    refine J_bipush (25 : Int32) dX12_slip_116 kb_25 ?_
    obtain ⟨t41, e40, H⟩ := bd H
    refine J_cS (as := [.int v3, .int (0 : Int32), .int (25 : Int32)]) YX12_isIn 3 dX12_slip_118 moX12_isIn msX12_isIn mlX12_157 (okX12_isIn (d := d) e40) rfl rfl [.ref v0] rfl rfl (st2 := [.int t41, .ref v0]) rfl ?_
    refine J_if_ne 128 dX12_slip_121 rfl (fun q42 => ?_) (fun q42 => ?_)
    · replace H := br0 q42 H
      refine J_iconst (0 : Int32) dX12_slip_128 kc_0 ?_
      exact J_dr (kX12_slip_129 H ) ⟨rfl, ⟨rfl, ⟨rfl, ⟨rfl, trivial⟩⟩⟩⟩
    · replace H := br1 q42 H
      exact J_dr (kX12_slip_124 H ) ⟨rfl, ⟨rfl, ⟨rfl, ⟨rfl, trivial⟩⟩⟩⟩
noncomputable def BX12_slip_41 (h : Hp) (v0 : Nat) (v2 : Int32) (v3 : Int32) (v4 : Int32) (v5 : Int32) (v6 : Int32) (v7 : Int32) : Option ((Int32 × Int32 × Int32) ⊕ (Int32 × Hp)) :=
  gg (β := ((Int32 × Int32 × Int32) ⊕ (Int32 × Hp))) (kd h v0 = 11) <|
  gg (β := ((Int32 × Int32 × Int32) ⊕ (Int32 × Hp))) (kd h (gP h v0 1) = 20) <|
  gg (β := ((Int32 × Int32 × Int32) ⊕ (Int32 × Hp))) (inB (v4 + (9 : Int32)) (ln h (gP h v0 1)) = true) <|
  if (gI h (gP h v0 1) (v4 + (9 : Int32)).toNatClampNeg) ≤ v7 then
    up1 (MX12_slip_107 h v0 v3 v4 v5)
  else
    if v5 = (-1 : Int32) then
      if v2 < 0 then
        up1 (MX12_slip_107 h v0 v3 v4 v5)
      else
        gg (β := ((Int32 × Int32 × Int32) ⊕ (Int32 × Hp))) (inB ((v4 + (432 : Int32)) + v7) (ln h (gP h v0 1)) = true) <|
        Option.bind (α := Int32) (β := ((Int32 × Int32 × Int32) ⊕ (Int32 × Hp))) (MX12_isLetter h (gI h (gP h v0 1) ((v4 + (432 : Int32)) + v7).toNatClampNeg)) fun (t47 : Int32) =>
        if t47 = 0 then
          some (.inl (v5, v6, (v7 + (1 : Int32))))
        else
          if v6 = 0 then
            some (.inl (v7, (v6 + (-1 : Int32)), (v7 + (1 : Int32))))
          else
            some (.inl (v5, (v6 + (-1 : Int32)), (v7 + (1 : Int32))))
    else
      up1 (MX12_slip_107 h v0 v3 v4 v5)
set_option maxRecDepth 100000 in
set_option maxHeartbeats 8000000 in
theorem bX12_slip_41 {d : Nat} {h : Hp} {v0 : Nat} {v2 : Int32} {v3 : Int32} {v4 : Int32} {v5 : Int32} {v6 : Int32} {v7 : Int32} {r : Int32} {h9 : Hp} {x : ((Int32 × Int32 × Int32) ⊕ (Int32 × Hp))} (H : BX12_slip_41 h v0 v2 v3 v4 v5 v6 v7 = some x) (hb0 : ∀ s : Int32 × Int32 × Int32, x = .inl s → J (d + 1) YX12_slip 41 [.ref v0, Value.null, .int v2, .int v3, .int v4, .int s.1, .int s.2.1, .int s.2.2] [] h (oI r) h9) (hx : ∀ z : (Int32 × Hp), x = .inr (z) → z = (r, h9)) : J (d + 1) YX12_slip 41 [.ref v0, Value.null, .int v2, .int v3, .int v4, .int v5, .int v6, .int v7] [] h (oI r) h9 := by
  unfold BX12_slip_41 at H
  refine J_iload dX12_slip_41 rfl ?_
  refine J_aload_n 0 dX12_slip_43 rfl rfl ?_
  obtain ⟨g15, H⟩ := gd H
  refine J_gP 11 1 dX12_slip_44 g15 flX12_8 rfl rfl ?_
  refine J_iload dX12_slip_47 rfl ?_
  refine J_bipush (9 : Int32) dX12_slip_49 kb_9 ?_
  refine J_iadd dX12_slip_51 ?_
  obtain ⟨g16, H⟩ := gd H
  obtain ⟨g17, H⟩ := gd H
  refine J_iald dX12_slip_52 g16 (inB_ok g17) ?_
  refine J_icmp_ge 107 dX12_slip_53 rfl (fun q18 => ?_) (fun q18 => ?_)
  · replace H := br1 q18 H
    obtain ⟨y0, H90, rfl⟩ := up1_el H
    replace H := H90
    obtain rfl := hx _ rfl
    exact J_dr (kX12_slip_107 H ) ⟨rfl, ⟨rfl, ⟨rfl, ⟨rfl, trivial⟩⟩⟩⟩
  · replace H := br0 q18 H
    refine J_iload dX12_slip_56 rfl ?_
    refine J_iconst (-1 : Int32) dX12_slip_58 kc_m1 ?_
    refine J_icmp_ne 107 dX12_slip_59 rfl (fun q43 => ?_) (fun q43 => ?_)
    · replace H := br0 q43 H
      obtain ⟨y0, H90, rfl⟩ := up1_el H
      replace H := H90
      obtain rfl := hx _ rfl
      exact J_dr (kX12_slip_107 H ) ⟨rfl, ⟨rfl, ⟨rfl, ⟨rfl, trivial⟩⟩⟩⟩
    · replace H := br1 q43 H
      refine J_iload_n 2 dX12_slip_62 rfl rfl ?_
      refine J_if_lt 107 dX12_slip_63 rfl (fun q44 => ?_) (fun q44 => ?_)
      · replace H := br1 q44 H
        obtain ⟨y0, H90, rfl⟩ := up1_el H
        replace H := H90
        obtain rfl := hx _ rfl
        exact J_dr (kX12_slip_107 H ) ⟨rfl, ⟨rfl, ⟨rfl, ⟨rfl, trivial⟩⟩⟩⟩
      · replace H := br0 q44 H
        refine J_aload_n 0 dX12_slip_66 rfl rfl ?_
        refine J_gP 11 1 dX12_slip_67 g15 flX12_8 rfl rfl ?_
        refine J_iload dX12_slip_70 rfl ?_
        refine J_sipush (432 : Int32) dX12_slip_72 ks_432 ?_
        refine J_iadd dX12_slip_75 ?_
        refine J_iload dX12_slip_76 rfl ?_
        refine J_iadd dX12_slip_78 ?_
        obtain ⟨g45, H⟩ := gd H
        refine J_iald dX12_slip_79 g16 (inB_ok g45) ?_
        obtain ⟨t47, e46, H⟩ := bd H
        refine J_cS (as := [.int (gI h (gP h v0 1) ((v4 + (432 : Int32)) + v7).toNatClampNeg)]) YX12_isLetter 1 dX12_slip_80 moX12_isLetter msX12_isLetter mlX12_143 (okX12_isLetter (d := d) e46) rfl rfl [] rfl rfl (st2 := [.int t47]) rfl ?_
        refine J_if_ne 89 dX12_slip_83 rfl (fun q48 => ?_) (fun q48 => ?_)
        · replace H := br0 q48 H
          refine J_iload dX12_slip_89 rfl ?_
          refine J_if_ne 98 dX12_slip_91 rfl (fun q49 => ?_) (fun q49 => ?_)
          · replace H := br0 q49 H
            refine J_iinc (v6 + (-1 : Int32)) dX12_slip_98 rfl (congrArg (HAdd.hAdd v6) kc_m1) (by decide) (ls' := [.ref v0, Value.null, .int v2, .int v3, .int v4, .int v5, .int (v6 + (-1 : Int32)), .int v7]) rfl ?_
            refine J_iinc (v7 + (1 : Int32)) dX12_slip_101 rfl (congrArg (HAdd.hAdd v7) kc_1) (by decide) (ls' := [.ref v0, Value.null, .int v2, .int v3, .int v4, .int v5, .int (v6 + (-1 : Int32)), .int (v7 + (1 : Int32))]) rfl ?_
            refine J_goto 41 dX12_slip_104 rfl ?_
            cases H
            exact J_dr (hb0 _ rfl) ⟨rfl, ⟨rfl, ⟨rfl, ⟨rfl, ⟨rfl, ⟨rfl, ⟨rfl, trivial⟩⟩⟩⟩⟩⟩⟩
          · replace H := br1 q49 H
            refine J_iload dX12_slip_94 rfl ?_
            refine J_istore dX12_slip_96 (by decide) (ls' := [.ref v0, Value.null, .int v2, .int v3, .int v4, .int v7, .int v6, .int v7]) rfl ?_
            refine J_iinc (v6 + (-1 : Int32)) dX12_slip_98 rfl (congrArg (HAdd.hAdd v6) kc_m1) (by decide) (ls' := [.ref v0, Value.null, .int v2, .int v3, .int v4, .int v7, .int (v6 + (-1 : Int32)), .int v7]) rfl ?_
            refine J_iinc (v7 + (1 : Int32)) dX12_slip_101 rfl (congrArg (HAdd.hAdd v7) kc_1) (by decide) (ls' := [.ref v0, Value.null, .int v2, .int v3, .int v4, .int v7, .int (v6 + (-1 : Int32)), .int (v7 + (1 : Int32))]) rfl ?_
            refine J_goto 41 dX12_slip_104 rfl ?_
            cases H
            exact J_dr (hb0 _ rfl) ⟨rfl, ⟨rfl, ⟨rfl, ⟨rfl, ⟨rfl, ⟨rfl, ⟨rfl, trivial⟩⟩⟩⟩⟩⟩⟩
        · replace H := br1 q48 H
          refine J_goto 101 dX12_slip_86 rfl ?_
          refine J_iinc (v7 + (1 : Int32)) dX12_slip_101 rfl (congrArg (HAdd.hAdd v7) kc_1) (by decide) (ls' := [.ref v0, Value.null, .int v2, .int v3, .int v4, .int v5, .int v6, .int (v7 + (1 : Int32))]) rfl ?_
          refine J_goto 41 dX12_slip_104 rfl ?_
          cases H
          exact J_dr (hb0 _ rfl) ⟨rfl, ⟨rfl, ⟨rfl, ⟨rfl, ⟨rfl, ⟨rfl, ⟨rfl, trivial⟩⟩⟩⟩⟩⟩⟩
noncomputable def MX12_slip_41 (h : Hp) (v0 : Nat) (v2 : Int32) (v3 : Int32) (v4 : Int32) (v5 : Int32) (v6 : Int32) (v7 : Int32) : Option (Int32 × Hp) := it (fun q : Int32 × Int32 × Int32 => BX12_slip_41 h v0 v2 v3 v4 q.1 q.2.1 q.2.2) (v5, v6, v7)
set_option maxRecDepth 100000 in
set_option maxHeartbeats 8000000 in
theorem kX12_slip_41 {d : Nat} {h : Hp} {v0 : Nat} {v2 : Int32} {v3 : Int32} {v4 : Int32} {v5 : Int32} {v6 : Int32} {v7 : Int32} {r : Int32} {h9 : Hp} (H : MX12_slip_41 h v0 v2 v3 v4 v5 v6 v7 = some (r, h9)) : J (d + 1) YX12_slip 41 [.ref v0, Value.null, .int v2, .int v3, .int v4, .int v5, .int v6, .int v7] [] h (oI r) h9 := by
  unfold MX12_slip_41 at H
  refine it_J (G := (fun q : Int32 × Int32 × Int32 => J (d + 1) YX12_slip 41 [.ref v0, Value.null, .int v2, .int v3, .int v4, .int q.1, .int q.2.1, .int q.2.2] [] h (oI r) h9)) (Q := (fun y : (Int32 × Hp) => y = (r, h9))) (fun q x Hq hm => ?_) H rfl
  exact bX12_slip_41 Hq (fun s hs => by subst hs; exact hm) (fun z hz => by subst hz; exact hm)
noncomputable def MX12_slip_14 (h : Hp) (v0 : Nat) (v1 : Int32) (v2 : Int32) (v3 : Int32) (s0 : Nat) (s1 : Int32) : Option (Int32 × Hp) :=
  gg (β := (Int32 × Hp)) (kd h s0 = 11) <|
  lt (α := Hp) (β := Option (Int32 × Hp)) (sI h s0 0 s1) fun (h6 : Hp) =>
  gg (β := (Int32 × Hp)) (kd h v0 = 11) <|
  if (gI h6 v0 0) ≤ 0 then
    Option.bind (α := Int32) (β := (Int32 × Hp)) (MX12_slug0 h6 v1) fun (t14 : Int32) =>
    MX12_slip_41 h6 v0 v2 v3 t14 (-1 : Int32) v2 (0 : Int32)
  else
    some ((0 : Int32), h6)
set_option maxRecDepth 100000 in
set_option maxHeartbeats 8000000 in
theorem kX12_slip_14 {d : Nat} {h : Hp} {v0 : Nat} {v1 : Int32} {v2 : Int32} {v3 : Int32} {s0 : Nat} {s1 : Int32} {r : Int32} {h9 : Hp} (H : MX12_slip_14 h v0 v1 v2 v3 s0 s1 = some (r, h9)) : J (d + 1) YX12_slip 14 [.ref v0, .int v1, .int v2, .int v3, Value.null, Value.null, Value.null, Value.null] [.int s1, .ref s0] h (oI r) h9 := by
  unfold MX12_slip_14 at H
  obtain ⟨g5, H⟩ := gd H
  obtain ⟨h6, e7, H⟩ := lt_el H
  refine J_pI 11 0 dX12_slip_14 g5 flX12_122 rfl rfl e7 ?_
  have c8 := ekI e7
  have c9 := elI e7
  have c10 := epI e7
  refine J_aload_n 0 dX12_slip_17 rfl rfl ?_
  obtain ⟨g11, H⟩ := gd H
  refine J_getI 11 0 dX12_slip_18 (kq c8 g11) flX12_122 rfl ?_
  refine J_if_le 26 dX12_slip_21 rfl (fun q12 => ?_) (fun q12 => ?_)
  · replace H := br1 q12 H
    refine J_iload_n 1 dX12_slip_26 rfl rfl ?_
    obtain ⟨t14, e13, H⟩ := bd H
    refine J_cS (as := [.int v1]) YX12_slug0 1 dX12_slip_27 moX12_slug0 msX12_slug0 mlX12_342 (okX12_slug0 (d := d) e13) rfl rfl [] rfl rfl (st2 := [.int t14]) rfl ?_
    refine J_istore dX12_slip_30 (by decide) (ls' := [.ref v0, .int v1, .int v2, .int v3, .int t14, Value.null, Value.null, Value.null]) rfl ?_
    refine J_iconst (-1 : Int32) dX12_slip_32 kc_m1 ?_
    refine J_istore dX12_slip_33 (by decide) (ls' := [.ref v0, .int v1, .int v2, .int v3, .int t14, .int (-1 : Int32), Value.null, Value.null]) rfl ?_
    refine J_iload_n 2 dX12_slip_35 rfl rfl ?_
    refine J_istore dX12_slip_36 (by decide) (ls' := [.ref v0, .int v1, .int v2, .int v3, .int t14, .int (-1 : Int32), .int v2, Value.null]) rfl ?_
    refine J_iconst (0 : Int32) dX12_slip_38 kc_0 ?_
    refine J_istore dX12_slip_39 (by decide) (ls' := [.ref v0, .int v1, .int v2, .int v3, .int t14, .int (-1 : Int32), .int v2, .int (0 : Int32)]) rfl ?_
    exact J_dr (kX12_slip_41 H ) ⟨rfl, ⟨rfl, ⟨rfl, ⟨rfl, ⟨rfl, ⟨rfl, ⟨rfl, trivial⟩⟩⟩⟩⟩⟩⟩
  · replace H := br0 q12 H
    refine J_iconst (0 : Int32) dX12_slip_24 kc_0 ?_
    cases H
    exact J_rZ dX12_slip_25 rfl rfl
noncomputable def MX12_slip (h : Hp) (v0 : Nat) (v1 : Int32) (v2 : Int32) (v3 : Int32) : Option (Int32 × Hp) :=
  gg (β := (Int32 × Hp)) (kd h v0 = 11) <|
  Option.bind (α := Int32) (β := (Int32 × Hp)) (MX12_isSlug h v0 v1) fun (t3 : Int32) =>
  if t3 = 0 then
    MX12_slip_14 h v0 v1 v2 v3 v0 (1 : Int32)
  else
    MX12_slip_14 h v0 v1 v2 v3 v0 (0 : Int32)
set_option maxRecDepth 100000 in
set_option maxHeartbeats 8000000 in
theorem eX12_slip {d : Nat} {h : Hp} {v0 : Nat} {v1 : Int32} {v2 : Int32} {v3 : Int32} {r : Int32} {h9 : Hp} (H : MX12_slip h v0 v1 v2 v3 = some (r, h9)) : J (d + 1) YX12_slip 0 [.ref v0, .int v1, .int v2, .int v3, Value.null, Value.null, Value.null, Value.null] [] h (oI r) h9 := by
  unfold MX12_slip at H
  refine J_aload_n 0 dX12_slip_0 rfl rfl ?_
  refine J_aload_n 0 dX12_slip_1 rfl rfl ?_
  refine J_iload_n 1 dX12_slip_2 rfl rfl ?_
  obtain ⟨g2, H⟩ := gd H
  obtain ⟨t3, e1, H⟩ := bd H
  refine J_cV (as := [.int v1]) 11 YX12_isSlug 1 dX12_slip_3 moX12_isSlug mvX12_isSlug mlX12_396 g2 rfl rfl (okX12_isSlug (d := d) e1) rfl rfl [.ref v0] rfl rfl (st2 := [.int t3, .ref v0]) rfl ?_
  refine J_if_ne 13 dX12_slip_6 rfl (fun q4 => ?_) (fun q4 => ?_)
  · replace H := br0 q4 H
    refine J_iconst (0 : Int32) dX12_slip_13 kc_0 ?_
    exact J_dr (kX12_slip_14 H ) ⟨rfl, ⟨rfl, ⟨rfl, ⟨rfl, trivial⟩⟩⟩⟩
  · replace H := br1 q4 H
    refine J_iconst (1 : Int32) dX12_slip_9 kc_1 ?_
    refine J_goto 14 dX12_slip_10 rfl ?_
    exact J_dr (kX12_slip_14 H ) ⟨rfl, ⟨rfl, ⟨rfl, ⟨rfl, trivial⟩⟩⟩⟩
theorem okX12_slip {d : Nat} {h : Hp} {v0 : Nat} {v1 : Int32} {v2 : Int32} {v3 : Int32} {r : Int32} {h9 : Hp} (H : MX12_slip h v0 v1 v2 v3 = some (r, h9)) : CT (d + 1) YX12_slip [.ref v0, .int v1, .int v2, .int v3] h (oI r) h9 := CT_of (by decide +kernel) (Nat.le_of_ble_eq_true rfl) (eX12_slip H)
noncomputable def MX12_slug_28 (h : Hp) (v0 : Nat) (v1 : Int32) (v2 : Int32) (s0 : Nat) (s1 : Int32) : Option (Int32 × Hp) :=
  gg (β := (Int32 × Hp)) (kd h s0 = 11) <|
  lt (α := Hp) (β := Option (Int32 × Hp)) (sI h s0 0 s1) fun (h9 : Hp) =>
  gg (β := (Int32 × Hp)) (kd h v0 = 11) <|
  if (gI h9 v0 0) ≤ 0 then
    Option.bind (α := Int32) (β := (Int32 × Hp)) (MX12_slug0 h9 v1) fun (t17 : Int32) =>
    if v2 = (8 : Int32) then
      Option.bind (α := Int32) (β := (Int32 × Hp)) (MX12_isWrong h9 v0 v1) fun (t34 : Int32) =>
      if t34 = 0 then
        some ((0 : Int32), h9)
      else
        some ((1 : Int32), h9)
    else
      if (5 : Int32) ≤ v2 then
        if v2 = (5 : Int32) then
          gg (β := (Int32 × Hp)) (kd h (gP h v0 1) = 20) <|
          gg (β := (Int32 × Hp)) (inB (t17 + (5 : Int32)) (ln h (gP h v0 1)) = true) <|
          some ((gI h9 (gP h v0 1) (t17 + (5 : Int32)).toNatClampNeg), h9)
        else
          if v2 = (6 : Int32) then
            gg (β := (Int32 × Hp)) (kd h (gP h v0 1) = 20) <|
            gg (β := (Int32 × Hp)) (inB (t17 + (6 : Int32)) (ln h (gP h v0 1)) = true) <|
            some ((gI h9 (gP h v0 1) (t17 + (6 : Int32)).toNatClampNeg), h9)
          else
            if v2 = (7 : Int32) then
              gg (β := (Int32 × Hp)) (kd h (gP h v0 1) = 20) <|
              gg (β := (Int32 × Hp)) (inB (t17 + (7 : Int32)) (ln h (gP h v0 1)) = true) <|
              some ((gI h9 (gP h v0 1) (t17 + (7 : Int32)).toNatClampNeg), h9)
            else
              gg (β := (Int32 × Hp)) (kd h (gP h v0 1) = 20) <|
              gg (β := (Int32 × Hp)) (inB (t17 + (8 : Int32)) (ln h (gP h v0 1)) = true) <|
              some ((gI h9 (gP h v0 1) (t17 + (8 : Int32)).toNatClampNeg), h9)
      else
        gg (β := (Int32 × Hp)) (kd h (gP h v0 1) = 20) <|
        gg (β := (Int32 × Hp)) (inB (t17 + v2) (ln h (gP h v0 1)) = true) <|
        some ((gI h9 (gP h v0 1) (t17 + v2).toNatClampNeg), h9)
  else
    some ((0 : Int32), h9)
set_option maxRecDepth 100000 in
set_option maxHeartbeats 8000000 in
theorem kX12_slug_28 {d : Nat} {h : Hp} {v0 : Nat} {v1 : Int32} {v2 : Int32} {s0 : Nat} {s1 : Int32} {r : Int32} {h9 : Hp} (H : MX12_slug_28 h v0 v1 v2 s0 s1 = some (r, h9)) : J (d + 2) YX12_slug 28 [.ref v0, .int v1, .int v2, Value.null] [.int s1, .ref s0] h (oI r) h9 := by
  unfold MX12_slug_28 at H
  obtain ⟨g8, H⟩ := gd H
  obtain ⟨h9, e10, H⟩ := lt_el H
  refine J_pI 11 0 dX12_slug_28 g8 flX12_122 rfl rfl e10 ?_
  have c11 := ekI e10
  have c12 := elI e10
  have c13 := epI e10
  refine J_aload_n 0 dX12_slug_31 rfl rfl ?_
  obtain ⟨g14, H⟩ := gd H
  refine J_getI 11 0 dX12_slug_32 (kq c11 g14) flX12_122 rfl ?_
  refine J_if_le 40 dX12_slug_35 rfl (fun q15 => ?_) (fun q15 => ?_)
  · replace H := br1 q15 H
    refine J_iload_n 1 dX12_slug_40 rfl rfl ?_
    obtain ⟨t17, e16, H⟩ := bd H
    refine J_cS (as := [.int v1]) YX12_slug0 1 dX12_slug_41 moX12_slug0 msX12_slug0 mlX12_342 (okX12_slug0 (d := d + 1) e16) rfl rfl [] rfl rfl (st2 := [.int t17]) rfl ?_
    refine J_istore_n 3 dX12_slug_44 rfl (by decide) (ls' := [.ref v0, .int v1, .int v2, .int t17]) rfl ?_
    refine J_iload_n 2 dX12_slug_45 rfl rfl ?_
    refine J_bipush (8 : Int32) dX12_slug_46 kb_8 ?_
    refine J_icmp_ne 65 dX12_slug_48 rfl (fun q18 => ?_) (fun q18 => ?_)
    · replace H := br0 q18 H
      refine J_iload_n 2 dX12_slug_65 rfl rfl ?_
      refine J_iconst (5 : Int32) dX12_slug_66 kc_5 ?_
      refine J_icmp_ge 81 dX12_slug_67 rfl (fun q19 => ?_) (fun q19 => ?_)
      · replace H := br1 q19 H
        refine J_iload_n 2 dX12_slug_81 rfl rfl ?_
        refine J_iconst (5 : Int32) dX12_slug_82 kc_5 ?_
        refine J_icmp_ne 97 dX12_slug_83 rfl (fun q20 => ?_) (fun q20 => ?_)
        · replace H := br0 q20 H
          refine J_iload_n 2 dX12_slug_97 rfl rfl ?_
          refine J_bipush (6 : Int32) dX12_slug_98 kb_6 ?_
          refine J_icmp_ne 115 dX12_slug_100 rfl (fun q21 => ?_) (fun q21 => ?_)
          · replace H := br0 q21 H
            refine J_iload_n 2 dX12_slug_115 rfl rfl ?_
            refine J_bipush (7 : Int32) dX12_slug_116 kb_7 ?_
            refine J_icmp_ne 133 dX12_slug_118 rfl (fun q22 => ?_) (fun q22 => ?_)
            · replace H := br0 q22 H
              refine J_aload_n 0 dX12_slug_133 rfl rfl ?_
              refine J_gP 11 1 dX12_slug_134 (kq c11 g14) flX12_8 rfl (congrFun (congrFun c13 v0) 1) ?_
              refine J_iload_n 3 dX12_slug_137 rfl rfl ?_
              refine J_bipush (8 : Int32) dX12_slug_138 kb_8 ?_
              refine J_iadd dX12_slug_140 ?_
              obtain ⟨g23, H⟩ := gd H
              obtain ⟨g24, H⟩ := gd H
              refine J_iald dX12_slug_141 (kq c11 g23) (lq c12 g24) ?_
              cases H
              exact J_iretI dX12_slug_142 rfl
            · replace H := br1 q22 H
              refine J_aload_n 0 dX12_slug_121 rfl rfl ?_
              refine J_gP 11 1 dX12_slug_122 (kq c11 g14) flX12_8 rfl (congrFun (congrFun c13 v0) 1) ?_
              refine J_iload_n 3 dX12_slug_125 rfl rfl ?_
              refine J_bipush (7 : Int32) dX12_slug_126 kb_7 ?_
              refine J_iadd dX12_slug_128 ?_
              obtain ⟨g25, H⟩ := gd H
              obtain ⟨g26, H⟩ := gd H
              refine J_iald dX12_slug_129 (kq c11 g25) (lq c12 g26) ?_
              refine J_goto 142 dX12_slug_130 rfl ?_
              cases H
              exact J_iretI dX12_slug_142 rfl
          · replace H := br1 q21 H
            refine J_aload_n 0 dX12_slug_103 rfl rfl ?_
            refine J_gP 11 1 dX12_slug_104 (kq c11 g14) flX12_8 rfl (congrFun (congrFun c13 v0) 1) ?_
            refine J_iload_n 3 dX12_slug_107 rfl rfl ?_
            refine J_bipush (6 : Int32) dX12_slug_108 kb_6 ?_
            refine J_iadd dX12_slug_110 ?_
            obtain ⟨g27, H⟩ := gd H
            obtain ⟨g28, H⟩ := gd H
            refine J_iald dX12_slug_111 (kq c11 g27) (lq c12 g28) ?_
            refine J_goto 142 dX12_slug_112 rfl ?_
            cases H
            exact J_iretI dX12_slug_142 rfl
        · replace H := br1 q20 H
          refine J_aload_n 0 dX12_slug_86 rfl rfl ?_
          refine J_gP 11 1 dX12_slug_87 (kq c11 g14) flX12_8 rfl (congrFun (congrFun c13 v0) 1) ?_
          refine J_iload_n 3 dX12_slug_90 rfl rfl ?_
          refine J_iconst (5 : Int32) dX12_slug_91 kc_5 ?_
          refine J_iadd dX12_slug_92 ?_
          obtain ⟨g29, H⟩ := gd H
          obtain ⟨g30, H⟩ := gd H
          refine J_iald dX12_slug_93 (kq c11 g29) (lq c12 g30) ?_
          refine J_goto 142 dX12_slug_94 rfl ?_
          cases H
          exact J_iretI dX12_slug_142 rfl
      · replace H := br0 q19 H
        refine J_aload_n 0 dX12_slug_70 rfl rfl ?_
        refine J_gP 11 1 dX12_slug_71 (kq c11 g14) flX12_8 rfl (congrFun (congrFun c13 v0) 1) ?_
        refine J_iload_n 3 dX12_slug_74 rfl rfl ?_
        refine J_iload_n 2 dX12_slug_75 rfl rfl ?_
        refine J_iadd dX12_slug_76 ?_
        obtain ⟨g31, H⟩ := gd H
        obtain ⟨g32, H⟩ := gd H
        refine J_iald dX12_slug_77 (kq c11 g31) (lq c12 g32) ?_
        refine J_goto 142 dX12_slug_78 rfl ?_
        cases H
        exact J_iretI dX12_slug_142 rfl
    · replace H := br1 q18 H
      refine J_aload_n 0 dX12_slug_51 rfl rfl ?_
      refine J_iload_n 1 dX12_slug_52 rfl rfl ?_
      obtain ⟨t34, e33, H⟩ := bd H
      refine J_cV (as := [.int v1]) 11 YX12_isWrong 1 dX12_slug_53 moX12_isWrong mvX12_isWrong mlX12_399 (kq c11 g14) rfl rfl (okX12_isWrong (d := d) e33) rfl rfl [] rfl rfl (st2 := [.int t34]) rfl ?_
      refine J_if_eq 63 dX12_slug_56 rfl (fun q35 => ?_) (fun q35 => ?_)
      · replace H := br1 q35 H
        refine J_iconst (0 : Int32) dX12_slug_63 kc_0 ?_
        cases H
        exact J_iretI dX12_slug_64 rfl
      · replace H := br0 q35 H
        refine J_iconst (1 : Int32) dX12_slug_59 kc_1 ?_
        refine J_goto 64 dX12_slug_60 rfl ?_
        cases H
        exact J_iretI dX12_slug_64 rfl
  · replace H := br0 q15 H
    refine J_iconst (0 : Int32) dX12_slug_38 kc_0 ?_
    cases H
    exact J_iretI dX12_slug_39 rfl
noncomputable def MX12_slug (h : Hp) (v0 : Nat) (v1 : Int32) (v2 : Int32) : Option (Int32 × Hp) :=
  gg (β := (Int32 × Hp)) (kd h v0 = 11) <|
  Option.bind (α := Int32) (β := (Int32 × Hp)) (MX12_isSlug h v0 v1) fun (t3 : Int32) =>
  if t3 = 0 then
    MX12_slug_28 h v0 v1 v2 v0 (1 : Int32)
  else
    Option.bind (α := Int32) (β := (Int32 × Hp)) (MX12_isIn h v2 (0 : Int32) (9 : Int32)) fun (t6 : Int32) =>
    if t6 = 0 then
      MX12_slug_28 h v0 v1 v2 v0 (2 : Int32)
    else
      MX12_slug_28 h v0 v1 v2 v0 (0 : Int32)
set_option maxRecDepth 100000 in
set_option maxHeartbeats 8000000 in
theorem eX12_slug {d : Nat} {h : Hp} {v0 : Nat} {v1 : Int32} {v2 : Int32} {r : Int32} {h9 : Hp} (H : MX12_slug h v0 v1 v2 = some (r, h9)) : J (d + 2) YX12_slug 0 [.ref v0, .int v1, .int v2, Value.null] [] h (oI r) h9 := by
  unfold MX12_slug at H
  refine J_aload_n 0 dX12_slug_0 rfl rfl ?_
  refine J_aload_n 0 dX12_slug_1 rfl rfl ?_
  refine J_iload_n 1 dX12_slug_2 rfl rfl ?_
  obtain ⟨g2, H⟩ := gd H
  obtain ⟨t3, e1, H⟩ := bd H
  refine J_cV (as := [.int v1]) 11 YX12_isSlug 1 dX12_slug_3 moX12_isSlug mvX12_isSlug mlX12_396 g2 rfl rfl (okX12_isSlug (d := d + 1) e1) rfl rfl [.ref v0] rfl rfl (st2 := [.int t3, .ref v0]) rfl ?_
  refine J_if_ne 13 dX12_slug_6 rfl (fun q4 => ?_) (fun q4 => ?_)
  · replace H := br0 q4 H
    refine J_iload_n 2 dX12_slug_13 rfl rfl ?_
    refine J_iconst (0 : Int32) dX12_slug_14 kc_0 ?_
    refine J_bipush (9 : Int32) dX12_slug_15 kb_9 ?_
    obtain ⟨t6, e5, H⟩ := bd H
    refine J_cS (as := [.int v2, .int (0 : Int32), .int (9 : Int32)]) YX12_isIn 3 dX12_slug_17 moX12_isIn msX12_isIn mlX12_157 (okX12_isIn (d := d + 1) e5) rfl rfl [.ref v0] rfl rfl (st2 := [.int t6, .ref v0]) rfl ?_
    refine J_if_ne 27 dX12_slug_20 rfl (fun q7 => ?_) (fun q7 => ?_)
    · replace H := br0 q7 H
      refine J_iconst (0 : Int32) dX12_slug_27 kc_0 ?_
      exact J_dr (kX12_slug_28 H ) ⟨rfl, ⟨rfl, ⟨rfl, trivial⟩⟩⟩
    · replace H := br1 q7 H
      refine J_iconst (2 : Int32) dX12_slug_23 kc_2 ?_
      refine J_goto 28 dX12_slug_24 rfl ?_
      exact J_dr (kX12_slug_28 H ) ⟨rfl, ⟨rfl, ⟨rfl, trivial⟩⟩⟩
  · replace H := br1 q4 H
    refine J_iconst (1 : Int32) dX12_slug_9 kc_1 ?_
    refine J_goto 28 dX12_slug_10 rfl ?_
    exact J_dr (kX12_slug_28 H ) ⟨rfl, ⟨rfl, ⟨rfl, trivial⟩⟩⟩
theorem okX12_slug {d : Nat} {h : Hp} {v0 : Nat} {v1 : Int32} {v2 : Int32} {r : Int32} {h9 : Hp} (H : MX12_slug h v0 v1 v2 = some (r, h9)) : CT (d + 2) YX12_slug [.ref v0, .int v1, .int v2] h (oI r) h9 := CT_of (by decide +kernel) (Nat.le_of_ble_eq_true rfl) (eX12_slug H)
noncomputable def MX12_stands_21 (h : Hp) (v0 : Nat) (v1 : Int32) (v2 : Int32) (v3 : Int32) (s0 : Nat) (s1 : Int32) : Option (Int32 × Hp) :=
  gg (β := (Int32 × Hp)) (kd h s0 = 11) <|
  lt (α := Hp) (β := Option (Int32 × Hp)) (sI h s0 0 s1) fun (h5 : Hp) =>
  gg (β := (Int32 × Hp)) (kd h v0 = 11) <|
  if (gI h5 v0 0) ≤ 0 then
    Option.bind (α := Int32) (β := (Int32 × Hp)) (MX12_slugsOn h5 v0 v1 v2) fun (t13 : Int32) =>
    Option.bind (α := Int32) (β := (Int32 × Hp)) (MX12_isIn h5 v3 (0 : Int32) (t13 - (1 : Int32))) fun (t15 : Int32) =>
    if t15 = 0 then
      some ((-1 : Int32), h5)
    else
      Option.bind (α := Int32) (β := (Int32 × Hp)) (MX12_slugOn h5 v0 v1 v2 v3) fun (t18 : Int32) =>
      some (t18, h5)
  else
    some ((0 : Int32), h5)
set_option maxRecDepth 100000 in
set_option maxHeartbeats 8000000 in
theorem kX12_stands_21 {d : Nat} {h : Hp} {v0 : Nat} {v1 : Int32} {v2 : Int32} {v3 : Int32} {s0 : Nat} {s1 : Int32} {r : Int32} {h9 : Hp} (H : MX12_stands_21 h v0 v1 v2 v3 s0 s1 = some (r, h9)) : J (d + 2) YX12_stands 21 [.ref v0, .int v1, .int v2, .int v3] [.int s1, .ref s0] h (oI r) h9 := by
  unfold MX12_stands_21 at H
  obtain ⟨g4, H⟩ := gd H
  obtain ⟨h5, e6, H⟩ := lt_el H
  refine J_pI 11 0 dX12_stands_21 g4 flX12_122 rfl rfl e6 ?_
  have c7 := ekI e6
  have c8 := elI e6
  have c9 := epI e6
  refine J_aload_n 0 dX12_stands_24 rfl rfl ?_
  obtain ⟨g10, H⟩ := gd H
  refine J_getI 11 0 dX12_stands_25 (kq c7 g10) flX12_122 rfl ?_
  refine J_if_le 33 dX12_stands_28 rfl (fun q11 => ?_) (fun q11 => ?_)
  · replace H := br1 q11 H
    refine J_iload_n 3 dX12_stands_33 rfl rfl ?_
    refine J_iconst (0 : Int32) dX12_stands_34 kc_0 ?_
    refine J_aload_n 0 dX12_stands_35 rfl rfl ?_
    refine J_iload_n 1 dX12_stands_36 rfl rfl ?_
    refine J_iload_n 2 dX12_stands_37 rfl rfl ?_
    obtain ⟨t13, e12, H⟩ := bd H
    refine J_cV (as := [.int v1, .int v2]) 11 YX12_slugsOn 2 dX12_stands_38 moX12_slugsOn mvX12_slugsOn mlX12_449 (kq c7 g10) rfl rfl (okX12_slugsOn (d := d) e12) rfl rfl [.int (0 : Int32), .int v3] rfl rfl (st2 := [.int t13, .int (0 : Int32), .int v3]) rfl ?_
    refine J_iconst (1 : Int32) dX12_stands_41 kc_1 ?_
    refine J_isub dX12_stands_42 ?_
    obtain ⟨t15, e14, H⟩ := bd H
    refine J_cS (as := [.int v3, .int (0 : Int32), .int (t13 - (1 : Int32))]) YX12_isIn 3 dX12_stands_43 moX12_isIn msX12_isIn mlX12_157 (okX12_isIn (d := d + 1) e14) rfl rfl [] rfl rfl (st2 := [.int t15]) rfl ?_
    refine J_if_eq 59 dX12_stands_46 rfl (fun q16 => ?_) (fun q16 => ?_)
    · replace H := br1 q16 H
      refine J_iconst (-1 : Int32) dX12_stands_59 kc_m1 ?_
      cases H
      exact J_iretI dX12_stands_60 rfl
    · replace H := br0 q16 H
      refine J_aload_n 0 dX12_stands_49 rfl rfl ?_
      refine J_iload_n 1 dX12_stands_50 rfl rfl ?_
      refine J_iload_n 2 dX12_stands_51 rfl rfl ?_
      refine J_iload_n 3 dX12_stands_52 rfl rfl ?_
      obtain ⟨t18, e17, H⟩ := bd H
      refine J_cV (as := [.int v1, .int v2, .int v3]) 11 YX12_slugOn 3 dX12_stands_53 moX12_slugOn mvX12_slugOn mlX12_452 (kq c7 g10) rfl rfl (okX12_slugOn (d := d) e17) rfl rfl [] rfl rfl (st2 := [.int t18]) rfl ?_
      refine J_goto 60 dX12_stands_56 rfl ?_
      cases H
      exact J_iretI dX12_stands_60 rfl
  · replace H := br0 q11 H
    refine J_iconst (0 : Int32) dX12_stands_31 kc_0 ?_
    cases H
    exact J_iretI dX12_stands_32 rfl
noncomputable def MX12_stands_16 (h : Hp) (v0 : Nat) (v1 : Int32) (v2 : Int32) (v3 : Int32) (s0 : Nat) : Option (Int32 × Hp) :=
  MX12_stands_21 h v0 v1 v2 v3 s0 (1 : Int32)
set_option maxRecDepth 100000 in
set_option maxHeartbeats 8000000 in
theorem kX12_stands_16 {d : Nat} {h : Hp} {v0 : Nat} {v1 : Int32} {v2 : Int32} {v3 : Int32} {s0 : Nat} {r : Int32} {h9 : Hp} (H : MX12_stands_16 h v0 v1 v2 v3 s0 = some (r, h9)) : J (d + 2) YX12_stands 16 [.ref v0, .int v1, .int v2, .int v3] [.ref s0] h (oI r) h9 := by
  unfold MX12_stands_16 at H
  refine J_iconst (1 : Int32) dX12_stands_16 kc_1 ?_
  refine J_goto 21 dX12_stands_17 rfl ?_
  exact J_dr (kX12_stands_21 H ) ⟨rfl, ⟨rfl, ⟨rfl, ⟨rfl, trivial⟩⟩⟩⟩
noncomputable def MX12_stands (h : Hp) (v0 : Nat) (v1 : Int32) (v2 : Int32) (v3 : Int32) : Option (Int32 × Hp) :=
  Option.bind (α := Int32) (β := (Int32 × Hp)) (MX12_isPage h v1) fun (t2 : Int32) =>
  if t2 = 0 then
    MX12_stands_16 h v0 v1 v2 v3 v0
  else
    gg (β := (Int32 × Hp)) (kd h v0 = 11) <|
    Option.bind (α := Int32) (β := (Int32 × Hp)) (MX12_isEdition h v0 v2) fun (t21 : Int32) =>
    if t21 = 0 then
      MX12_stands_16 h v0 v1 v2 v3 v0
    else
      MX12_stands_21 h v0 v1 v2 v3 v0 (0 : Int32)
set_option maxRecDepth 100000 in
set_option maxHeartbeats 8000000 in
theorem eX12_stands {d : Nat} {h : Hp} {v0 : Nat} {v1 : Int32} {v2 : Int32} {v3 : Int32} {r : Int32} {h9 : Hp} (H : MX12_stands h v0 v1 v2 v3 = some (r, h9)) : J (d + 2) YX12_stands 0 [.ref v0, .int v1, .int v2, .int v3] [] h (oI r) h9 := by
  unfold MX12_stands at H
  refine J_aload_n 0 dX12_stands_0 rfl rfl ?_
  refine J_iload_n 1 dX12_stands_1 rfl rfl ?_
  obtain ⟨t2, e1, H⟩ := bd H
  refine J_cS (as := [.int v1]) YX12_isPage 1 dX12_stands_2 moX12_isPage msX12_isPage mlX12_418 (okX12_isPage (d := d + 1) e1) rfl rfl [.ref v0] rfl rfl (st2 := [.int t2, .ref v0]) rfl ?_
  refine J_if_eq 16 dX12_stands_5 rfl (fun q3 => ?_) (fun q3 => ?_)
  · replace H := br1 q3 H
    exact J_dr (kX12_stands_16 H ) ⟨rfl, ⟨rfl, ⟨rfl, ⟨rfl, trivial⟩⟩⟩⟩
  · replace H := br0 q3 H
    refine J_aload_n 0 dX12_stands_8 rfl rfl ?_
    refine J_iload_n 2 dX12_stands_9 rfl rfl ?_
    obtain ⟨g20, H⟩ := gd H
    obtain ⟨t21, e19, H⟩ := bd H
    refine J_cV (as := [.int v2]) 11 YX12_isEdition 1 dX12_stands_10 moX12_isEdition mvX12_isEdition mlX12_446 g20 rfl rfl (okX12_isEdition (d := d) e19) rfl rfl [.ref v0] rfl rfl (st2 := [.int t21, .ref v0]) rfl ?_
    refine J_if_ne 20 dX12_stands_13 rfl (fun q22 => ?_) (fun q22 => ?_)
    · replace H := br0 q22 H
      refine J_iconst (0 : Int32) dX12_stands_20 kc_0 ?_
      exact J_dr (kX12_stands_21 H ) ⟨rfl, ⟨rfl, ⟨rfl, ⟨rfl, trivial⟩⟩⟩⟩
    · replace H := br1 q22 H
      exact J_dr (kX12_stands_16 H ) ⟨rfl, ⟨rfl, ⟨rfl, ⟨rfl, trivial⟩⟩⟩⟩
theorem okX12_stands {d : Nat} {h : Hp} {v0 : Nat} {v1 : Int32} {v2 : Int32} {v3 : Int32} {r : Int32} {h9 : Hp} (H : MX12_stands h v0 v1 v2 v3 = some (r, h9)) : CT (d + 2) YX12_stands [.ref v0, .int v1, .int v2, .int v3] h (oI r) h9 := CT_of (by decide +kernel) (Nat.le_of_ble_eq_true rfl) (eX12_stands H)
