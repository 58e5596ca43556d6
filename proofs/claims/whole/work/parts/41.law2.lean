/-! THE LAW, as a function of its script -/
def YL_law : Mt := (yL_law, cL_law, 7, some .boolean)
noncomputable def ML_law_244 (L : Nat) (xs : Nat → Int32) (h : Hp) (v1 : Nat) (v2 : Nat) (v3 : Nat) (v4 : Int32) : Option ((Int32 × Hp) ⊕ (Int32 × Hp)) :=
  gg (β := ((Int32 × Hp) ⊕ (Int32 × Hp))) (inB (v4 + (1 : Int32)) L = true) <|
  gg (β := ((Int32 × Hp) ⊕ (Int32 × Hp))) (inB (v4 + (2 : Int32)) L = true) <|
  gg (β := ((Int32 × Hp) ⊕ (Int32 × Hp))) (inB (v4 + (3 : Int32)) L = true) <|
  gg (β := ((Int32 × Hp) ⊕ (Int32 × Hp))) (inB (v4 + (4 : Int32)) L = true) <|
  gg (β := ((Int32 × Hp) ⊕ (Int32 × Hp))) (inB (v4 + (5 : Int32)) L = true) <|
  gg (β := ((Int32 × Hp) ⊕ (Int32 × Hp))) (kd h v1 = 10) <|
  b2 (α := Int32) (β := Hp) (γ := ((Int32 × Hp) ⊕ (Int32 × Hp))) (MX11_feed h v1 (xs (v4 + (1 : Int32)).toNatClampNeg) (xs (v4 + (2 : Int32)).toNatClampNeg) (xs (v4 + (3 : Int32)).toNatClampNeg) (xs (v4 + (4 : Int32)).toNatClampNeg) (xs (v4 + (5 : Int32)).toNatClampNeg)) fun (t23 : Int32) (h22 : Hp) =>
  gg (β := ((Int32 × Hp) ⊕ (Int32 × Hp))) (inB (v4 + (1 : Int32)) L = true) <|
  gg (β := ((Int32 × Hp) ⊕ (Int32 × Hp))) (inB (v4 + (2 : Int32)) L = true) <|
  gg (β := ((Int32 × Hp) ⊕ (Int32 × Hp))) (inB (v4 + (3 : Int32)) L = true) <|
  gg (β := ((Int32 × Hp) ⊕ (Int32 × Hp))) (inB (v4 + (4 : Int32)) L = true) <|
  gg (β := ((Int32 × Hp) ⊕ (Int32 × Hp))) (inB (v4 + (5 : Int32)) L = true) <|
  gg (β := ((Int32 × Hp) ⊕ (Int32 × Hp))) (kd h22 v2 = 11) <|
  b2 (α := Int32) (β := Hp) (γ := ((Int32 × Hp) ⊕ (Int32 × Hp))) (MX12_feed h22 v2 (xs (v4 + (1 : Int32)).toNatClampNeg) (xs (v4 + (2 : Int32)).toNatClampNeg) (xs (v4 + (3 : Int32)).toNatClampNeg) (xs (v4 + (4 : Int32)).toNatClampNeg) (xs (v4 + (5 : Int32)).toNatClampNeg)) fun (t32 : Int32) (h31 : Hp) =>
  if t23 = t32 then
    some (.inl ((v4 + (6 : Int32)), h31))
  else
    none
set_option maxRecDepth 100000 in
set_option maxHeartbeats 8000000 in
theorem kL_law_244 {d : Nat} {L : Nat} {xs : Nat → Int32} {h : Hp} {v1 : Nat} {v2 : Nat} {v3 : Nat} {v4 : Int32} {r : Int32} {h9 : Hp} {x : ((Int32 × Hp) ⊕ (Int32 × Hp))} (H : ML_law_244 L xs h v1 v2 v3 v4 = some x) (hb0 : ∀ s : Int32 × Hp, x = .inl s → JP (PL L xs) (d + 65) YL_law 23 [.retAddr 3000, .ref v1, .ref v2, .ref v3, .int s.1, Value.null, Value.null] [] s.2 (oI r) h9) (hx : ∀ z : (Int32 × Hp), x = .inr (z) → z = (r, h9)) : JP (PL L xs) (d + 65) YL_law 244 [.retAddr 3000, .ref v1, .ref v2, .ref v3, .int v4, Value.null, Value.null] [] h (oI r) h9 := by
  unfold ML_law_244 at H
  refine J_aload_n 1 dL_law_244 rfl rfl ?_
  refine J_aload_nT 0 dL_law_245 rfl rfl ?_
  refine J_iload dL_law_246 rfl ?_
  refine J_iconst (1 : Int32) dL_law_248 kc_1 ?_
  refine J_iadd dL_law_249 ?_
  obtain ⟨g15, H⟩ := gd H
  refine J_sld dL_law_250 (inB_ok g15) ?_
  refine J_aload_nT 0 dL_law_251 rfl rfl ?_
  refine J_iload dL_law_252 rfl ?_
  refine J_iconst (2 : Int32) dL_law_254 kc_2 ?_
  refine J_iadd dL_law_255 ?_
  obtain ⟨g16, H⟩ := gd H
  refine J_sld dL_law_256 (inB_ok g16) ?_
  refine J_aload_nT 0 dL_law_257 rfl rfl ?_
  refine J_iload dL_law_258 rfl ?_
  refine J_iconst (3 : Int32) dL_law_260 kc_3 ?_
  refine J_iadd dL_law_261 ?_
  obtain ⟨g17, H⟩ := gd H
  refine J_sld dL_law_262 (inB_ok g17) ?_
  refine J_aload_nT 0 dL_law_263 rfl rfl ?_
  refine J_iload dL_law_264 rfl ?_
  refine J_iconst (4 : Int32) dL_law_266 kc_4 ?_
  refine J_iadd dL_law_267 ?_
  obtain ⟨g18, H⟩ := gd H
  refine J_sld dL_law_268 (inB_ok g18) ?_
  refine J_aload_nT 0 dL_law_269 rfl rfl ?_
  refine J_iload dL_law_270 rfl ?_
  refine J_iconst (5 : Int32) dL_law_272 kc_5 ?_
  refine J_iadd dL_law_273 ?_
  obtain ⟨g19, H⟩ := gd H
  refine J_sld dL_law_274 (inB_ok g19) ?_
  obtain ⟨g21, H⟩ := gd H
  obtain ⟨t23, h22, e20, H⟩ := b2_el H
  refine J_cV (as := [.int (xs (v4 + (1 : Int32)).toNatClampNeg), .int (xs (v4 + (2 : Int32)).toNatClampNeg), .int (xs (v4 + (3 : Int32)).toNatClampNeg), .int (xs (v4 + (4 : Int32)).toNatClampNeg), .int (xs (v4 + (5 : Int32)).toNatClampNeg)]) 10 YX11_feed 5 dL_law_275 moX11_feed mvX11_feed mlL_151 g21 rfl rfl (okX11_feed (d := d + 63) e20) rfl rfl [] rfl rfl (st2 := [.int t23]) rfl ?_
  refine J_aload_n 2 dL_law_278 rfl rfl ?_
  refine J_aload_nT 0 dL_law_279 rfl rfl ?_
  refine J_iload dL_law_280 rfl ?_
  refine J_iconst (1 : Int32) dL_law_282 kc_1 ?_
  refine J_iadd dL_law_283 ?_
  obtain ⟨g24, H⟩ := gd H
  refine J_sld dL_law_284 (inB_ok g24) ?_
  refine J_aload_nT 0 dL_law_285 rfl rfl ?_
  refine J_iload dL_law_286 rfl ?_
  refine J_iconst (2 : Int32) dL_law_288 kc_2 ?_
  refine J_iadd dL_law_289 ?_
  obtain ⟨g25, H⟩ := gd H
  refine J_sld dL_law_290 (inB_ok g25) ?_
  refine J_aload_nT 0 dL_law_291 rfl rfl ?_
  refine J_iload dL_law_292 rfl ?_
  refine J_iconst (3 : Int32) dL_law_294 kc_3 ?_
  refine J_iadd dL_law_295 ?_
  obtain ⟨g26, H⟩ := gd H
  refine J_sld dL_law_296 (inB_ok g26) ?_
  refine J_aload_nT 0 dL_law_297 rfl rfl ?_
  refine J_iload dL_law_298 rfl ?_
  refine J_iconst (4 : Int32) dL_law_300 kc_4 ?_
  refine J_iadd dL_law_301 ?_
  obtain ⟨g27, H⟩ := gd H
  refine J_sld dL_law_302 (inB_ok g27) ?_
  refine J_aload_nT 0 dL_law_303 rfl rfl ?_
  refine J_iload dL_law_304 rfl ?_
  refine J_iconst (5 : Int32) dL_law_306 kc_5 ?_
  refine J_iadd dL_law_307 ?_
  obtain ⟨g28, H⟩ := gd H
  refine J_sld dL_law_308 (inB_ok g28) ?_
  obtain ⟨g30, H⟩ := gd H
  obtain ⟨t32, h31, e29, H⟩ := b2_el H
  refine J_cV (as := [.int (xs (v4 + (1 : Int32)).toNatClampNeg), .int (xs (v4 + (2 : Int32)).toNatClampNeg), .int (xs (v4 + (3 : Int32)).toNatClampNeg), .int (xs (v4 + (4 : Int32)).toNatClampNeg), .int (xs (v4 + (5 : Int32)).toNatClampNeg)]) 11 YX12_feed 5 dL_law_309 moX12_feed mvX12_feed mlL_155 g30 rfl rfl (okX12_feed (d := d + 63) e29) rfl rfl [.int t23] rfl rfl (st2 := [.int t32, .int t23]) rfl ?_
  refine J_icmp_eq 3209 dL_law_312 rfl (fun q33 => ?_) (fun q33 => ?_)
  · replace H := br1 q33 H
    refine J_iinc (v4 + (6 : Int32)) dL_law_3209 rfl (congrArg (HAdd.hAdd v4) kc_6) (by decide) (ls' := [.retAddr 3000, .ref v1, .ref v2, .ref v3, .int (v4 + (6 : Int32)), Value.null, Value.null]) rfl ?_
    refine J_goto 23 dL_law_3212 rfl ?_
    cases H
    exact J_dr (hb0 _ rfl) ⟨rfl, ⟨rfl, ⟨rfl, ⟨rfl, ⟨rfl, trivial⟩⟩⟩⟩⟩
  · replace H := br0 q33 H
    refine J_iconst (0 : Int32) dL_law_315 kc_0 ?_
    cases H
noncomputable def ML_law_317 (L : Nat) (xs : Nat → Int32) (h : Hp) (v1 : Nat) (v2 : Nat) (v3 : Nat) (v4 : Int32) : Option ((Int32 × Hp) ⊕ (Int32 × Hp)) :=
  gg (β := ((Int32 × Hp) ⊕ (Int32 × Hp))) (inB (v4 + (1 : Int32)) L = true) <|
  gg (β := ((Int32 × Hp) ⊕ (Int32 × Hp))) (kd h v1 = 10) <|
  b2 (α := Int32) (β := Hp) (γ := ((Int32 × Hp) ⊕ (Int32 × Hp))) (MX11_end h v1 (xs (v4 + (1 : Int32)).toNatClampNeg)) fun (t38 : Int32) (h37 : Hp) =>
  gg (β := ((Int32 × Hp) ⊕ (Int32 × Hp))) (inB (v4 + (1 : Int32)) L = true) <|
  gg (β := ((Int32 × Hp) ⊕ (Int32 × Hp))) (kd h37 v2 = 11) <|
  b2 (α := Int32) (β := Hp) (γ := ((Int32 × Hp) ⊕ (Int32 × Hp))) (MX12_end h37 v2 (xs (v4 + (1 : Int32)).toNatClampNeg)) fun (t43 : Int32) (h42 : Hp) =>
  if t38 = t43 then
    some (.inl ((v4 + (6 : Int32)), h42))
  else
    none
set_option maxRecDepth 100000 in
set_option maxHeartbeats 8000000 in
theorem kL_law_317 {d : Nat} {L : Nat} {xs : Nat → Int32} {h : Hp} {v1 : Nat} {v2 : Nat} {v3 : Nat} {v4 : Int32} {r : Int32} {h9 : Hp} {x : ((Int32 × Hp) ⊕ (Int32 × Hp))} (H : ML_law_317 L xs h v1 v2 v3 v4 = some x) (hb0 : ∀ s : Int32 × Hp, x = .inl s → JP (PL L xs) (d + 65) YL_law 23 [.retAddr 3000, .ref v1, .ref v2, .ref v3, .int s.1, Value.null, Value.null] [] s.2 (oI r) h9) (hx : ∀ z : (Int32 × Hp), x = .inr (z) → z = (r, h9)) : JP (PL L xs) (d + 65) YL_law 317 [.retAddr 3000, .ref v1, .ref v2, .ref v3, .int v4, Value.null, Value.null] [] h (oI r) h9 := by
  unfold ML_law_317 at H
  refine J_aload_n 1 dL_law_317 rfl rfl ?_
  refine J_aload_nT 0 dL_law_318 rfl rfl ?_
  refine J_iload dL_law_319 rfl ?_
  refine J_iconst (1 : Int32) dL_law_321 kc_1 ?_
  refine J_iadd dL_law_322 ?_
  obtain ⟨g34, H⟩ := gd H
  refine J_sld dL_law_323 (inB_ok g34) ?_
  obtain ⟨g36, H⟩ := gd H
  obtain ⟨t38, h37, e35, H⟩ := b2_el H
  refine J_cV (as := [.int (xs (v4 + (1 : Int32)).toNatClampNeg)]) 10 YX11_end 1 dL_law_324 moX11_end mvX11_end mlL_156 g36 rfl rfl (okX11_end (d := d + 64) e35) rfl rfl [] rfl rfl (st2 := [.int t38]) rfl ?_
  refine J_aload_n 2 dL_law_327 rfl rfl ?_
  refine J_aload_nT 0 dL_law_328 rfl rfl ?_
  refine J_iload dL_law_329 rfl ?_
  refine J_iconst (1 : Int32) dL_law_331 kc_1 ?_
  refine J_iadd dL_law_332 ?_
  obtain ⟨g39, H⟩ := gd H
  refine J_sld dL_law_333 (inB_ok g39) ?_
  obtain ⟨g41, H⟩ := gd H
  obtain ⟨t43, h42, e40, H⟩ := b2_el H
  refine J_cV (as := [.int (xs (v4 + (1 : Int32)).toNatClampNeg)]) 11 YX12_end 1 dL_law_334 moX12_end mvX12_end mlL_159 g41 rfl rfl (okX12_end (d := d + 64) e40) rfl rfl [.int t38] rfl rfl (st2 := [.int t43, .int t38]) rfl ?_
  refine J_icmp_eq 3209 dL_law_337 rfl (fun q44 => ?_) (fun q44 => ?_)
  · replace H := br1 q44 H
    refine J_iinc (v4 + (6 : Int32)) dL_law_3209 rfl (congrArg (HAdd.hAdd v4) kc_6) (by decide) (ls' := [.retAddr 3000, .ref v1, .ref v2, .ref v3, .int (v4 + (6 : Int32)), Value.null, Value.null]) rfl ?_
    refine J_goto 23 dL_law_3212 rfl ?_
    cases H
    exact J_dr (hb0 _ rfl) ⟨rfl, ⟨rfl, ⟨rfl, ⟨rfl, ⟨rfl, trivial⟩⟩⟩⟩⟩
  · replace H := br0 q44 H
    refine J_iconst (0 : Int32) dL_law_340 kc_0 ?_
    cases H
noncomputable def ML_law_342 (L : Nat) (xs : Nat → Int32) (h : Hp) (v1 : Nat) (v2 : Nat) (v3 : Nat) (v4 : Int32) : Option ((Int32 × Hp) ⊕ (Int32 × Hp)) :=
  gg (β := ((Int32 × Hp) ⊕ (Int32 × Hp))) (inB (v4 + (1 : Int32)) L = true) <|
  gg (β := ((Int32 × Hp) ⊕ (Int32 × Hp))) (inB (v4 + (2 : Int32)) L = true) <|
  gg (β := ((Int32 × Hp) ⊕ (Int32 × Hp))) (inB (v4 + (3 : Int32)) L = true) <|
  b2 (α := Int32) (β := Hp) (γ := ((Int32 × Hp) ⊕ (Int32 × Hp))) (ML_width h v1 (xs (v4 + (1 : Int32)).toNatClampNeg) (xs (v4 + (2 : Int32)).toNatClampNeg) (xs (v4 + (3 : Int32)).toNatClampNeg)) fun (t50 : Int32) (h49 : Hp) =>
  gg (β := ((Int32 × Hp) ⊕ (Int32 × Hp))) (inB (v4 + (1 : Int32)) L = true) <|
  gg (β := ((Int32 × Hp) ⊕ (Int32 × Hp))) (inB (v4 + (2 : Int32)) L = true) <|
  gg (β := ((Int32 × Hp) ⊕ (Int32 × Hp))) (inB (v4 + (3 : Int32)) L = true) <|
  gg (β := ((Int32 × Hp) ⊕ (Int32 × Hp))) (kd h49 v2 = 11) <|
  Option.bind (α := Hp) (β := ((Int32 × Hp) ⊕ (Int32 × Hp))) (MX12_width h49 v2 (xs (v4 + (1 : Int32)).toNatClampNeg) (xs (v4 + (2 : Int32)).toNatClampNeg) (xs (v4 + (3 : Int32)).toNatClampNeg)) fun (h56 : Hp) =>
  gg (β := ((Int32 × Hp) ⊕ (Int32 × Hp))) (kd h56 v2 = 11) <|
  Option.bind (α := Int32) (β := ((Int32 × Hp) ⊕ (Int32 × Hp))) (MX12_thrown h56 v2) fun (t59 : Int32) =>
  if t59 = t50 then
    some (.inl ((v4 + (6 : Int32)), h56))
  else
    none
set_option maxRecDepth 100000 in
set_option maxHeartbeats 8000000 in
theorem kL_law_342 {d : Nat} {L : Nat} {xs : Nat → Int32} {h : Hp} {v1 : Nat} {v2 : Nat} {v3 : Nat} {v4 : Int32} {r : Int32} {h9 : Hp} {x : ((Int32 × Hp) ⊕ (Int32 × Hp))} (H : ML_law_342 L xs h v1 v2 v3 v4 = some x) (hb0 : ∀ s : Int32 × Hp, x = .inl s → JP (PL L xs) (d + 65) YL_law 23 [.retAddr 3000, .ref v1, .ref v2, .ref v3, .int s.1, Value.null, Value.null] [] s.2 (oI r) h9) (hx : ∀ z : (Int32 × Hp), x = .inr (z) → z = (r, h9)) : JP (PL L xs) (d + 65) YL_law 342 [.retAddr 3000, .ref v1, .ref v2, .ref v3, .int v4, Value.null, Value.null] [] h (oI r) h9 := by
  unfold ML_law_342 at H
  refine J_aload_n 1 dL_law_342 rfl rfl ?_
  refine J_aload_nT 0 dL_law_343 rfl rfl ?_
  refine J_iload dL_law_344 rfl ?_
  refine J_iconst (1 : Int32) dL_law_346 kc_1 ?_
  refine J_iadd dL_law_347 ?_
  obtain ⟨g45, H⟩ := gd H
  refine J_sld dL_law_348 (inB_ok g45) ?_
  refine J_aload_nT 0 dL_law_349 rfl rfl ?_
  refine J_iload dL_law_350 rfl ?_
  refine J_iconst (2 : Int32) dL_law_352 kc_2 ?_
  refine J_iadd dL_law_353 ?_
  obtain ⟨g46, H⟩ := gd H
  refine J_sld dL_law_354 (inB_ok g46) ?_
  refine J_aload_nT 0 dL_law_355 rfl rfl ?_
  refine J_iload dL_law_356 rfl ?_
  refine J_iconst (3 : Int32) dL_law_358 kc_3 ?_
  refine J_iadd dL_law_359 ?_
  obtain ⟨g47, H⟩ := gd H
  refine J_sld dL_law_360 (inB_ok g47) ?_
  obtain ⟨t50, h49, e48, H⟩ := b2_el H
  refine J_cSW (hh := hhL_width) (as := [.ref v1, .int (xs (v4 + (1 : Int32)).toNatClampNeg), .int (xs (v4 + (2 : Int32)).toNatClampNeg), .int (xs (v4 + (3 : Int32)).toNatClampNeg)]) YL_width 4 dL_law_361 moL_width msL_width mlL_160 (okL_width (d := d + 62) e48) rfl rfl [] rfl rfl (st2 := [.int t50]) rfl ?_
  refine J_istore dL_law_364 (by decide) (ls' := [.retAddr 3000, .ref v1, .ref v2, .ref v3, .int v4, .int t50, Value.null]) rfl ?_
  refine J_aload_n 2 dL_law_366 rfl rfl ?_
  refine J_aload_nT 0 dL_law_367 rfl rfl ?_
  refine J_iload dL_law_368 rfl ?_
  refine J_iconst (1 : Int32) dL_law_370 kc_1 ?_
  refine J_iadd dL_law_371 ?_
  obtain ⟨g51, H⟩ := gd H
  refine J_sld dL_law_372 (inB_ok g51) ?_
  refine J_aload_nT 0 dL_law_373 rfl rfl ?_
  refine J_iload dL_law_374 rfl ?_
  refine J_iconst (2 : Int32) dL_law_376 kc_2 ?_
  refine J_iadd dL_law_377 ?_
  obtain ⟨g52, H⟩ := gd H
  refine J_sld dL_law_378 (inB_ok g52) ?_
  refine J_aload_nT 0 dL_law_379 rfl rfl ?_
  refine J_iload dL_law_380 rfl ?_
  refine J_iconst (3 : Int32) dL_law_382 kc_3 ?_
  refine J_iadd dL_law_383 ?_
  obtain ⟨g53, H⟩ := gd H
  refine J_sld dL_law_384 (inB_ok g53) ?_
  obtain ⟨g55, H⟩ := gd H
  obtain ⟨h56, e54, H⟩ := bd H
  refine J_cV (as := [.int (xs (v4 + (1 : Int32)).toNatClampNeg), .int (xs (v4 + (2 : Int32)).toNatClampNeg), .int (xs (v4 + (3 : Int32)).toNatClampNeg)]) 11 YX12_width 3 dL_law_385 moX12_width mvX12_width mlL_165 g55 rfl rfl (okX12_width (d := d + 63) e54) rfl rfl [] rfl rfl (st2 := []) rfl ?_
  refine J_aload_n 2 dL_law_388 rfl rfl ?_
  obtain ⟨g58, H⟩ := gd H
  obtain ⟨t59, e57, H⟩ := bd H
  refine J_cV (as := []) 11 YX12_thrown 0 dL_law_389 moX12_thrown mvX12_thrown mlL_166 g58 rfl rfl (okX12_thrown (d := d + 64) e57) rfl rfl [] rfl rfl (st2 := [.int t59]) rfl ?_
  refine J_iload dL_law_392 rfl ?_
  refine J_icmp_eq 399 dL_law_394 rfl (fun q60 => ?_) (fun q60 => ?_)
  · replace H := br1 q60 H
    refine J_goto 3209 dL_law_399 rfl ?_
    refine J_iinc (v4 + (6 : Int32)) dL_law_3209 rfl (congrArg (HAdd.hAdd v4) kc_6) (by decide) (ls' := [.retAddr 3000, .ref v1, .ref v2, .ref v3, .int (v4 + (6 : Int32)), .int t50, Value.null]) rfl ?_
    refine J_goto 23 dL_law_3212 rfl ?_
    cases H
    exact J_dr (hb0 _ rfl) ⟨rfl, ⟨rfl, ⟨rfl, ⟨rfl, ⟨rfl, trivial⟩⟩⟩⟩⟩
  · replace H := br0 q60 H
    refine J_iconst (0 : Int32) dL_law_397 kc_0 ?_
    cases H
noncomputable def ML_law_402 (L : Nat) (xs : Nat → Int32) (h : Hp) (v1 : Nat) (v2 : Nat) (v3 : Nat) (v4 : Int32) : Option ((Int32 × Hp) ⊕ (Int32 × Hp)) :=
  gg (β := ((Int32 × Hp) ⊕ (Int32 × Hp))) (inB (v4 + (1 : Int32)) L = true) <|
  gg (β := ((Int32 × Hp) ⊕ (Int32 × Hp))) (inB (v4 + (2 : Int32)) L = true) <|
  b2 (α := Int32) (β := Hp) (γ := ((Int32 × Hp) ⊕ (Int32 × Hp))) (ML_story h v1 (xs (v4 + (1 : Int32)).toNatClampNeg) (xs (v4 + (2 : Int32)).toNatClampNeg) v3) fun (t65 : Int32) (h64 : Hp) =>
  gg (β := ((Int32 × Hp) ⊕ (Int32 × Hp))) (inB (v4 + (1 : Int32)) L = true) <|
  gg (β := ((Int32 × Hp) ⊕ (Int32 × Hp))) (inB (v4 + (2 : Int32)) L = true) <|
  gg (β := ((Int32 × Hp) ⊕ (Int32 × Hp))) (kd h64 v2 = 11) <|
  b2 (α := Int32) (β := Hp) (γ := ((Int32 × Hp) ⊕ (Int32 × Hp))) (MX12_story h64 v2 (xs (v4 + (1 : Int32)).toNatClampNeg) (xs (v4 + (2 : Int32)).toNatClampNeg)) fun (t71 : Int32) (h70 : Hp) =>
  gg (β := ((Int32 × Hp) ⊕ (Int32 × Hp))) (kd h70 v2 = 11) <|
  Option.bind (α := Int32) (β := ((Int32 × Hp) ⊕ (Int32 × Hp))) (MX12_thrown h70 v2) fun (t74 : Int32) =>
  if t74 = t65 then
    if t65 = 0 then
      gg (β := ((Int32 × Hp) ⊕ (Int32 × Hp))) (kd h70 v3 = 23) <|
      gg (β := ((Int32 × Hp) ⊕ (Int32 × Hp))) (inB (0 : Int32) (ln h70 v3) = true) <|
      if (lgc (gI h70 v3 (0 : Int32).toNatClampNeg) t71) = 0 then
        some (.inl ((v4 + (6 : Int32)), h70))
      else
        none
    else
      some (.inl ((v4 + (6 : Int32)), h70))
  else
    none
set_option maxRecDepth 100000 in
set_option maxHeartbeats 8000000 in
theorem kL_law_402 {d : Nat} {L : Nat} {xs : Nat → Int32} {h : Hp} {v1 : Nat} {v2 : Nat} {v3 : Nat} {v4 : Int32} {r : Int32} {h9 : Hp} {x : ((Int32 × Hp) ⊕ (Int32 × Hp))} (H : ML_law_402 L xs h v1 v2 v3 v4 = some x) (hb0 : ∀ s : Int32 × Hp, x = .inl s → JP (PL L xs) (d + 65) YL_law 23 [.retAddr 3000, .ref v1, .ref v2, .ref v3, .int s.1, Value.null, Value.null] [] s.2 (oI r) h9) (hx : ∀ z : (Int32 × Hp), x = .inr (z) → z = (r, h9)) : JP (PL L xs) (d + 65) YL_law 402 [.retAddr 3000, .ref v1, .ref v2, .ref v3, .int v4, Value.null, Value.null] [] h (oI r) h9 := by
  unfold ML_law_402 at H
  refine J_aload_n 1 dL_law_402 rfl rfl ?_
  refine J_aload_nT 0 dL_law_403 rfl rfl ?_
  refine J_iload dL_law_404 rfl ?_
  refine J_iconst (1 : Int32) dL_law_406 kc_1 ?_
  refine J_iadd dL_law_407 ?_
  obtain ⟨g61, H⟩ := gd H
  refine J_sld dL_law_408 (inB_ok g61) ?_
  refine J_aload_nT 0 dL_law_409 rfl rfl ?_
  refine J_iload dL_law_410 rfl ?_
  refine J_iconst (2 : Int32) dL_law_412 kc_2 ?_
  refine J_iadd dL_law_413 ?_
  obtain ⟨g62, H⟩ := gd H
  refine J_sld dL_law_414 (inB_ok g62) ?_
  refine J_aload_n 3 dL_law_415 rfl rfl ?_
  obtain ⟨t65, h64, e63, H⟩ := b2_el H
  refine J_cSW (hh := hhL_story) (as := [.ref v1, .int (xs (v4 + (1 : Int32)).toNatClampNeg), .int (xs (v4 + (2 : Int32)).toNatClampNeg), .ref v3]) YL_story 4 dL_law_416 moL_story msL_story mlL_169 (okL_story (d := d + 60) e63) rfl rfl [] rfl rfl (st2 := [.int t65]) rfl ?_
  refine J_istore dL_law_419 (by decide) (ls' := [.retAddr 3000, .ref v1, .ref v2, .ref v3, .int v4, .int t65, Value.null]) rfl ?_
  refine J_aload_n 2 dL_law_421 rfl rfl ?_
  refine J_aload_nT 0 dL_law_422 rfl rfl ?_
  refine J_iload dL_law_423 rfl ?_
  refine J_iconst (1 : Int32) dL_law_425 kc_1 ?_
  refine J_iadd dL_law_426 ?_
  obtain ⟨g66, H⟩ := gd H
  refine J_sld dL_law_427 (inB_ok g66) ?_
  refine J_aload_nT 0 dL_law_428 rfl rfl ?_
  refine J_iload dL_law_429 rfl ?_
  refine J_iconst (2 : Int32) dL_law_431 kc_2 ?_
  refine J_iadd dL_law_432 ?_
  obtain ⟨g67, H⟩ := gd H
  refine J_sld dL_law_433 (inB_ok g67) ?_
  obtain ⟨g69, H⟩ := gd H
  obtain ⟨t71, h70, e68, H⟩ := b2_el H
  refine J_cV (as := [.int (xs (v4 + (1 : Int32)).toNatClampNeg), .int (xs (v4 + (2 : Int32)).toNatClampNeg)]) 11 YX12_story 2 dL_law_434 moX12_story mvX12_story mlL_172 g69 rfl rfl (okX12_story (d := d + 61) e68) rfl rfl [] rfl rfl (st2 := [.int t71]) rfl ?_
  refine J_istore dL_law_437 (by decide) (ls' := [.retAddr 3000, .ref v1, .ref v2, .ref v3, .int v4, .int t65, .int t71]) rfl ?_
  refine J_aload_n 2 dL_law_439 rfl rfl ?_
  obtain ⟨g73, H⟩ := gd H
  obtain ⟨t74, e72, H⟩ := bd H
  refine J_cV (as := []) 11 YX12_thrown 0 dL_law_440 moX12_thrown mvX12_thrown mlL_166 g73 rfl rfl (okX12_thrown (d := d + 64) e72) rfl rfl [] rfl rfl (st2 := [.int t74]) rfl ?_
  refine J_iload dL_law_443 rfl ?_
  refine J_icmp_eq 450 dL_law_445 rfl (fun q75 => ?_) (fun q75 => ?_)
  · replace H := br1 q75 H
    refine J_iload dL_law_450 rfl ?_
    refine J_if_ne 467 dL_law_452 rfl (fun q76 => ?_) (fun q76 => ?_)
    · replace H := br0 q76 H
      refine J_goto 3209 dL_law_467 rfl ?_
      refine J_iinc (v4 + (6 : Int32)) dL_law_3209 rfl (congrArg (HAdd.hAdd v4) kc_6) (by decide) (ls' := [.retAddr 3000, .ref v1, .ref v2, .ref v3, .int (v4 + (6 : Int32)), .int t65, .int t71]) rfl ?_
      refine J_goto 23 dL_law_3212 rfl ?_
      cases H
      exact J_dr (hb0 _ rfl) ⟨rfl, ⟨rfl, ⟨rfl, ⟨rfl, ⟨rfl, trivial⟩⟩⟩⟩⟩
    · replace H := br1 q76 H
      refine J_aload_n 3 dL_law_455 rfl rfl ?_
      refine J_iconst (0 : Int32) dL_law_456 kc_0 ?_
      obtain ⟨g77, H⟩ := gd H
      obtain ⟨g78, H⟩ := gd H
      refine J_lald dL_law_457 g77 (inB_ok g78) ?_
      refine J_iload dL_law_458 rfl ?_
      refine J_i2l dL_law_460 ?_
      refine J_lcmp' dL_law_461 ?_
      refine J_if_eq 467 dL_law_462 rfl (fun q79 => ?_) (fun q79 => ?_)
      · replace H := br1 q79 H
        refine J_goto 3209 dL_law_467 rfl ?_
        refine J_iinc (v4 + (6 : Int32)) dL_law_3209 rfl (congrArg (HAdd.hAdd v4) kc_6) (by decide) (ls' := [.retAddr 3000, .ref v1, .ref v2, .ref v3, .int (v4 + (6 : Int32)), .int t65, .int t71]) rfl ?_
        refine J_goto 23 dL_law_3212 rfl ?_
        cases H
        exact J_dr (hb0 _ rfl) ⟨rfl, ⟨rfl, ⟨rfl, ⟨rfl, ⟨rfl, trivial⟩⟩⟩⟩⟩
      · replace H := br0 q79 H
        refine J_iconst (0 : Int32) dL_law_465 kc_0 ?_
        cases H
  · replace H := br0 q75 H
    refine J_iconst (0 : Int32) dL_law_448 kc_0 ?_
    cases H
noncomputable def ML_law_470 (L : Nat) (xs : Nat → Int32) (h : Hp) (v1 : Nat) (v2 : Nat) (v3 : Nat) (v4 : Int32) : Option ((Int32 × Hp) ⊕ (Int32 × Hp)) :=
  gg (β := ((Int32 × Hp) ⊕ (Int32 × Hp))) (inB (v4 + (1 : Int32)) L = true) <|
  b2 (α := Int32) (β := Hp) (γ := ((Int32 × Hp) ⊕ (Int32 × Hp))) (ML_style h v1 (xs (v4 + (1 : Int32)).toNatClampNeg) v3) fun (t83 : Int32) (h82 : Hp) =>
  gg (β := ((Int32 × Hp) ⊕ (Int32 × Hp))) (inB (v4 + (1 : Int32)) L = true) <|
  gg (β := ((Int32 × Hp) ⊕ (Int32 × Hp))) (kd h82 v2 = 11) <|
  b2 (α := Int32) (β := Hp) (γ := ((Int32 × Hp) ⊕ (Int32 × Hp))) (MX12_style h82 v2 (xs (v4 + (1 : Int32)).toNatClampNeg)) fun (t88 : Int32) (h87 : Hp) =>
  gg (β := ((Int32 × Hp) ⊕ (Int32 × Hp))) (kd h87 v2 = 11) <|
  Option.bind (α := Int32) (β := ((Int32 × Hp) ⊕ (Int32 × Hp))) (MX12_thrown h87 v2) fun (t91 : Int32) =>
  if t91 = t83 then
    if t83 = 0 then
      gg (β := ((Int32 × Hp) ⊕ (Int32 × Hp))) (kd h87 v3 = 23) <|
      gg (β := ((Int32 × Hp) ⊕ (Int32 × Hp))) (inB (0 : Int32) (ln h87 v3) = true) <|
      if (lgc (gI h87 v3 (0 : Int32).toNatClampNeg) t88) = 0 then
        some (.inl ((v4 + (6 : Int32)), h87))
      else
        none
    else
      some (.inl ((v4 + (6 : Int32)), h87))
  else
    none
set_option maxRecDepth 100000 in
set_option maxHeartbeats 8000000 in
theorem kL_law_470 {d : Nat} {L : Nat} {xs : Nat → Int32} {h : Hp} {v1 : Nat} {v2 : Nat} {v3 : Nat} {v4 : Int32} {r : Int32} {h9 : Hp} {x : ((Int32 × Hp) ⊕ (Int32 × Hp))} (H : ML_law_470 L xs h v1 v2 v3 v4 = some x) (hb0 : ∀ s : Int32 × Hp, x = .inl s → JP (PL L xs) (d + 65) YL_law 23 [.retAddr 3000, .ref v1, .ref v2, .ref v3, .int s.1, Value.null, Value.null] [] s.2 (oI r) h9) (hx : ∀ z : (Int32 × Hp), x = .inr (z) → z = (r, h9)) : JP (PL L xs) (d + 65) YL_law 470 [.retAddr 3000, .ref v1, .ref v2, .ref v3, .int v4, Value.null, Value.null] [] h (oI r) h9 := by
  unfold ML_law_470 at H
  refine J_aload_n 1 dL_law_470 rfl rfl ?_
  refine J_aload_nT 0 dL_law_471 rfl rfl ?_
  refine J_iload dL_law_472 rfl ?_
  refine J_iconst (1 : Int32) dL_law_474 kc_1 ?_
  refine J_iadd dL_law_475 ?_
  obtain ⟨g80, H⟩ := gd H
  refine J_sld dL_law_476 (inB_ok g80) ?_
  refine J_aload_n 3 dL_law_477 rfl rfl ?_
  obtain ⟨t83, h82, e81, H⟩ := b2_el H
  refine J_cSW (hh := hhL_style) (as := [.ref v1, .int (xs (v4 + (1 : Int32)).toNatClampNeg), .ref v3]) YL_style 3 dL_law_478 moL_style msL_style mlL_173 (okL_style (d := d + 25) e81) rfl rfl [] rfl rfl (st2 := [.int t83]) rfl ?_
  refine J_istore dL_law_481 (by decide) (ls' := [.retAddr 3000, .ref v1, .ref v2, .ref v3, .int v4, .int t83, Value.null]) rfl ?_
  refine J_aload_n 2 dL_law_483 rfl rfl ?_
  refine J_aload_nT 0 dL_law_484 rfl rfl ?_
  refine J_iload dL_law_485 rfl ?_
  refine J_iconst (1 : Int32) dL_law_487 kc_1 ?_
  refine J_iadd dL_law_488 ?_
  obtain ⟨g84, H⟩ := gd H
  refine J_sld dL_law_489 (inB_ok g84) ?_
  obtain ⟨g86, H⟩ := gd H
  obtain ⟨t88, h87, e85, H⟩ := b2_el H
  refine J_cV (as := [.int (xs (v4 + (1 : Int32)).toNatClampNeg)]) 11 YX12_style 1 dL_law_490 moX12_style mvX12_style mlL_176 g86 rfl rfl (okX12_style (d := d + 25) e85) rfl rfl [] rfl rfl (st2 := [.int t88]) rfl ?_
  refine J_istore dL_law_493 (by decide) (ls' := [.retAddr 3000, .ref v1, .ref v2, .ref v3, .int v4, .int t83, .int t88]) rfl ?_
  refine J_aload_n 2 dL_law_495 rfl rfl ?_
  obtain ⟨g90, H⟩ := gd H
  obtain ⟨t91, e89, H⟩ := bd H
  refine J_cV (as := []) 11 YX12_thrown 0 dL_law_496 moX12_thrown mvX12_thrown mlL_166 g90 rfl rfl (okX12_thrown (d := d + 64) e89) rfl rfl [] rfl rfl (st2 := [.int t91]) rfl ?_
  refine J_iload dL_law_499 rfl ?_
  refine J_icmp_eq 506 dL_law_501 rfl (fun q92 => ?_) (fun q92 => ?_)
  · replace H := br1 q92 H
    refine J_iload dL_law_506 rfl ?_
    refine J_if_ne 523 dL_law_508 rfl (fun q93 => ?_) (fun q93 => ?_)
    · replace H := br0 q93 H
      refine J_goto 3209 dL_law_523 rfl ?_
      refine J_iinc (v4 + (6 : Int32)) dL_law_3209 rfl (congrArg (HAdd.hAdd v4) kc_6) (by decide) (ls' := [.retAddr 3000, .ref v1, .ref v2, .ref v3, .int (v4 + (6 : Int32)), .int t83, .int t88]) rfl ?_
      refine J_goto 23 dL_law_3212 rfl ?_
      cases H
      exact J_dr (hb0 _ rfl) ⟨rfl, ⟨rfl, ⟨rfl, ⟨rfl, ⟨rfl, trivial⟩⟩⟩⟩⟩
    · replace H := br1 q93 H
      refine J_aload_n 3 dL_law_511 rfl rfl ?_
      refine J_iconst (0 : Int32) dL_law_512 kc_0 ?_
      obtain ⟨g94, H⟩ := gd H
      obtain ⟨g95, H⟩ := gd H
      refine J_lald dL_law_513 g94 (inB_ok g95) ?_
      refine J_iload dL_law_514 rfl ?_
      refine J_i2l dL_law_516 ?_
      refine J_lcmp' dL_law_517 ?_
      refine J_if_eq 523 dL_law_518 rfl (fun q96 => ?_) (fun q96 => ?_)
      · replace H := br1 q96 H
        refine J_goto 3209 dL_law_523 rfl ?_
        refine J_iinc (v4 + (6 : Int32)) dL_law_3209 rfl (congrArg (HAdd.hAdd v4) kc_6) (by decide) (ls' := [.retAddr 3000, .ref v1, .ref v2, .ref v3, .int (v4 + (6 : Int32)), .int t83, .int t88]) rfl ?_
        refine J_goto 23 dL_law_3212 rfl ?_
        cases H
        exact J_dr (hb0 _ rfl) ⟨rfl, ⟨rfl, ⟨rfl, ⟨rfl, ⟨rfl, trivial⟩⟩⟩⟩⟩
      · replace H := br0 q96 H
        refine J_iconst (0 : Int32) dL_law_521 kc_0 ?_
        cases H
  · replace H := br0 q92 H
    refine J_iconst (0 : Int32) dL_law_504 kc_0 ?_
    cases H
noncomputable def ML_law_526 (L : Nat) (xs : Nat → Int32) (h : Hp) (v1 : Nat) (v2 : Nat) (v3 : Nat) (v4 : Int32) : Option ((Int32 × Hp) ⊕ (Int32 × Hp)) :=
  gg (β := ((Int32 × Hp) ⊕ (Int32 × Hp))) (kd h v1 = 10) <|
  Option.bind (α := Int32) (β := ((Int32 × Hp) ⊕ (Int32 × Hp))) (MX11_fault h v1) fun (t99 : Int32) =>
  gg (β := ((Int32 × Hp) ⊕ (Int32 × Hp))) (kd h v2 = 11) <|
  b2 (α := Int32) (β := Hp) (γ := ((Int32 × Hp) ⊕ (Int32 × Hp))) (MX12_fault h v2) fun (t103 : Int32) (h102 : Hp) =>
  if t99 = t103 then
    some (.inl ((v4 + (6 : Int32)), h102))
  else
    none
set_option maxRecDepth 100000 in
set_option maxHeartbeats 8000000 in
theorem kL_law_526 {d : Nat} {L : Nat} {xs : Nat → Int32} {h : Hp} {v1 : Nat} {v2 : Nat} {v3 : Nat} {v4 : Int32} {r : Int32} {h9 : Hp} {x : ((Int32 × Hp) ⊕ (Int32 × Hp))} (H : ML_law_526 L xs h v1 v2 v3 v4 = some x) (hb0 : ∀ s : Int32 × Hp, x = .inl s → JP (PL L xs) (d + 65) YL_law 23 [.retAddr 3000, .ref v1, .ref v2, .ref v3, .int s.1, Value.null, Value.null] [] s.2 (oI r) h9) (hx : ∀ z : (Int32 × Hp), x = .inr (z) → z = (r, h9)) : JP (PL L xs) (d + 65) YL_law 526 [.retAddr 3000, .ref v1, .ref v2, .ref v3, .int v4, Value.null, Value.null] [] h (oI r) h9 := by
  unfold ML_law_526 at H
  refine J_aload_n 1 dL_law_526 rfl rfl ?_
  obtain ⟨g98, H⟩ := gd H
  obtain ⟨t99, e97, H⟩ := bd H
  refine J_cV (as := []) 10 YX11_fault 0 dL_law_527 moX11_fault mvX11_fault mlL_177 g98 rfl rfl (okX11_fault (d := d + 64) e97) rfl rfl [] rfl rfl (st2 := [.int t99]) rfl ?_
  refine J_aload_n 2 dL_law_530 rfl rfl ?_
  obtain ⟨g101, H⟩ := gd H
  obtain ⟨t103, h102, e100, H⟩ := b2_el H
  refine J_cV (as := []) 11 YX12_fault 0 dL_law_531 moX12_fault mvX12_fault mlL_180 g101 rfl rfl (okX12_fault (d := d + 64) e100) rfl rfl [.int t99] rfl rfl (st2 := [.int t103, .int t99]) rfl ?_
  refine J_icmp_eq 3209 dL_law_534 rfl (fun q104 => ?_) (fun q104 => ?_)
  · replace H := br1 q104 H
    refine J_iinc (v4 + (6 : Int32)) dL_law_3209 rfl (congrArg (HAdd.hAdd v4) kc_6) (by decide) (ls' := [.retAddr 3000, .ref v1, .ref v2, .ref v3, .int (v4 + (6 : Int32)), Value.null, Value.null]) rfl ?_
    refine J_goto 23 dL_law_3212 rfl ?_
    cases H
    exact J_dr (hb0 _ rfl) ⟨rfl, ⟨rfl, ⟨rfl, ⟨rfl, ⟨rfl, trivial⟩⟩⟩⟩⟩
  · replace H := br0 q104 H
    refine J_iconst (0 : Int32) dL_law_537 kc_0 ?_
    cases H
noncomputable def ML_law_539 (L : Nat) (xs : Nat → Int32) (h : Hp) (v1 : Nat) (v2 : Nat) (v3 : Nat) (v4 : Int32) : Option ((Int32 × Hp) ⊕ (Int32 × Hp)) :=
  gg (β := ((Int32 × Hp) ⊕ (Int32 × Hp))) (inB (v4 + (1 : Int32)) L = true) <|
  gg (β := ((Int32 × Hp) ⊕ (Int32 × Hp))) (inB (v4 + (2 : Int32)) L = true) <|
  b2 (α := Int32) (β := Hp) (γ := ((Int32 × Hp) ⊕ (Int32 × Hp))) (ML_part h v1 (xs (v4 + (1 : Int32)).toNatClampNeg) (xs (v4 + (2 : Int32)).toNatClampNeg) v3) fun (t109 : Int32) (h108 : Hp) =>
  gg (β := ((Int32 × Hp) ⊕ (Int32 × Hp))) (inB (v4 + (1 : Int32)) L = true) <|
  gg (β := ((Int32 × Hp) ⊕ (Int32 × Hp))) (inB (v4 + (2 : Int32)) L = true) <|
  gg (β := ((Int32 × Hp) ⊕ (Int32 × Hp))) (kd h108 v2 = 11) <|
  b2 (α := Int32) (β := Hp) (γ := ((Int32 × Hp) ⊕ (Int32 × Hp))) (MX12_part h108 v2 (xs (v4 + (1 : Int32)).toNatClampNeg) (xs (v4 + (2 : Int32)).toNatClampNeg)) fun (t115 : Int32) (h114 : Hp) =>
  gg (β := ((Int32 × Hp) ⊕ (Int32 × Hp))) (kd h114 v2 = 11) <|
  Option.bind (α := Int32) (β := ((Int32 × Hp) ⊕ (Int32 × Hp))) (MX12_thrown h114 v2) fun (t118 : Int32) =>
  if t118 = t109 then
    if t109 = 0 then
      gg (β := ((Int32 × Hp) ⊕ (Int32 × Hp))) (kd h114 v3 = 23) <|
      gg (β := ((Int32 × Hp) ⊕ (Int32 × Hp))) (inB (0 : Int32) (ln h114 v3) = true) <|
      if (lgc (gI h114 v3 (0 : Int32).toNatClampNeg) t115) = 0 then
        some (.inl ((v4 + (6 : Int32)), h114))
      else
        none
    else
      some (.inl ((v4 + (6 : Int32)), h114))
  else
    none
set_option maxRecDepth 100000 in
set_option maxHeartbeats 8000000 in
theorem kL_law_539 {d : Nat} {L : Nat} {xs : Nat → Int32} {h : Hp} {v1 : Nat} {v2 : Nat} {v3 : Nat} {v4 : Int32} {r : Int32} {h9 : Hp} {x : ((Int32 × Hp) ⊕ (Int32 × Hp))} (H : ML_law_539 L xs h v1 v2 v3 v4 = some x) (hb0 : ∀ s : Int32 × Hp, x = .inl s → JP (PL L xs) (d + 65) YL_law 23 [.retAddr 3000, .ref v1, .ref v2, .ref v3, .int s.1, Value.null, Value.null] [] s.2 (oI r) h9) (hx : ∀ z : (Int32 × Hp), x = .inr (z) → z = (r, h9)) : JP (PL L xs) (d + 65) YL_law 539 [.retAddr 3000, .ref v1, .ref v2, .ref v3, .int v4, Value.null, Value.null] [] h (oI r) h9 := by
  unfold ML_law_539 at H
  refine J_aload_n 1 dL_law_539 rfl rfl ?_
  refine J_aload_nT 0 dL_law_540 rfl rfl ?_
  refine J_iload dL_law_541 rfl ?_
  refine J_iconst (1 : Int32) dL_law_543 kc_1 ?_
  refine J_iadd dL_law_544 ?_
  obtain ⟨g105, H⟩ := gd H
  refine J_sld dL_law_545 (inB_ok g105) ?_
  refine J_aload_nT 0 dL_law_546 rfl rfl ?_
  refine J_iload dL_law_547 rfl ?_
  refine J_iconst (2 : Int32) dL_law_549 kc_2 ?_
  refine J_iadd dL_law_550 ?_
  obtain ⟨g106, H⟩ := gd H
  refine J_sld dL_law_551 (inB_ok g106) ?_
  refine J_aload_n 3 dL_law_552 rfl rfl ?_
  obtain ⟨t109, h108, e107, H⟩ := b2_el H
  refine J_cSW (hh := hhL_part) (as := [.ref v1, .int (xs (v4 + (1 : Int32)).toNatClampNeg), .int (xs (v4 + (2 : Int32)).toNatClampNeg), .ref v3]) YL_part 4 dL_law_553 moL_part msL_part mlL_181 (okL_part (d := d + 59) e107) rfl rfl [] rfl rfl (st2 := [.int t109]) rfl ?_
  refine J_istore dL_law_556 (by decide) (ls' := [.retAddr 3000, .ref v1, .ref v2, .ref v3, .int v4, .int t109, Value.null]) rfl ?_
  refine J_aload_n 2 dL_law_558 rfl rfl ?_
  refine J_aload_nT 0 dL_law_559 rfl rfl ?_
  refine J_iload dL_law_560 rfl ?_
  refine J_iconst (1 : Int32) dL_law_562 kc_1 ?_
  refine J_iadd dL_law_563 ?_
  obtain ⟨g110, H⟩ := gd H
  refine J_sld dL_law_564 (inB_ok g110) ?_
  refine J_aload_nT 0 dL_law_565 rfl rfl ?_
  refine J_iload dL_law_566 rfl ?_
  refine J_iconst (2 : Int32) dL_law_568 kc_2 ?_
  refine J_iadd dL_law_569 ?_
  obtain ⟨g111, H⟩ := gd H
  refine J_sld dL_law_570 (inB_ok g111) ?_
  obtain ⟨g113, H⟩ := gd H
  obtain ⟨t115, h114, e112, H⟩ := b2_el H
  refine J_cV (as := [.int (xs (v4 + (1 : Int32)).toNatClampNeg), .int (xs (v4 + (2 : Int32)).toNatClampNeg)]) 11 YX12_part 2 dL_law_571 moX12_part mvX12_part mlL_183 g113 rfl rfl (okX12_part (d := d + 61) e112) rfl rfl [] rfl rfl (st2 := [.int t115]) rfl ?_
  refine J_istore dL_law_574 (by decide) (ls' := [.retAddr 3000, .ref v1, .ref v2, .ref v3, .int v4, .int t109, .int t115]) rfl ?_
  refine J_aload_n 2 dL_law_576 rfl rfl ?_
  obtain ⟨g117, H⟩ := gd H
  obtain ⟨t118, e116, H⟩ := bd H
  refine J_cV (as := []) 11 YX12_thrown 0 dL_law_577 moX12_thrown mvX12_thrown mlL_166 g117 rfl rfl (okX12_thrown (d := d + 64) e116) rfl rfl [] rfl rfl (st2 := [.int t118]) rfl ?_
  refine J_iload dL_law_580 rfl ?_
  refine J_icmp_eq 587 dL_law_582 rfl (fun q119 => ?_) (fun q119 => ?_)
  · replace H := br1 q119 H
    refine J_iload dL_law_587 rfl ?_
    refine J_if_ne 604 dL_law_589 rfl (fun q120 => ?_) (fun q120 => ?_)
    · replace H := br0 q120 H
      refine J_goto 3209 dL_law_604 rfl ?_
      refine J_iinc (v4 + (6 : Int32)) dL_law_3209 rfl (congrArg (HAdd.hAdd v4) kc_6) (by decide) (ls' := [.retAddr 3000, .ref v1, .ref v2, .ref v3, .int (v4 + (6 : Int32)), .int t109, .int t115]) rfl ?_
      refine J_goto 23 dL_law_3212 rfl ?_
      cases H
      exact J_dr (hb0 _ rfl) ⟨rfl, ⟨rfl, ⟨rfl, ⟨rfl, ⟨rfl, trivial⟩⟩⟩⟩⟩
    · replace H := br1 q120 H
      refine J_aload_n 3 dL_law_592 rfl rfl ?_
      refine J_iconst (0 : Int32) dL_law_593 kc_0 ?_
      obtain ⟨g121, H⟩ := gd H
      obtain ⟨g122, H⟩ := gd H
      refine J_lald dL_law_594 g121 (inB_ok g122) ?_
      refine J_iload dL_law_595 rfl ?_
      refine J_i2l dL_law_597 ?_
      refine J_lcmp' dL_law_598 ?_
      refine J_if_eq 604 dL_law_599 rfl (fun q123 => ?_) (fun q123 => ?_)
      · replace H := br1 q123 H
        refine J_goto 3209 dL_law_604 rfl ?_
        refine J_iinc (v4 + (6 : Int32)) dL_law_3209 rfl (congrArg (HAdd.hAdd v4) kc_6) (by decide) (ls' := [.retAddr 3000, .ref v1, .ref v2, .ref v3, .int (v4 + (6 : Int32)), .int t109, .int t115]) rfl ?_
        refine J_goto 23 dL_law_3212 rfl ?_
        cases H
        exact J_dr (hb0 _ rfl) ⟨rfl, ⟨rfl, ⟨rfl, ⟨rfl, ⟨rfl, trivial⟩⟩⟩⟩⟩
      · replace H := br0 q123 H
        refine J_iconst (0 : Int32) dL_law_602 kc_0 ?_
        cases H
  · replace H := br0 q119 H
    refine J_iconst (0 : Int32) dL_law_585 kc_0 ?_
    cases H
noncomputable def ML_law_607 (L : Nat) (xs : Nat → Int32) (h : Hp) (v1 : Nat) (v2 : Nat) (v3 : Nat) (v4 : Int32) : Option ((Int32 × Hp) ⊕ (Int32 × Hp)) :=
  gg (β := ((Int32 × Hp) ⊕ (Int32 × Hp))) (inB (v4 + (1 : Int32)) L = true) <|
  gg (β := ((Int32 × Hp) ⊕ (Int32 × Hp))) (inB (v4 + (2 : Int32)) L = true) <|
  gg (β := ((Int32 × Hp) ⊕ (Int32 × Hp))) (inB (v4 + (3 : Int32)) L = true) <|
  b2 (α := Int32) (β := Hp) (γ := ((Int32 × Hp) ⊕ (Int32 × Hp))) (ML_rule h v1 (xs (v4 + (1 : Int32)).toNatClampNeg) (xs (v4 + (2 : Int32)).toNatClampNeg) (xs (v4 + (3 : Int32)).toNatClampNeg) v3) fun (t129 : Int32) (h128 : Hp) =>
  gg (β := ((Int32 × Hp) ⊕ (Int32 × Hp))) (inB (v4 + (1 : Int32)) L = true) <|
  gg (β := ((Int32 × Hp) ⊕ (Int32 × Hp))) (inB (v4 + (2 : Int32)) L = true) <|
  gg (β := ((Int32 × Hp) ⊕ (Int32 × Hp))) (inB (v4 + (3 : Int32)) L = true) <|
  gg (β := ((Int32 × Hp) ⊕ (Int32 × Hp))) (kd h128 v2 = 11) <|
  b2 (α := Int32) (β := Hp) (γ := ((Int32 × Hp) ⊕ (Int32 × Hp))) (MX12_rule h128 v2 (xs (v4 + (1 : Int32)).toNatClampNeg) (xs (v4 + (2 : Int32)).toNatClampNeg) (xs (v4 + (3 : Int32)).toNatClampNeg)) fun (t136 : Int32) (h135 : Hp) =>
  gg (β := ((Int32 × Hp) ⊕ (Int32 × Hp))) (kd h135 v2 = 11) <|
  Option.bind (α := Int32) (β := ((Int32 × Hp) ⊕ (Int32 × Hp))) (MX12_thrown h135 v2) fun (t139 : Int32) =>
  if t139 = t129 then
    if t129 = 0 then
      gg (β := ((Int32 × Hp) ⊕ (Int32 × Hp))) (kd h135 v3 = 23) <|
      gg (β := ((Int32 × Hp) ⊕ (Int32 × Hp))) (inB (0 : Int32) (ln h135 v3) = true) <|
      if (lgc (gI h135 v3 (0 : Int32).toNatClampNeg) t136) = 0 then
        some (.inl ((v4 + (6 : Int32)), h135))
      else
        none
    else
      some (.inl ((v4 + (6 : Int32)), h135))
  else
    none
set_option maxRecDepth 100000 in
set_option maxHeartbeats 8000000 in
theorem kL_law_607 {d : Nat} {L : Nat} {xs : Nat → Int32} {h : Hp} {v1 : Nat} {v2 : Nat} {v3 : Nat} {v4 : Int32} {r : Int32} {h9 : Hp} {x : ((Int32 × Hp) ⊕ (Int32 × Hp))} (H : ML_law_607 L xs h v1 v2 v3 v4 = some x) (hb0 : ∀ s : Int32 × Hp, x = .inl s → JP (PL L xs) (d + 65) YL_law 23 [.retAddr 3000, .ref v1, .ref v2, .ref v3, .int s.1, Value.null, Value.null] [] s.2 (oI r) h9) (hx : ∀ z : (Int32 × Hp), x = .inr (z) → z = (r, h9)) : JP (PL L xs) (d + 65) YL_law 607 [.retAddr 3000, .ref v1, .ref v2, .ref v3, .int v4, Value.null, Value.null] [] h (oI r) h9 := by
  unfold ML_law_607 at H
  refine J_aload_n 1 dL_law_607 rfl rfl ?_
  refine J_aload_nT 0 dL_law_608 rfl rfl ?_
  refine J_iload dL_law_609 rfl ?_
  refine J_iconst (1 : Int32) dL_law_611 kc_1 ?_
  refine J_iadd dL_law_612 ?_
  obtain ⟨g124, H⟩ := gd H
  refine J_sld dL_law_613 (inB_ok g124) ?_
  refine J_aload_nT 0 dL_law_614 rfl rfl ?_
  refine J_iload dL_law_615 rfl ?_
  refine J_iconst (2 : Int32) dL_law_617 kc_2 ?_
  refine J_iadd dL_law_618 ?_
  obtain ⟨g125, H⟩ := gd H
  refine J_sld dL_law_619 (inB_ok g125) ?_
  refine J_aload_nT 0 dL_law_620 rfl rfl ?_
  refine J_iload dL_law_621 rfl ?_
  refine J_iconst (3 : Int32) dL_law_623 kc_3 ?_
  refine J_iadd dL_law_624 ?_
  obtain ⟨g126, H⟩ := gd H
  refine J_sld dL_law_625 (inB_ok g126) ?_
  refine J_aload_n 3 dL_law_626 rfl rfl ?_
  obtain ⟨t129, h128, e127, H⟩ := b2_el H
  refine J_cSW (hh := hhL_rule) (as := [.ref v1, .int (xs (v4 + (1 : Int32)).toNatClampNeg), .int (xs (v4 + (2 : Int32)).toNatClampNeg), .int (xs (v4 + (3 : Int32)).toNatClampNeg), .ref v3]) YL_rule 5 dL_law_627 moL_rule msL_rule mlL_184 (okL_rule (d := d + 59) e127) rfl rfl [] rfl rfl (st2 := [.int t129]) rfl ?_
  refine J_istore dL_law_630 (by decide) (ls' := [.retAddr 3000, .ref v1, .ref v2, .ref v3, .int v4, .int t129, Value.null]) rfl ?_
  refine J_aload_n 2 dL_law_632 rfl rfl ?_
  refine J_aload_nT 0 dL_law_633 rfl rfl ?_
  refine J_iload dL_law_634 rfl ?_
  refine J_iconst (1 : Int32) dL_law_636 kc_1 ?_
  refine J_iadd dL_law_637 ?_
  obtain ⟨g130, H⟩ := gd H
  refine J_sld dL_law_638 (inB_ok g130) ?_
  refine J_aload_nT 0 dL_law_639 rfl rfl ?_
  refine J_iload dL_law_640 rfl ?_
  refine J_iconst (2 : Int32) dL_law_642 kc_2 ?_
  refine J_iadd dL_law_643 ?_
  obtain ⟨g131, H⟩ := gd H
  refine J_sld dL_law_644 (inB_ok g131) ?_
  refine J_aload_nT 0 dL_law_645 rfl rfl ?_
  refine J_iload dL_law_646 rfl ?_
  refine J_iconst (3 : Int32) dL_law_648 kc_3 ?_
  refine J_iadd dL_law_649 ?_
  obtain ⟨g132, H⟩ := gd H
  refine J_sld dL_law_650 (inB_ok g132) ?_
  obtain ⟨g134, H⟩ := gd H
  obtain ⟨t136, h135, e133, H⟩ := b2_el H
  refine J_cV (as := [.int (xs (v4 + (1 : Int32)).toNatClampNeg), .int (xs (v4 + (2 : Int32)).toNatClampNeg), .int (xs (v4 + (3 : Int32)).toNatClampNeg)]) 11 YX12_rule 3 dL_law_651 moX12_rule mvX12_rule mlL_187 g134 rfl rfl (okX12_rule (d := d + 61) e133) rfl rfl [] rfl rfl (st2 := [.int t136]) rfl ?_
  refine J_istore dL_law_654 (by decide) (ls' := [.retAddr 3000, .ref v1, .ref v2, .ref v3, .int v4, .int t129, .int t136]) rfl ?_
  refine J_aload_n 2 dL_law_656 rfl rfl ?_
  obtain ⟨g138, H⟩ := gd H
  obtain ⟨t139, e137, H⟩ := bd H
  refine J_cV (as := []) 11 YX12_thrown 0 dL_law_657 moX12_thrown mvX12_thrown mlL_166 g138 rfl rfl (okX12_thrown (d := d + 64) e137) rfl rfl [] rfl rfl (st2 := [.int t139]) rfl ?_
  refine J_iload dL_law_660 rfl ?_
  refine J_icmp_eq 667 dL_law_662 rfl (fun q140 => ?_) (fun q140 => ?_)
  · replace H := br1 q140 H
    refine J_iload dL_law_667 rfl ?_
    refine J_if_ne 684 dL_law_669 rfl (fun q141 => ?_) (fun q141 => ?_)
    · replace H := br0 q141 H
      refine J_goto 3209 dL_law_684 rfl ?_
      refine J_iinc (v4 + (6 : Int32)) dL_law_3209 rfl (congrArg (HAdd.hAdd v4) kc_6) (by decide) (ls' := [.retAddr 3000, .ref v1, .ref v2, .ref v3, .int (v4 + (6 : Int32)), .int t129, .int t136]) rfl ?_
      refine J_goto 23 dL_law_3212 rfl ?_
      cases H
      exact J_dr (hb0 _ rfl) ⟨rfl, ⟨rfl, ⟨rfl, ⟨rfl, ⟨rfl, trivial⟩⟩⟩⟩⟩
    · replace H := br1 q141 H
      refine J_aload_n 3 dL_law_672 rfl rfl ?_
      refine J_iconst (0 : Int32) dL_law_673 kc_0 ?_
      obtain ⟨g142, H⟩ := gd H
      obtain ⟨g143, H⟩ := gd H
      refine J_lald dL_law_674 g142 (inB_ok g143) ?_
      refine J_iload dL_law_675 rfl ?_
      refine J_i2l dL_law_677 ?_
      refine J_lcmp' dL_law_678 ?_
      refine J_if_eq 684 dL_law_679 rfl (fun q144 => ?_) (fun q144 => ?_)
      · replace H := br1 q144 H
        refine J_goto 3209 dL_law_684 rfl ?_
        refine J_iinc (v4 + (6 : Int32)) dL_law_3209 rfl (congrArg (HAdd.hAdd v4) kc_6) (by decide) (ls' := [.retAddr 3000, .ref v1, .ref v2, .ref v3, .int (v4 + (6 : Int32)), .int t129, .int t136]) rfl ?_
        refine J_goto 23 dL_law_3212 rfl ?_
        cases H
        exact J_dr (hb0 _ rfl) ⟨rfl, ⟨rfl, ⟨rfl, ⟨rfl, ⟨rfl, trivial⟩⟩⟩⟩⟩
      · replace H := br0 q144 H
        refine J_iconst (0 : Int32) dL_law_682 kc_0 ?_
        cases H
  · replace H := br0 q140 H
    refine J_iconst (0 : Int32) dL_law_665 kc_0 ?_
    cases H
noncomputable def ML_law_687 (L : Nat) (xs : Nat → Int32) (h : Hp) (v1 : Nat) (v2 : Nat) (v3 : Nat) (v4 : Int32) : Option ((Int32 × Hp) ⊕ (Int32 × Hp)) :=
  gg (β := ((Int32 × Hp) ⊕ (Int32 × Hp))) (inB (v4 + (1 : Int32)) L = true) <|
  gg (β := ((Int32 × Hp) ⊕ (Int32 × Hp))) (inB (v4 + (2 : Int32)) L = true) <|
  b2 (α := Int32) (β := Hp) (γ := ((Int32 × Hp) ⊕ (Int32 × Hp))) (ML_best h v1 (xs (v4 + (1 : Int32)).toNatClampNeg) (xs (v4 + (2 : Int32)).toNatClampNeg) v3) fun (t149 : Int32) (h148 : Hp) =>
  gg (β := ((Int32 × Hp) ⊕ (Int32 × Hp))) (inB (v4 + (1 : Int32)) L = true) <|
  gg (β := ((Int32 × Hp) ⊕ (Int32 × Hp))) (inB (v4 + (2 : Int32)) L = true) <|
  gg (β := ((Int32 × Hp) ⊕ (Int32 × Hp))) (kd h148 v2 = 11) <|
  b2 (α := Int32) (β := Hp) (γ := ((Int32 × Hp) ⊕ (Int32 × Hp))) (MX12_best h148 v2 (xs (v4 + (1 : Int32)).toNatClampNeg) (xs (v4 + (2 : Int32)).toNatClampNeg)) fun (t155 : Int32) (h154 : Hp) =>
  gg (β := ((Int32 × Hp) ⊕ (Int32 × Hp))) (kd h154 v2 = 11) <|
  Option.bind (α := Int32) (β := ((Int32 × Hp) ⊕ (Int32 × Hp))) (MX12_thrown h154 v2) fun (t158 : Int32) =>
  if t158 = t149 then
    if t149 = 0 then
      gg (β := ((Int32 × Hp) ⊕ (Int32 × Hp))) (kd h154 v3 = 23) <|
      gg (β := ((Int32 × Hp) ⊕ (Int32 × Hp))) (inB (0 : Int32) (ln h154 v3) = true) <|
      if (lgc (gI h154 v3 (0 : Int32).toNatClampNeg) t155) = 0 then
        some (.inl ((v4 + (6 : Int32)), h154))
      else
        none
    else
      some (.inl ((v4 + (6 : Int32)), h154))
  else
    none
set_option maxRecDepth 100000 in
set_option maxHeartbeats 8000000 in
theorem kL_law_687 {d : Nat} {L : Nat} {xs : Nat → Int32} {h : Hp} {v1 : Nat} {v2 : Nat} {v3 : Nat} {v4 : Int32} {r : Int32} {h9 : Hp} {x : ((Int32 × Hp) ⊕ (Int32 × Hp))} (H : ML_law_687 L xs h v1 v2 v3 v4 = some x) (hb0 : ∀ s : Int32 × Hp, x = .inl s → JP (PL L xs) (d + 65) YL_law 23 [.retAddr 3000, .ref v1, .ref v2, .ref v3, .int s.1, Value.null, Value.null] [] s.2 (oI r) h9) (hx : ∀ z : (Int32 × Hp), x = .inr (z) → z = (r, h9)) : JP (PL L xs) (d + 65) YL_law 687 [.retAddr 3000, .ref v1, .ref v2, .ref v3, .int v4, Value.null, Value.null] [] h (oI r) h9 := by
  unfold ML_law_687 at H
  refine J_aload_n 1 dL_law_687 rfl rfl ?_
  refine J_aload_nT 0 dL_law_688 rfl rfl ?_
  refine J_iload dL_law_689 rfl ?_
  refine J_iconst (1 : Int32) dL_law_691 kc_1 ?_
  refine J_iadd dL_law_692 ?_
  obtain ⟨g145, H⟩ := gd H
  refine J_sld dL_law_693 (inB_ok g145) ?_
  refine J_aload_nT 0 dL_law_694 rfl rfl ?_
  refine J_iload dL_law_695 rfl ?_
  refine J_iconst (2 : Int32) dL_law_697 kc_2 ?_
  refine J_iadd dL_law_698 ?_
  obtain ⟨g146, H⟩ := gd H
  refine J_sld dL_law_699 (inB_ok g146) ?_
  refine J_aload_n 3 dL_law_700 rfl rfl ?_
  obtain ⟨t149, h148, e147, H⟩ := b2_el H
  refine J_cSW (hh := hhL_best) (as := [.ref v1, .int (xs (v4 + (1 : Int32)).toNatClampNeg), .int (xs (v4 + (2 : Int32)).toNatClampNeg), .ref v3]) YL_best 4 dL_law_701 moL_best msL_best mlL_188 (okL_best (d := d + 59) e147) rfl rfl [] rfl rfl (st2 := [.int t149]) rfl ?_
  refine J_istore dL_law_704 (by decide) (ls' := [.retAddr 3000, .ref v1, .ref v2, .ref v3, .int v4, .int t149, Value.null]) rfl ?_
  refine J_aload_n 2 dL_law_706 rfl rfl ?_
  refine J_aload_nT 0 dL_law_707 rfl rfl ?_
  refine J_iload dL_law_708 rfl ?_
  refine J_iconst (1 : Int32) dL_law_710 kc_1 ?_
  refine J_iadd dL_law_711 ?_
  obtain ⟨g150, H⟩ := gd H
  refine J_sld dL_law_712 (inB_ok g150) ?_
  refine J_aload_nT 0 dL_law_713 rfl rfl ?_
  refine J_iload dL_law_714 rfl ?_
  refine J_iconst (2 : Int32) dL_law_716 kc_2 ?_
  refine J_iadd dL_law_717 ?_
  obtain ⟨g151, H⟩ := gd H
  refine J_sld dL_law_718 (inB_ok g151) ?_
  obtain ⟨g153, H⟩ := gd H
  obtain ⟨t155, h154, e152, H⟩ := b2_el H
  refine J_cV (as := [.int (xs (v4 + (1 : Int32)).toNatClampNeg), .int (xs (v4 + (2 : Int32)).toNatClampNeg)]) 11 YX12_best 2 dL_law_719 moX12_best mvX12_best mlL_190 g153 rfl rfl (okX12_best (d := d + 59) e152) rfl rfl [] rfl rfl (st2 := [.int t155]) rfl ?_
  refine J_istore dL_law_722 (by decide) (ls' := [.retAddr 3000, .ref v1, .ref v2, .ref v3, .int v4, .int t149, .int t155]) rfl ?_
  refine J_aload_n 2 dL_law_724 rfl rfl ?_
  obtain ⟨g157, H⟩ := gd H
  obtain ⟨t158, e156, H⟩ := bd H
  refine J_cV (as := []) 11 YX12_thrown 0 dL_law_725 moX12_thrown mvX12_thrown mlL_166 g157 rfl rfl (okX12_thrown (d := d + 64) e156) rfl rfl [] rfl rfl (st2 := [.int t158]) rfl ?_
  refine J_iload dL_law_728 rfl ?_
  refine J_icmp_eq 735 dL_law_730 rfl (fun q159 => ?_) (fun q159 => ?_)
  · replace H := br1 q159 H
    refine J_iload dL_law_735 rfl ?_
    refine J_if_ne 752 dL_law_737 rfl (fun q160 => ?_) (fun q160 => ?_)
    · replace H := br0 q160 H
      refine J_goto 3209 dL_law_752 rfl ?_
      refine J_iinc (v4 + (6 : Int32)) dL_law_3209 rfl (congrArg (HAdd.hAdd v4) kc_6) (by decide) (ls' := [.retAddr 3000, .ref v1, .ref v2, .ref v3, .int (v4 + (6 : Int32)), .int t149, .int t155]) rfl ?_
      refine J_goto 23 dL_law_3212 rfl ?_
      cases H
      exact J_dr (hb0 _ rfl) ⟨rfl, ⟨rfl, ⟨rfl, ⟨rfl, ⟨rfl, trivial⟩⟩⟩⟩⟩
    · replace H := br1 q160 H
      refine J_aload_n 3 dL_law_740 rfl rfl ?_
      refine J_iconst (0 : Int32) dL_law_741 kc_0 ?_
      obtain ⟨g161, H⟩ := gd H
      obtain ⟨g162, H⟩ := gd H
      refine J_lald dL_law_742 g161 (inB_ok g162) ?_
      refine J_iload dL_law_743 rfl ?_
      refine J_i2l dL_law_745 ?_
      refine J_lcmp' dL_law_746 ?_
      refine J_if_eq 752 dL_law_747 rfl (fun q163 => ?_) (fun q163 => ?_)
      · replace H := br1 q163 H
        refine J_goto 3209 dL_law_752 rfl ?_
        refine J_iinc (v4 + (6 : Int32)) dL_law_3209 rfl (congrArg (HAdd.hAdd v4) kc_6) (by decide) (ls' := [.retAddr 3000, .ref v1, .ref v2, .ref v3, .int (v4 + (6 : Int32)), .int t149, .int t155]) rfl ?_
        refine J_goto 23 dL_law_3212 rfl ?_
        cases H
        exact J_dr (hb0 _ rfl) ⟨rfl, ⟨rfl, ⟨rfl, ⟨rfl, ⟨rfl, trivial⟩⟩⟩⟩⟩
      · replace H := br0 q163 H
        refine J_iconst (0 : Int32) dL_law_750 kc_0 ?_
        cases H
  · replace H := br0 q159 H
    refine J_iconst (0 : Int32) dL_law_733 kc_0 ?_
    cases H
noncomputable def ML_law_755 (L : Nat) (xs : Nat → Int32) (h : Hp) (v1 : Nat) (v2 : Nat) (v3 : Nat) (v4 : Int32) : Option ((Int32 × Hp) ⊕ (Int32 × Hp)) :=
  gg (β := ((Int32 × Hp) ⊕ (Int32 × Hp))) (inB (v4 + (1 : Int32)) L = true) <|
  gg (β := ((Int32 × Hp) ⊕ (Int32 × Hp))) (inB (v4 + (2 : Int32)) L = true) <|
  b2 (α := Int32) (β := Hp) (γ := ((Int32 × Hp) ⊕ (Int32 × Hp))) (ML_ends h v1 (xs (v4 + (1 : Int32)).toNatClampNeg) (xs (v4 + (2 : Int32)).toNatClampNeg) v3) fun (t168 : Int32) (h167 : Hp) =>
  gg (β := ((Int32 × Hp) ⊕ (Int32 × Hp))) (inB (v4 + (1 : Int32)) L = true) <|
  gg (β := ((Int32 × Hp) ⊕ (Int32 × Hp))) (inB (v4 + (2 : Int32)) L = true) <|
  gg (β := ((Int32 × Hp) ⊕ (Int32 × Hp))) (kd h167 v2 = 11) <|
  b2 (α := Int32) (β := Hp) (γ := ((Int32 × Hp) ⊕ (Int32 × Hp))) (MX12_ends h167 v2 (xs (v4 + (1 : Int32)).toNatClampNeg) (xs (v4 + (2 : Int32)).toNatClampNeg)) fun (t174 : Int32) (h173 : Hp) =>
  gg (β := ((Int32 × Hp) ⊕ (Int32 × Hp))) (kd h173 v2 = 11) <|
  Option.bind (α := Int32) (β := ((Int32 × Hp) ⊕ (Int32 × Hp))) (MX12_thrown h173 v2) fun (t177 : Int32) =>
  if t177 = t168 then
    if t168 = 0 then
      gg (β := ((Int32 × Hp) ⊕ (Int32 × Hp))) (kd h173 v3 = 23) <|
      gg (β := ((Int32 × Hp) ⊕ (Int32 × Hp))) (inB (0 : Int32) (ln h173 v3) = true) <|
      if (lgc (gI h173 v3 (0 : Int32).toNatClampNeg) t174) = 0 then
        some (.inl ((v4 + (6 : Int32)), h173))
      else
        none
    else
      some (.inl ((v4 + (6 : Int32)), h173))
  else
    none
set_option maxRecDepth 100000 in
set_option maxHeartbeats 8000000 in
theorem kL_law_755 {d : Nat} {L : Nat} {xs : Nat → Int32} {h : Hp} {v1 : Nat} {v2 : Nat} {v3 : Nat} {v4 : Int32} {r : Int32} {h9 : Hp} {x : ((Int32 × Hp) ⊕ (Int32 × Hp))} (H : ML_law_755 L xs h v1 v2 v3 v4 = some x) (hb0 : ∀ s : Int32 × Hp, x = .inl s → JP (PL L xs) (d + 65) YL_law 23 [.retAddr 3000, .ref v1, .ref v2, .ref v3, .int s.1, Value.null, Value.null] [] s.2 (oI r) h9) (hx : ∀ z : (Int32 × Hp), x = .inr (z) → z = (r, h9)) : JP (PL L xs) (d + 65) YL_law 755 [.retAddr 3000, .ref v1, .ref v2, .ref v3, .int v4, Value.null, Value.null] [] h (oI r) h9 := by
  unfold ML_law_755 at H
  refine J_aload_n 1 dL_law_755 rfl rfl ?_
  refine J_aload_nT 0 dL_law_756 rfl rfl ?_
  refine J_iload dL_law_757 rfl ?_
  refine J_iconst (1 : Int32) dL_law_759 kc_1 ?_
  refine J_iadd dL_law_760 ?_
  obtain ⟨g164, H⟩ := gd H
  refine J_sld dL_law_761 (inB_ok g164) ?_
  refine J_aload_nT 0 dL_law_762 rfl rfl ?_
  refine J_iload dL_law_763 rfl ?_
  refine J_iconst (2 : Int32) dL_law_765 kc_2 ?_
  refine J_iadd dL_law_766 ?_
  obtain ⟨g165, H⟩ := gd H
  refine J_sld dL_law_767 (inB_ok g165) ?_
  refine J_aload_n 3 dL_law_768 rfl rfl ?_
  obtain ⟨t168, h167, e166, H⟩ := b2_el H
  refine J_cSW (hh := hhL_ends) (as := [.ref v1, .int (xs (v4 + (1 : Int32)).toNatClampNeg), .int (xs (v4 + (2 : Int32)).toNatClampNeg), .ref v3]) YL_ends 4 dL_law_769 moL_ends msL_ends mlL_191 (okL_ends (d := d + 59) e166) rfl rfl [] rfl rfl (st2 := [.int t168]) rfl ?_
  refine J_istore dL_law_772 (by decide) (ls' := [.retAddr 3000, .ref v1, .ref v2, .ref v3, .int v4, .int t168, Value.null]) rfl ?_
  refine J_aload_n 2 dL_law_774 rfl rfl ?_
  refine J_aload_nT 0 dL_law_775 rfl rfl ?_
  refine J_iload dL_law_776 rfl ?_
  refine J_iconst (1 : Int32) dL_law_778 kc_1 ?_
  refine J_iadd dL_law_779 ?_
  obtain ⟨g169, H⟩ := gd H
  refine J_sld dL_law_780 (inB_ok g169) ?_
  refine J_aload_nT 0 dL_law_781 rfl rfl ?_
  refine J_iload dL_law_782 rfl ?_
  refine J_iconst (2 : Int32) dL_law_784 kc_2 ?_
  refine J_iadd dL_law_785 ?_
  obtain ⟨g170, H⟩ := gd H
  refine J_sld dL_law_786 (inB_ok g170) ?_
  obtain ⟨g172, H⟩ := gd H
  obtain ⟨t174, h173, e171, H⟩ := b2_el H
  refine J_cV (as := [.int (xs (v4 + (1 : Int32)).toNatClampNeg), .int (xs (v4 + (2 : Int32)).toNatClampNeg)]) 11 YX12_ends 2 dL_law_787 moX12_ends mvX12_ends mlL_193 g172 rfl rfl (okX12_ends (d := d + 59) e171) rfl rfl [] rfl rfl (st2 := [.int t174]) rfl ?_
  refine J_istore dL_law_790 (by decide) (ls' := [.retAddr 3000, .ref v1, .ref v2, .ref v3, .int v4, .int t168, .int t174]) rfl ?_
  refine J_aload_n 2 dL_law_792 rfl rfl ?_
  obtain ⟨g176, H⟩ := gd H
  obtain ⟨t177, e175, H⟩ := bd H
  refine J_cV (as := []) 11 YX12_thrown 0 dL_law_793 moX12_thrown mvX12_thrown mlL_166 g176 rfl rfl (okX12_thrown (d := d + 64) e175) rfl rfl [] rfl rfl (st2 := [.int t177]) rfl ?_
  refine J_iload dL_law_796 rfl ?_
  refine J_icmp_eq 803 dL_law_798 rfl (fun q178 => ?_) (fun q178 => ?_)
  · replace H := br1 q178 H
    refine J_iload dL_law_803 rfl ?_
    refine J_if_ne 820 dL_law_805 rfl (fun q179 => ?_) (fun q179 => ?_)
    · replace H := br0 q179 H
      refine J_goto 3209 dL_law_820 rfl ?_
      refine J_iinc (v4 + (6 : Int32)) dL_law_3209 rfl (congrArg (HAdd.hAdd v4) kc_6) (by decide) (ls' := [.retAddr 3000, .ref v1, .ref v2, .ref v3, .int (v4 + (6 : Int32)), .int t168, .int t174]) rfl ?_
      refine J_goto 23 dL_law_3212 rfl ?_
      cases H
      exact J_dr (hb0 _ rfl) ⟨rfl, ⟨rfl, ⟨rfl, ⟨rfl, ⟨rfl, trivial⟩⟩⟩⟩⟩
    · replace H := br1 q179 H
      refine J_aload_n 3 dL_law_808 rfl rfl ?_
      refine J_iconst (0 : Int32) dL_law_809 kc_0 ?_
      obtain ⟨g180, H⟩ := gd H
      obtain ⟨g181, H⟩ := gd H
      refine J_lald dL_law_810 g180 (inB_ok g181) ?_
      refine J_iload dL_law_811 rfl ?_
      refine J_i2l dL_law_813 ?_
      refine J_lcmp' dL_law_814 ?_
      refine J_if_eq 820 dL_law_815 rfl (fun q182 => ?_) (fun q182 => ?_)
      · replace H := br1 q182 H
        refine J_goto 3209 dL_law_820 rfl ?_
        refine J_iinc (v4 + (6 : Int32)) dL_law_3209 rfl (congrArg (HAdd.hAdd v4) kc_6) (by decide) (ls' := [.retAddr 3000, .ref v1, .ref v2, .ref v3, .int (v4 + (6 : Int32)), .int t168, .int t174]) rfl ?_
        refine J_goto 23 dL_law_3212 rfl ?_
        cases H
        exact J_dr (hb0 _ rfl) ⟨rfl, ⟨rfl, ⟨rfl, ⟨rfl, ⟨rfl, trivial⟩⟩⟩⟩⟩
      · replace H := br0 q182 H
        refine J_iconst (0 : Int32) dL_law_818 kc_0 ?_
        cases H
  · replace H := br0 q178 H
    refine J_iconst (0 : Int32) dL_law_801 kc_0 ?_
    cases H
noncomputable def ML_law_871 (L : Nat) (xs : Nat → Int32) (h : Hp) (v1 : Nat) (v2 : Nat) (v3 : Nat) (v4 : Int32) (v5 : Int32) (s0 : Nat) (s1 : Int32) (s2 : Int32) : Option ((Int32 × Hp) ⊕ (Int32 × Hp)) :=
  gg (β := ((Int32 × Hp) ⊕ (Int32 × Hp))) (kd h s0 = 11) <|
  b2 (α := Int32) (β := Hp) (γ := ((Int32 × Hp) ⊕ (Int32 × Hp))) (MX12_hand h s0 s1 s2) fun (t195 : Int32) (h194 : Hp) =>
  gg (β := ((Int32 × Hp) ⊕ (Int32 × Hp))) (kd h194 v2 = 11) <|
  Option.bind (α := Int32) (β := ((Int32 × Hp) ⊕ (Int32 × Hp))) (MX12_thrown h194 v2) fun (t198 : Int32) =>
  if t198 = v5 then
    if v5 = 0 then
      gg (β := ((Int32 × Hp) ⊕ (Int32 × Hp))) (kd h194 v3 = 23) <|
      gg (β := ((Int32 × Hp) ⊕ (Int32 × Hp))) (inB (0 : Int32) (ln h194 v3) = true) <|
      if (lgc (gI h194 v3 (0 : Int32).toNatClampNeg) t195) = 0 then
        some (.inl ((v4 + (6 : Int32)), h194))
      else
        none
    else
      some (.inl ((v4 + (6 : Int32)), h194))
  else
    none
set_option maxRecDepth 100000 in
set_option maxHeartbeats 8000000 in
theorem kL_law_871 {d : Nat} {L : Nat} {xs : Nat → Int32} {h : Hp} {v1 : Nat} {v2 : Nat} {v3 : Nat} {v4 : Int32} {v5 : Int32} {s0 : Nat} {s1 : Int32} {s2 : Int32} {r : Int32} {h9 : Hp} {x : ((Int32 × Hp) ⊕ (Int32 × Hp))} (H : ML_law_871 L xs h v1 v2 v3 v4 v5 s0 s1 s2 = some x) (hb0 : ∀ s : Int32 × Hp, x = .inl s → JP (PL L xs) (d + 65) YL_law 23 [.retAddr 3000, .ref v1, .ref v2, .ref v3, .int s.1, Value.null, Value.null] [] s.2 (oI r) h9) (hx : ∀ z : (Int32 × Hp), x = .inr (z) → z = (r, h9)) : JP (PL L xs) (d + 65) YL_law 871 [.retAddr 3000, .ref v1, .ref v2, .ref v3, .int v4, .int v5, Value.null] [.int s2, .int s1, .ref s0] h (oI r) h9 := by
  unfold ML_law_871 at H
  obtain ⟨g193, H⟩ := gd H
  obtain ⟨t195, h194, e192, H⟩ := b2_el H
  refine J_cV (as := [.int s1, .int s2]) 11 YX12_hand 2 dL_law_871 moX12_hand mvX12_hand mlL_197 g193 rfl rfl (okX12_hand (d := d + 60) e192) rfl rfl [] rfl rfl (st2 := [.int t195]) rfl ?_
  refine J_istore dL_law_874 (by decide) (ls' := [.retAddr 3000, .ref v1, .ref v2, .ref v3, .int v4, .int v5, .int t195]) rfl ?_
  refine J_aload_n 2 dL_law_876 rfl rfl ?_
  obtain ⟨g197, H⟩ := gd H
  obtain ⟨t198, e196, H⟩ := bd H
  refine J_cV (as := []) 11 YX12_thrown 0 dL_law_877 moX12_thrown mvX12_thrown mlL_166 g197 rfl rfl (okX12_thrown (d := d + 64) e196) rfl rfl [] rfl rfl (st2 := [.int t198]) rfl ?_
  refine J_iload dL_law_880 rfl ?_
  refine J_icmp_eq 887 dL_law_882 rfl (fun q199 => ?_) (fun q199 => ?_)
  · replace H := br1 q199 H
    refine J_iload dL_law_887 rfl ?_
    refine J_if_ne 904 dL_law_889 rfl (fun q200 => ?_) (fun q200 => ?_)
    · replace H := br0 q200 H
      refine J_goto 3209 dL_law_904 rfl ?_
      refine J_iinc (v4 + (6 : Int32)) dL_law_3209 rfl (congrArg (HAdd.hAdd v4) kc_6) (by decide) (ls' := [.retAddr 3000, .ref v1, .ref v2, .ref v3, .int (v4 + (6 : Int32)), .int v5, .int t195]) rfl ?_
      refine J_goto 23 dL_law_3212 rfl ?_
      cases H
      exact J_dr (hb0 _ rfl) ⟨rfl, ⟨rfl, ⟨rfl, ⟨rfl, ⟨rfl, trivial⟩⟩⟩⟩⟩
    · replace H := br1 q200 H
      refine J_aload_n 3 dL_law_892 rfl rfl ?_
      refine J_iconst (0 : Int32) dL_law_893 kc_0 ?_
      obtain ⟨g201, H⟩ := gd H
      obtain ⟨g202, H⟩ := gd H
      refine J_lald dL_law_894 g201 (inB_ok g202) ?_
      refine J_iload dL_law_895 rfl ?_
      refine J_i2l dL_law_897 ?_
      refine J_lcmp' dL_law_898 ?_
      refine J_if_eq 904 dL_law_899 rfl (fun q203 => ?_) (fun q203 => ?_)
      · replace H := br1 q203 H
        refine J_goto 3209 dL_law_904 rfl ?_
        refine J_iinc (v4 + (6 : Int32)) dL_law_3209 rfl (congrArg (HAdd.hAdd v4) kc_6) (by decide) (ls' := [.retAddr 3000, .ref v1, .ref v2, .ref v3, .int (v4 + (6 : Int32)), .int v5, .int t195]) rfl ?_
        refine J_goto 23 dL_law_3212 rfl ?_
        cases H
        exact J_dr (hb0 _ rfl) ⟨rfl, ⟨rfl, ⟨rfl, ⟨rfl, ⟨rfl, trivial⟩⟩⟩⟩⟩
      · replace H := br0 q203 H
        refine J_iconst (0 : Int32) dL_law_902 kc_0 ?_
        cases H
  · replace H := br0 q199 H
    refine J_iconst (0 : Int32) dL_law_885 kc_0 ?_
    cases H
noncomputable def ML_law_844 (L : Nat) (xs : Nat → Int32) (h : Hp) (v1 : Nat) (v2 : Nat) (v3 : Nat) (v4 : Int32) (s0 : Nat) (s1 : Int32) (s2 : Int32) : Option ((Int32 × Hp) ⊕ (Int32 × Hp)) :=
  b2 (α := Int32) (β := Hp) (γ := ((Int32 × Hp) ⊕ (Int32 × Hp))) (ML_hand h s0 s1 s2 v3) fun (t188 : Int32) (h187 : Hp) =>
  gg (β := ((Int32 × Hp) ⊕ (Int32 × Hp))) (inB (v4 + (1 : Int32)) L = true) <|
  gg (β := ((Int32 × Hp) ⊕ (Int32 × Hp))) (inB (v4 + (2 : Int32)) L = true) <|
  if (xs (v4 + (2 : Int32)).toNatClampNeg) = 0 then
    ML_law_871 L xs h187 v1 v2 v3 v4 t188 v2 (xs (v4 + (1 : Int32)).toNatClampNeg) (0 : Int32)
  else
    ML_law_871 L xs h187 v1 v2 v3 v4 t188 v2 (xs (v4 + (1 : Int32)).toNatClampNeg) (1 : Int32)
set_option maxRecDepth 100000 in
set_option maxHeartbeats 8000000 in
theorem kL_law_844 {d : Nat} {L : Nat} {xs : Nat → Int32} {h : Hp} {v1 : Nat} {v2 : Nat} {v3 : Nat} {v4 : Int32} {s0 : Nat} {s1 : Int32} {s2 : Int32} {r : Int32} {h9 : Hp} {x : ((Int32 × Hp) ⊕ (Int32 × Hp))} (H : ML_law_844 L xs h v1 v2 v3 v4 s0 s1 s2 = some x) (hb0 : ∀ s : Int32 × Hp, x = .inl s → JP (PL L xs) (d + 65) YL_law 23 [.retAddr 3000, .ref v1, .ref v2, .ref v3, .int s.1, Value.null, Value.null] [] s.2 (oI r) h9) (hx : ∀ z : (Int32 × Hp), x = .inr (z) → z = (r, h9)) : JP (PL L xs) (d + 65) YL_law 844 [.retAddr 3000, .ref v1, .ref v2, .ref v3, .int v4, Value.null, Value.null] [.int s2, .int s1, .ref s0] h (oI r) h9 := by
  unfold ML_law_844 at H
  refine J_aload_n 3 dL_law_844 rfl rfl ?_
  obtain ⟨t188, h187, e186, H⟩ := b2_el H
  refine J_cSW (hh := hhL_hand) (as := [.ref s0, .int s1, .int s2, .ref v3]) YL_hand 4 dL_law_845 moL_hand msL_hand mlL_194 (okL_hand (d := d + 59) e186) rfl rfl [] rfl rfl (st2 := [.int t188]) rfl ?_
  refine J_istore dL_law_848 (by decide) (ls' := [.retAddr 3000, .ref v1, .ref v2, .ref v3, .int v4, .int t188, Value.null]) rfl ?_
  refine J_aload_n 2 dL_law_850 rfl rfl ?_
  refine J_aload_nT 0 dL_law_851 rfl rfl ?_
  refine J_iload dL_law_852 rfl ?_
  refine J_iconst (1 : Int32) dL_law_854 kc_1 ?_
  refine J_iadd dL_law_855 ?_
  obtain ⟨g189, H⟩ := gd H
  refine J_sld dL_law_856 (inB_ok g189) ?_
  refine J_aload_nT 0 dL_law_857 rfl rfl ?_
  refine J_iload dL_law_858 rfl ?_
  refine J_iconst (2 : Int32) dL_law_860 kc_2 ?_
  refine J_iadd dL_law_861 ?_
  obtain ⟨g190, H⟩ := gd H
  refine J_sld dL_law_862 (inB_ok g190) ?_
  refine J_if_eq 870 dL_law_863 rfl (fun q191 => ?_) (fun q191 => ?_)
  · replace H := br1 q191 H
    refine J_iconst (0 : Int32) dL_law_870 kc_0 ?_
    exact J_dr (kL_law_871 H hb0 hx) ⟨rfl, ⟨rfl, ⟨rfl, ⟨rfl, ⟨rfl, ⟨rfl, trivial⟩⟩⟩⟩⟩⟩
  · replace H := br0 q191 H
    refine J_iconst (1 : Int32) dL_law_866 kc_1 ?_
    refine J_goto 871 dL_law_867 rfl ?_
    exact J_dr (kL_law_871 H hb0 hx) ⟨rfl, ⟨rfl, ⟨rfl, ⟨rfl, ⟨rfl, ⟨rfl, trivial⟩⟩⟩⟩⟩⟩
noncomputable def ML_law_823 (L : Nat) (xs : Nat → Int32) (h : Hp) (v1 : Nat) (v2 : Nat) (v3 : Nat) (v4 : Int32) : Option ((Int32 × Hp) ⊕ (Int32 × Hp)) :=
  gg (β := ((Int32 × Hp) ⊕ (Int32 × Hp))) (inB (v4 + (1 : Int32)) L = true) <|
  gg (β := ((Int32 × Hp) ⊕ (Int32 × Hp))) (inB (v4 + (2 : Int32)) L = true) <|
  if (xs (v4 + (2 : Int32)).toNatClampNeg) = 0 then
    ML_law_844 L xs h v1 v2 v3 v4 v1 (xs (v4 + (1 : Int32)).toNatClampNeg) (0 : Int32)
  else
    ML_law_844 L xs h v1 v2 v3 v4 v1 (xs (v4 + (1 : Int32)).toNatClampNeg) (1 : Int32)
set_option maxRecDepth 100000 in
set_option maxHeartbeats 8000000 in
theorem kL_law_823 {d : Nat} {L : Nat} {xs : Nat → Int32} {h : Hp} {v1 : Nat} {v2 : Nat} {v3 : Nat} {v4 : Int32} {r : Int32} {h9 : Hp} {x : ((Int32 × Hp) ⊕ (Int32 × Hp))} (H : ML_law_823 L xs h v1 v2 v3 v4 = some x) (hb0 : ∀ s : Int32 × Hp, x = .inl s → JP (PL L xs) (d + 65) YL_law 23 [.retAddr 3000, .ref v1, .ref v2, .ref v3, .int s.1, Value.null, Value.null] [] s.2 (oI r) h9) (hx : ∀ z : (Int32 × Hp), x = .inr (z) → z = (r, h9)) : JP (PL L xs) (d + 65) YL_law 823 [.retAddr 3000, .ref v1, .ref v2, .ref v3, .int v4, Value.null, Value.null] [] h (oI r) h9 := by
  unfold ML_law_823 at H
  refine J_aload_n 1 dL_law_823 rfl rfl ?_
  refine J_aload_nT 0 dL_law_824 rfl rfl ?_
  refine J_iload dL_law_825 rfl ?_
  refine J_iconst (1 : Int32) dL_law_827 kc_1 ?_
  refine J_iadd dL_law_828 ?_
  obtain ⟨g183, H⟩ := gd H
  refine J_sld dL_law_829 (inB_ok g183) ?_
  refine J_aload_nT 0 dL_law_830 rfl rfl ?_
  refine J_iload dL_law_831 rfl ?_
  refine J_iconst (2 : Int32) dL_law_833 kc_2 ?_
  refine J_iadd dL_law_834 ?_
  obtain ⟨g184, H⟩ := gd H
  refine J_sld dL_law_835 (inB_ok g184) ?_
  refine J_if_eq 843 dL_law_836 rfl (fun q185 => ?_) (fun q185 => ?_)
  · replace H := br1 q185 H
    refine J_iconst (0 : Int32) dL_law_843 kc_0 ?_
    exact J_dr (kL_law_844 H hb0 hx) ⟨rfl, ⟨rfl, ⟨rfl, ⟨rfl, ⟨rfl, trivial⟩⟩⟩⟩⟩
  · replace H := br0 q185 H
    refine J_iconst (1 : Int32) dL_law_839 kc_1 ?_
    refine J_goto 844 dL_law_840 rfl ?_
    exact J_dr (kL_law_844 H hb0 hx) ⟨rfl, ⟨rfl, ⟨rfl, ⟨rfl, ⟨rfl, trivial⟩⟩⟩⟩⟩
noncomputable def ML_law_907 (L : Nat) (xs : Nat → Int32) (h : Hp) (v1 : Nat) (v2 : Nat) (v3 : Nat) (v4 : Int32) : Option ((Int32 × Hp) ⊕ (Int32 × Hp)) :=
  gg (β := ((Int32 × Hp) ⊕ (Int32 × Hp))) (inB (v4 + (1 : Int32)) L = true) <|
  gg (β := ((Int32 × Hp) ⊕ (Int32 × Hp))) (inB (v4 + (2 : Int32)) L = true) <|
  b2 (α := Int32) (β := Hp) (γ := ((Int32 × Hp) ⊕ (Int32 × Hp))) (ML_machine h v1 (xs (v4 + (1 : Int32)).toNatClampNeg) (xs (v4 + (2 : Int32)).toNatClampNeg) v3) fun (t208 : Int32) (h207 : Hp) =>
  gg (β := ((Int32 × Hp) ⊕ (Int32 × Hp))) (inB (v4 + (1 : Int32)) L = true) <|
  gg (β := ((Int32 × Hp) ⊕ (Int32 × Hp))) (inB (v4 + (2 : Int32)) L = true) <|
  gg (β := ((Int32 × Hp) ⊕ (Int32 × Hp))) (kd h207 v2 = 11) <|
  b2 (α := Int32) (β := Hp) (γ := ((Int32 × Hp) ⊕ (Int32 × Hp))) (MX12_machine h207 v2 (xs (v4 + (1 : Int32)).toNatClampNeg) (xs (v4 + (2 : Int32)).toNatClampNeg)) fun (t214 : Int32) (h213 : Hp) =>
  gg (β := ((Int32 × Hp) ⊕ (Int32 × Hp))) (kd h213 v2 = 11) <|
  Option.bind (α := Int32) (β := ((Int32 × Hp) ⊕ (Int32 × Hp))) (MX12_thrown h213 v2) fun (t217 : Int32) =>
  if t217 = t208 then
    if t208 = 0 then
      gg (β := ((Int32 × Hp) ⊕ (Int32 × Hp))) (kd h213 v3 = 23) <|
      gg (β := ((Int32 × Hp) ⊕ (Int32 × Hp))) (inB (0 : Int32) (ln h213 v3) = true) <|
      if (lgc (gI h213 v3 (0 : Int32).toNatClampNeg) t214) = 0 then
        some (.inl ((v4 + (6 : Int32)), h213))
      else
        none
    else
      some (.inl ((v4 + (6 : Int32)), h213))
  else
    none
set_option maxRecDepth 100000 in
set_option maxHeartbeats 8000000 in
theorem kL_law_907 {d : Nat} {L : Nat} {xs : Nat → Int32} {h : Hp} {v1 : Nat} {v2 : Nat} {v3 : Nat} {v4 : Int32} {r : Int32} {h9 : Hp} {x : ((Int32 × Hp) ⊕ (Int32 × Hp))} (H : ML_law_907 L xs h v1 v2 v3 v4 = some x) (hb0 : ∀ s : Int32 × Hp, x = .inl s → JP (PL L xs) (d + 65) YL_law 23 [.retAddr 3000, .ref v1, .ref v2, .ref v3, .int s.1, Value.null, Value.null] [] s.2 (oI r) h9) (hx : ∀ z : (Int32 × Hp), x = .inr (z) → z = (r, h9)) : JP (PL L xs) (d + 65) YL_law 907 [.retAddr 3000, .ref v1, .ref v2, .ref v3, .int v4, Value.null, Value.null] [] h (oI r) h9 := by
  unfold ML_law_907 at H
  refine J_aload_n 1 dL_law_907 rfl rfl ?_
  refine J_aload_nT 0 dL_law_908 rfl rfl ?_
  refine J_iload dL_law_909 rfl ?_
  refine J_iconst (1 : Int32) dL_law_911 kc_1 ?_
  refine J_iadd dL_law_912 ?_
  obtain ⟨g204, H⟩ := gd H
  refine J_sld dL_law_913 (inB_ok g204) ?_
  refine J_aload_nT 0 dL_law_914 rfl rfl ?_
  refine J_iload dL_law_915 rfl ?_
  refine J_iconst (2 : Int32) dL_law_917 kc_2 ?_
  refine J_iadd dL_law_918 ?_
  obtain ⟨g205, H⟩ := gd H
  refine J_sld dL_law_919 (inB_ok g205) ?_
  refine J_aload_n 3 dL_law_920 rfl rfl ?_
  obtain ⟨t208, h207, e206, H⟩ := b2_el H
  refine J_cSW (hh := hhL_machine) (as := [.ref v1, .int (xs (v4 + (1 : Int32)).toNatClampNeg), .int (xs (v4 + (2 : Int32)).toNatClampNeg), .ref v3]) YL_machine 4 dL_law_921 moL_machine msL_machine mlL_198 (okL_machine (d := d + 60) e206) rfl rfl [] rfl rfl (st2 := [.int t208]) rfl ?_
  refine J_istore dL_law_924 (by decide) (ls' := [.retAddr 3000, .ref v1, .ref v2, .ref v3, .int v4, .int t208, Value.null]) rfl ?_
  refine J_aload_n 2 dL_law_926 rfl rfl ?_
  refine J_aload_nT 0 dL_law_927 rfl rfl ?_
  refine J_iload dL_law_928 rfl ?_
  refine J_iconst (1 : Int32) dL_law_930 kc_1 ?_
  refine J_iadd dL_law_931 ?_
  obtain ⟨g209, H⟩ := gd H
  refine J_sld dL_law_932 (inB_ok g209) ?_
  refine J_aload_nT 0 dL_law_933 rfl rfl ?_
  refine J_iload dL_law_934 rfl ?_
  refine J_iconst (2 : Int32) dL_law_936 kc_2 ?_
  refine J_iadd dL_law_937 ?_
  obtain ⟨g210, H⟩ := gd H
  refine J_sld dL_law_938 (inB_ok g210) ?_
  obtain ⟨g212, H⟩ := gd H
  obtain ⟨t214, h213, e211, H⟩ := b2_el H
  refine J_cV (as := [.int (xs (v4 + (1 : Int32)).toNatClampNeg), .int (xs (v4 + (2 : Int32)).toNatClampNeg)]) 11 YX12_machine 2 dL_law_939 moX12_machine mvX12_machine mlL_200 g212 rfl rfl (okX12_machine (d := d + 63) e211) rfl rfl [] rfl rfl (st2 := [.int t214]) rfl ?_
  refine J_istore dL_law_942 (by decide) (ls' := [.retAddr 3000, .ref v1, .ref v2, .ref v3, .int v4, .int t208, .int t214]) rfl ?_
  refine J_aload_n 2 dL_law_944 rfl rfl ?_
  obtain ⟨g216, H⟩ := gd H
  obtain ⟨t217, e215, H⟩ := bd H
  refine J_cV (as := []) 11 YX12_thrown 0 dL_law_945 moX12_thrown mvX12_thrown mlL_166 g216 rfl rfl (okX12_thrown (d := d + 64) e215) rfl rfl [] rfl rfl (st2 := [.int t217]) rfl ?_
  refine J_iload dL_law_948 rfl ?_
  refine J_icmp_eq 955 dL_law_950 rfl (fun q218 => ?_) (fun q218 => ?_)
  · replace H := br1 q218 H
    refine J_iload dL_law_955 rfl ?_
    refine J_if_ne 972 dL_law_957 rfl (fun q219 => ?_) (fun q219 => ?_)
    · replace H := br0 q219 H
      refine J_goto 3209 dL_law_972 rfl ?_
      refine J_iinc (v4 + (6 : Int32)) dL_law_3209 rfl (congrArg (HAdd.hAdd v4) kc_6) (by decide) (ls' := [.retAddr 3000, .ref v1, .ref v2, .ref v3, .int (v4 + (6 : Int32)), .int t208, .int t214]) rfl ?_
      refine J_goto 23 dL_law_3212 rfl ?_
      cases H
      exact J_dr (hb0 _ rfl) ⟨rfl, ⟨rfl, ⟨rfl, ⟨rfl, ⟨rfl, trivial⟩⟩⟩⟩⟩
    · replace H := br1 q219 H
      refine J_aload_n 3 dL_law_960 rfl rfl ?_
      refine J_iconst (0 : Int32) dL_law_961 kc_0 ?_
      obtain ⟨g220, H⟩ := gd H
      obtain ⟨g221, H⟩ := gd H
      refine J_lald dL_law_962 g220 (inB_ok g221) ?_
      refine J_iload dL_law_963 rfl ?_
      refine J_i2l dL_law_965 ?_
      refine J_lcmp' dL_law_966 ?_
      refine J_if_eq 972 dL_law_967 rfl (fun q222 => ?_) (fun q222 => ?_)
      · replace H := br1 q222 H
        refine J_goto 3209 dL_law_972 rfl ?_
        refine J_iinc (v4 + (6 : Int32)) dL_law_3209 rfl (congrArg (HAdd.hAdd v4) kc_6) (by decide) (ls' := [.retAddr 3000, .ref v1, .ref v2, .ref v3, .int (v4 + (6 : Int32)), .int t208, .int t214]) rfl ?_
        refine J_goto 23 dL_law_3212 rfl ?_
        cases H
        exact J_dr (hb0 _ rfl) ⟨rfl, ⟨rfl, ⟨rfl, ⟨rfl, ⟨rfl, trivial⟩⟩⟩⟩⟩
      · replace H := br0 q222 H
        refine J_iconst (0 : Int32) dL_law_970 kc_0 ?_
        cases H
  · replace H := br0 q218 H
    refine J_iconst (0 : Int32) dL_law_953 kc_0 ?_
    cases H
noncomputable def ML_law_975 (L : Nat) (xs : Nat → Int32) (h : Hp) (v1 : Nat) (v2 : Nat) (v3 : Nat) (v4 : Int32) : Option ((Int32 × Hp) ⊕ (Int32 × Hp)) :=
  gg (β := ((Int32 × Hp) ⊕ (Int32 × Hp))) (inB (v4 + (1 : Int32)) L = true) <|
  gg (β := ((Int32 × Hp) ⊕ (Int32 × Hp))) (inB (v4 + (2 : Int32)) L = true) <|
  gg (β := ((Int32 × Hp) ⊕ (Int32 × Hp))) (inB (v4 + (3 : Int32)) L = true) <|
  b2 (α := Int32) (β := Hp) (γ := ((Int32 × Hp) ⊕ (Int32 × Hp))) (ML_brass h v1 (xs (v4 + (1 : Int32)).toNatClampNeg) (xs (v4 + (2 : Int32)).toNatClampNeg) (xs (v4 + (3 : Int32)).toNatClampNeg) v3) fun (t228 : Int32) (h227 : Hp) =>
  gg (β := ((Int32 × Hp) ⊕ (Int32 × Hp))) (inB (v4 + (1 : Int32)) L = true) <|
  gg (β := ((Int32 × Hp) ⊕ (Int32 × Hp))) (inB (v4 + (2 : Int32)) L = true) <|
  gg (β := ((Int32 × Hp) ⊕ (Int32 × Hp))) (inB (v4 + (3 : Int32)) L = true) <|
  gg (β := ((Int32 × Hp) ⊕ (Int32 × Hp))) (kd h227 v2 = 11) <|
  b2 (α := Int32) (β := Hp) (γ := ((Int32 × Hp) ⊕ (Int32 × Hp))) (MX12_brass h227 v2 (xs (v4 + (1 : Int32)).toNatClampNeg) (xs (v4 + (2 : Int32)).toNatClampNeg) (xs (v4 + (3 : Int32)).toNatClampNeg)) fun (t235 : Int32) (h234 : Hp) =>
  gg (β := ((Int32 × Hp) ⊕ (Int32 × Hp))) (kd h234 v2 = 11) <|
  Option.bind (α := Int32) (β := ((Int32 × Hp) ⊕ (Int32 × Hp))) (MX12_thrown h234 v2) fun (t238 : Int32) =>
  if t238 = t228 then
    if t228 = 0 then
      gg (β := ((Int32 × Hp) ⊕ (Int32 × Hp))) (kd h234 v3 = 23) <|
      gg (β := ((Int32 × Hp) ⊕ (Int32 × Hp))) (inB (0 : Int32) (ln h234 v3) = true) <|
      if (lgc (gI h234 v3 (0 : Int32).toNatClampNeg) t235) = 0 then
        some (.inl ((v4 + (6 : Int32)), h234))
      else
        none
    else
      some (.inl ((v4 + (6 : Int32)), h234))
  else
    none
set_option maxRecDepth 100000 in
set_option maxHeartbeats 8000000 in
theorem kL_law_975 {d : Nat} {L : Nat} {xs : Nat → Int32} {h : Hp} {v1 : Nat} {v2 : Nat} {v3 : Nat} {v4 : Int32} {r : Int32} {h9 : Hp} {x : ((Int32 × Hp) ⊕ (Int32 × Hp))} (H : ML_law_975 L xs h v1 v2 v3 v4 = some x) (hb0 : ∀ s : Int32 × Hp, x = .inl s → JP (PL L xs) (d + 65) YL_law 23 [.retAddr 3000, .ref v1, .ref v2, .ref v3, .int s.1, Value.null, Value.null] [] s.2 (oI r) h9) (hx : ∀ z : (Int32 × Hp), x = .inr (z) → z = (r, h9)) : JP (PL L xs) (d + 65) YL_law 975 [.retAddr 3000, .ref v1, .ref v2, .ref v3, .int v4, Value.null, Value.null] [] h (oI r) h9 := by
  unfold ML_law_975 at H
  refine J_aload_n 1 dL_law_975 rfl rfl ?_
  refine J_aload_nT 0 dL_law_976 rfl rfl ?_
  refine J_iload dL_law_977 rfl ?_
  refine J_iconst (1 : Int32) dL_law_979 kc_1 ?_
  refine J_iadd dL_law_980 ?_
  obtain ⟨g223, H⟩ := gd H
  refine J_sld dL_law_981 (inB_ok g223) ?_
  refine J_aload_nT 0 dL_law_982 rfl rfl ?_
  refine J_iload dL_law_983 rfl ?_
  refine J_iconst (2 : Int32) dL_law_985 kc_2 ?_
  refine J_iadd dL_law_986 ?_
  obtain ⟨g224, H⟩ := gd H
  refine J_sld dL_law_987 (inB_ok g224) ?_
  refine J_aload_nT 0 dL_law_988 rfl rfl ?_
  refine J_iload dL_law_989 rfl ?_
  refine J_iconst (3 : Int32) dL_law_991 kc_3 ?_
  refine J_iadd dL_law_992 ?_
  obtain ⟨g225, H⟩ := gd H
  refine J_sld dL_law_993 (inB_ok g225) ?_
  refine J_aload_n 3 dL_law_994 rfl rfl ?_
  obtain ⟨t228, h227, e226, H⟩ := b2_el H
  refine J_cSW (hh := hhL_brass) (as := [.ref v1, .int (xs (v4 + (1 : Int32)).toNatClampNeg), .int (xs (v4 + (2 : Int32)).toNatClampNeg), .int (xs (v4 + (3 : Int32)).toNatClampNeg), .ref v3]) YL_brass 5 dL_law_995 moL_brass msL_brass mlL_201 (okL_brass (d := d + 60) e226) rfl rfl [] rfl rfl (st2 := [.int t228]) rfl ?_
  refine J_istore dL_law_998 (by decide) (ls' := [.retAddr 3000, .ref v1, .ref v2, .ref v3, .int v4, .int t228, Value.null]) rfl ?_
  refine J_aload_n 2 dL_law_1000 rfl rfl ?_
  refine J_aload_nT 0 dL_law_1001 rfl rfl ?_
  refine J_iload dL_law_1002 rfl ?_
  refine J_iconst (1 : Int32) dL_law_1004 kc_1 ?_
  refine J_iadd dL_law_1005 ?_
  obtain ⟨g229, H⟩ := gd H
  refine J_sld dL_law_1006 (inB_ok g229) ?_
  refine J_aload_nT 0 dL_law_1007 rfl rfl ?_
  refine J_iload dL_law_1008 rfl ?_
  refine J_iconst (2 : Int32) dL_law_1010 kc_2 ?_
  refine J_iadd dL_law_1011 ?_
  obtain ⟨g230, H⟩ := gd H
  refine J_sld dL_law_1012 (inB_ok g230) ?_
  refine J_aload_nT 0 dL_law_1013 rfl rfl ?_
  refine J_iload dL_law_1014 rfl ?_
  refine J_iconst (3 : Int32) dL_law_1016 kc_3 ?_
  refine J_iadd dL_law_1017 ?_
  obtain ⟨g231, H⟩ := gd H
  refine J_sld dL_law_1018 (inB_ok g231) ?_
  obtain ⟨g233, H⟩ := gd H
  obtain ⟨t235, h234, e232, H⟩ := b2_el H
  refine J_cV (as := [.int (xs (v4 + (1 : Int32)).toNatClampNeg), .int (xs (v4 + (2 : Int32)).toNatClampNeg), .int (xs (v4 + (3 : Int32)).toNatClampNeg)]) 11 YX12_brass 3 dL_law_1019 moX12_brass mvX12_brass mlL_203 g233 rfl rfl (okX12_brass (d := d + 62) e232) rfl rfl [] rfl rfl (st2 := [.int t235]) rfl ?_
  refine J_istore dL_law_1022 (by decide) (ls' := [.retAddr 3000, .ref v1, .ref v2, .ref v3, .int v4, .int t228, .int t235]) rfl ?_
  refine J_aload_n 2 dL_law_1024 rfl rfl ?_
  obtain ⟨g237, H⟩ := gd H
  obtain ⟨t238, e236, H⟩ := bd H
  refine J_cV (as := []) 11 YX12_thrown 0 dL_law_1025 moX12_thrown mvX12_thrown mlL_166 g237 rfl rfl (okX12_thrown (d := d + 64) e236) rfl rfl [] rfl rfl (st2 := [.int t238]) rfl ?_
  refine J_iload dL_law_1028 rfl ?_
  refine J_icmp_eq 1035 dL_law_1030 rfl (fun q239 => ?_) (fun q239 => ?_)
  · replace H := br1 q239 H
    refine J_iload dL_law_1035 rfl ?_
    refine J_if_ne 1052 dL_law_1037 rfl (fun q240 => ?_) (fun q240 => ?_)
    · replace H := br0 q240 H
      refine J_goto 3209 dL_law_1052 rfl ?_
      refine J_iinc (v4 + (6 : Int32)) dL_law_3209 rfl (congrArg (HAdd.hAdd v4) kc_6) (by decide) (ls' := [.retAddr 3000, .ref v1, .ref v2, .ref v3, .int (v4 + (6 : Int32)), .int t228, .int t235]) rfl ?_
      refine J_goto 23 dL_law_3212 rfl ?_
      cases H
      exact J_dr (hb0 _ rfl) ⟨rfl, ⟨rfl, ⟨rfl, ⟨rfl, ⟨rfl, trivial⟩⟩⟩⟩⟩
    · replace H := br1 q240 H
      refine J_aload_n 3 dL_law_1040 rfl rfl ?_
      refine J_iconst (0 : Int32) dL_law_1041 kc_0 ?_
      obtain ⟨g241, H⟩ := gd H
      obtain ⟨g242, H⟩ := gd H
      refine J_lald dL_law_1042 g241 (inB_ok g242) ?_
      refine J_iload dL_law_1043 rfl ?_
      refine J_i2l dL_law_1045 ?_
      refine J_lcmp' dL_law_1046 ?_
      refine J_if_eq 1052 dL_law_1047 rfl (fun q243 => ?_) (fun q243 => ?_)
      · replace H := br1 q243 H
        refine J_goto 3209 dL_law_1052 rfl ?_
        refine J_iinc (v4 + (6 : Int32)) dL_law_3209 rfl (congrArg (HAdd.hAdd v4) kc_6) (by decide) (ls' := [.retAddr 3000, .ref v1, .ref v2, .ref v3, .int (v4 + (6 : Int32)), .int t228, .int t235]) rfl ?_
        refine J_goto 23 dL_law_3212 rfl ?_
        cases H
        exact J_dr (hb0 _ rfl) ⟨rfl, ⟨rfl, ⟨rfl, ⟨rfl, ⟨rfl, trivial⟩⟩⟩⟩⟩
      · replace H := br0 q243 H
        refine J_iconst (0 : Int32) dL_law_1050 kc_0 ?_
        cases H
  · replace H := br0 q239 H
    refine J_iconst (0 : Int32) dL_law_1033 kc_0 ?_
    cases H
noncomputable def ML_law_1137 (L : Nat) (xs : Nat → Int32) (h : Hp) (v1 : Nat) (v2 : Nat) (v3 : Nat) (v4 : Int32) (s0 : Int32) (s1 : Int32) : Option ((Int32 × Hp) ⊕ (Int32 × Hp)) :=
  if (lgc s0 s1) = 0 then
    some (.inl ((v4 + (6 : Int32)), h))
  else
    none
set_option maxRecDepth 100000 in
set_option maxHeartbeats 8000000 in
theorem kL_law_1137 {d : Nat} {L : Nat} {xs : Nat → Int32} {h : Hp} {v1 : Nat} {v2 : Nat} {v3 : Nat} {v4 : Int32} {s0 : Int32} {s1 : Int32} {r : Int32} {h9 : Hp} {x : ((Int32 × Hp) ⊕ (Int32 × Hp))} (H : ML_law_1137 L xs h v1 v2 v3 v4 s0 s1 = some x) (hb0 : ∀ s : Int32 × Hp, x = .inl s → JP (PL L xs) (d + 65) YL_law 23 [.retAddr 3000, .ref v1, .ref v2, .ref v3, .int s.1, Value.null, Value.null] [] s.2 (oI r) h9) (hx : ∀ z : (Int32 × Hp), x = .inr (z) → z = (r, h9)) : JP (PL L xs) (d + 65) YL_law 1137 [.retAddr 3000, .ref v1, .ref v2, .ref v3, .int v4, Value.null, Value.null] [.long (Int32.toInt64 s1), .long (Int32.toInt64 s0)] h (oI r) h9 := by
  unfold ML_law_1137 at H
  refine J_lcmp' dL_law_1137 ?_
  refine J_if_eq 1143 dL_law_1138 rfl (fun q265 => ?_) (fun q265 => ?_)
  · replace H := br1 q265 H
    refine J_goto 3209 dL_law_1143 rfl ?_
    refine J_iinc (v4 + (6 : Int32)) dL_law_3209 rfl (congrArg (HAdd.hAdd v4) kc_6) (by decide) (ls' := [.retAddr 3000, .ref v1, .ref v2, .ref v3, .int (v4 + (6 : Int32)), Value.null, Value.null]) rfl ?_
    refine J_goto 23 dL_law_3212 rfl ?_
    cases H
    exact J_dr (hb0 _ rfl) ⟨rfl, ⟨rfl, ⟨rfl, ⟨rfl, ⟨rfl, trivial⟩⟩⟩⟩⟩
  · replace H := br0 q265 H
    refine J_iconst (0 : Int32) dL_law_1141 kc_0 ?_
    cases H
noncomputable def ML_law_1103 (L : Nat) (xs : Nat → Int32) (h : Hp) (v1 : Nat) (v2 : Nat) (v3 : Nat) (v4 : Int32) (v5 : Int32) (s0 : Nat) (s1 : Int32) (s2 : Int32) : Option ((Int32 × Hp) ⊕ (Int32 × Hp)) :=
  gg (β := ((Int32 × Hp) ⊕ (Int32 × Hp))) (kd h s0 = 11) <|
  b2 (α := Int32) (β := Hp) (γ := ((Int32 × Hp) ⊕ (Int32 × Hp))) (MX12_broken h s0 s1 s2) fun (t256 : Int32) (h255 : Hp) =>
  gg (β := ((Int32 × Hp) ⊕ (Int32 × Hp))) (kd h255 v2 = 11) <|
  Option.bind (α := Int32) (β := ((Int32 × Hp) ⊕ (Int32 × Hp))) (MX12_thrown h255 v2) fun (t259 : Int32) =>
  if t259 = v5 then
    if v5 = 0 then
      gg (β := ((Int32 × Hp) ⊕ (Int32 × Hp))) (kd h255 v3 = 23) <|
      gg (β := ((Int32 × Hp) ⊕ (Int32 × Hp))) (inB (0 : Int32) (ln h255 v3) = true) <|
      if t256 = 0 then
        ML_law_1137 L xs h255 v1 v2 v3 v4 (gI h255 v3 (0 : Int32).toNatClampNeg) (0 : Int32)
      else
        ML_law_1137 L xs h255 v1 v2 v3 v4 (gI h255 v3 (0 : Int32).toNatClampNeg) (1 : Int32)
    else
      some (.inl ((v4 + (6 : Int32)), h255))
  else
    none
set_option maxRecDepth 100000 in
set_option maxHeartbeats 8000000 in
theorem kL_law_1103 {d : Nat} {L : Nat} {xs : Nat → Int32} {h : Hp} {v1 : Nat} {v2 : Nat} {v3 : Nat} {v4 : Int32} {v5 : Int32} {s0 : Nat} {s1 : Int32} {s2 : Int32} {r : Int32} {h9 : Hp} {x : ((Int32 × Hp) ⊕ (Int32 × Hp))} (H : ML_law_1103 L xs h v1 v2 v3 v4 v5 s0 s1 s2 = some x) (hb0 : ∀ s : Int32 × Hp, x = .inl s → JP (PL L xs) (d + 65) YL_law 23 [.retAddr 3000, .ref v1, .ref v2, .ref v3, .int s.1, Value.null, Value.null] [] s.2 (oI r) h9) (hx : ∀ z : (Int32 × Hp), x = .inr (z) → z = (r, h9)) : JP (PL L xs) (d + 65) YL_law 1103 [.retAddr 3000, .ref v1, .ref v2, .ref v3, .int v4, .int v5, Value.null] [.int s2, .int s1, .ref s0] h (oI r) h9 := by
  unfold ML_law_1103 at H
  obtain ⟨g254, H⟩ := gd H
  obtain ⟨t256, h255, e253, H⟩ := b2_el H
  refine J_cV (as := [.int s1, .int s2]) 11 YX12_broken 2 dL_law_1103 moX12_broken mvX12_broken mlL_206 g254 rfl rfl (okX12_broken (d := d + 63) e253) rfl rfl [] rfl rfl (st2 := [.int t256]) rfl ?_
  refine J_istore dL_law_1106 (by decide) (ls' := [.retAddr 3000, .ref v1, .ref v2, .ref v3, .int v4, .int v5, .int t256]) rfl ?_
  refine J_aload_n 2 dL_law_1108 rfl rfl ?_
  obtain ⟨g258, H⟩ := gd H
  obtain ⟨t259, e257, H⟩ := bd H
  refine J_cV (as := []) 11 YX12_thrown 0 dL_law_1109 moX12_thrown mvX12_thrown mlL_166 g258 rfl rfl (okX12_thrown (d := d + 64) e257) rfl rfl [] rfl rfl (st2 := [.int t259]) rfl ?_
  refine J_iload dL_law_1112 rfl ?_
  refine J_icmp_eq 1119 dL_law_1114 rfl (fun q260 => ?_) (fun q260 => ?_)
  · replace H := br1 q260 H
    refine J_iload dL_law_1119 rfl ?_
    refine J_if_ne 1143 dL_law_1121 rfl (fun q261 => ?_) (fun q261 => ?_)
    · replace H := br0 q261 H
      refine J_goto 3209 dL_law_1143 rfl ?_
      refine J_iinc (v4 + (6 : Int32)) dL_law_3209 rfl (congrArg (HAdd.hAdd v4) kc_6) (by decide) (ls' := [.retAddr 3000, .ref v1, .ref v2, .ref v3, .int (v4 + (6 : Int32)), .int v5, .int t256]) rfl ?_
      refine J_goto 23 dL_law_3212 rfl ?_
      cases H
      exact J_dr (hb0 _ rfl) ⟨rfl, ⟨rfl, ⟨rfl, ⟨rfl, ⟨rfl, trivial⟩⟩⟩⟩⟩
    · replace H := br1 q261 H
      refine J_aload_n 3 dL_law_1124 rfl rfl ?_
      refine J_iconst (0 : Int32) dL_law_1125 kc_0 ?_
      obtain ⟨g262, H⟩ := gd H
      obtain ⟨g263, H⟩ := gd H
      refine J_lald dL_law_1126 g262 (inB_ok g263) ?_
      refine J_iload dL_law_1127 rfl ?_
      refine J_if_eq 1136 dL_law_1129 rfl (fun q264 => ?_) (fun q264 => ?_)
      · replace H := br1 q264 H
        refine J_lconst' (0 : Int32) dL_law_1136 lc_0 ?_
        exact J_dr (kL_law_1137 H hb0 hx) ⟨rfl, ⟨rfl, ⟨rfl, ⟨rfl, ⟨rfl, trivial⟩⟩⟩⟩⟩
      · replace H := br0 q264 H
        refine J_lconst' (1 : Int32) dL_law_1132 lc_1 ?_
        refine J_goto 1137 dL_law_1133 rfl ?_
        exact J_dr (kL_law_1137 H hb0 hx) ⟨rfl, ⟨rfl, ⟨rfl, ⟨rfl, ⟨rfl, trivial⟩⟩⟩⟩⟩
  · replace H := br0 q260 H
    refine J_iconst (0 : Int32) dL_law_1117 kc_0 ?_
    cases H
noncomputable def ML_law_1076 (L : Nat) (xs : Nat → Int32) (h : Hp) (v1 : Nat) (v2 : Nat) (v3 : Nat) (v4 : Int32) (s0 : Nat) (s1 : Int32) (s2 : Int32) : Option ((Int32 × Hp) ⊕ (Int32 × Hp)) :=
  b2 (α := Int32) (β := Hp) (γ := ((Int32 × Hp) ⊕ (Int32 × Hp))) (ML_broken h s0 s1 s2 v3) fun (t249 : Int32) (h248 : Hp) =>
  gg (β := ((Int32 × Hp) ⊕ (Int32 × Hp))) (inB (v4 + (1 : Int32)) L = true) <|
  gg (β := ((Int32 × Hp) ⊕ (Int32 × Hp))) (inB (v4 + (2 : Int32)) L = true) <|
  if (xs (v4 + (2 : Int32)).toNatClampNeg) = 0 then
    ML_law_1103 L xs h248 v1 v2 v3 v4 t249 v2 (xs (v4 + (1 : Int32)).toNatClampNeg) (0 : Int32)
  else
    ML_law_1103 L xs h248 v1 v2 v3 v4 t249 v2 (xs (v4 + (1 : Int32)).toNatClampNeg) (1 : Int32)
set_option maxRecDepth 100000 in
set_option maxHeartbeats 8000000 in
theorem kL_law_1076 {d : Nat} {L : Nat} {xs : Nat → Int32} {h : Hp} {v1 : Nat} {v2 : Nat} {v3 : Nat} {v4 : Int32} {s0 : Nat} {s1 : Int32} {s2 : Int32} {r : Int32} {h9 : Hp} {x : ((Int32 × Hp) ⊕ (Int32 × Hp))} (H : ML_law_1076 L xs h v1 v2 v3 v4 s0 s1 s2 = some x) (hb0 : ∀ s : Int32 × Hp, x = .inl s → JP (PL L xs) (d + 65) YL_law 23 [.retAddr 3000, .ref v1, .ref v2, .ref v3, .int s.1, Value.null, Value.null] [] s.2 (oI r) h9) (hx : ∀ z : (Int32 × Hp), x = .inr (z) → z = (r, h9)) : JP (PL L xs) (d + 65) YL_law 1076 [.retAddr 3000, .ref v1, .ref v2, .ref v3, .int v4, Value.null, Value.null] [.int s2, .int s1, .ref s0] h (oI r) h9 := by
  unfold ML_law_1076 at H
  refine J_aload_n 3 dL_law_1076 rfl rfl ?_
  obtain ⟨t249, h248, e247, H⟩ := b2_el H
  refine J_cSW (hh := hhL_broken) (as := [.ref s0, .int s1, .int s2, .ref v3]) YL_broken 4 dL_law_1077 moL_broken msL_broken mlL_204 (okL_broken (d := d + 62) e247) rfl rfl [] rfl rfl (st2 := [.int t249]) rfl ?_
  refine J_istore dL_law_1080 (by decide) (ls' := [.retAddr 3000, .ref v1, .ref v2, .ref v3, .int v4, .int t249, Value.null]) rfl ?_
  refine J_aload_n 2 dL_law_1082 rfl rfl ?_
  refine J_aload_nT 0 dL_law_1083 rfl rfl ?_
  refine J_iload dL_law_1084 rfl ?_
  refine J_iconst (1 : Int32) dL_law_1086 kc_1 ?_
  refine J_iadd dL_law_1087 ?_
  obtain ⟨g250, H⟩ := gd H
  refine J_sld dL_law_1088 (inB_ok g250) ?_
  refine J_aload_nT 0 dL_law_1089 rfl rfl ?_
  refine J_iload dL_law_1090 rfl ?_
  refine J_iconst (2 : Int32) dL_law_1092 kc_2 ?_
  refine J_iadd dL_law_1093 ?_
  obtain ⟨g251, H⟩ := gd H
  refine J_sld dL_law_1094 (inB_ok g251) ?_
  refine J_if_eq 1102 dL_law_1095 rfl (fun q252 => ?_) (fun q252 => ?_)
  · replace H := br1 q252 H
    refine J_iconst (0 : Int32) dL_law_1102 kc_0 ?_
    exact J_dr (kL_law_1103 H hb0 hx) ⟨rfl, ⟨rfl, ⟨rfl, ⟨rfl, ⟨rfl, ⟨rfl, trivial⟩⟩⟩⟩⟩⟩
  · replace H := br0 q252 H
    refine J_iconst (1 : Int32) dL_law_1098 kc_1 ?_
    refine J_goto 1103 dL_law_1099 rfl ?_
    exact J_dr (kL_law_1103 H hb0 hx) ⟨rfl, ⟨rfl, ⟨rfl, ⟨rfl, ⟨rfl, ⟨rfl, trivial⟩⟩⟩⟩⟩⟩
noncomputable def ML_law_1055 (L : Nat) (xs : Nat → Int32) (h : Hp) (v1 : Nat) (v2 : Nat) (v3 : Nat) (v4 : Int32) : Option ((Int32 × Hp) ⊕ (Int32 × Hp)) :=
  gg (β := ((Int32 × Hp) ⊕ (Int32 × Hp))) (inB (v4 + (1 : Int32)) L = true) <|
  gg (β := ((Int32 × Hp) ⊕ (Int32 × Hp))) (inB (v4 + (2 : Int32)) L = true) <|
  if (xs (v4 + (2 : Int32)).toNatClampNeg) = 0 then
    ML_law_1076 L xs h v1 v2 v3 v4 v1 (xs (v4 + (1 : Int32)).toNatClampNeg) (0 : Int32)
  else
    ML_law_1076 L xs h v1 v2 v3 v4 v1 (xs (v4 + (1 : Int32)).toNatClampNeg) (1 : Int32)
set_option maxRecDepth 100000 in
set_option maxHeartbeats 8000000 in
theorem kL_law_1055 {d : Nat} {L : Nat} {xs : Nat → Int32} {h : Hp} {v1 : Nat} {v2 : Nat} {v3 : Nat} {v4 : Int32} {r : Int32} {h9 : Hp} {x : ((Int32 × Hp) ⊕ (Int32 × Hp))} (H : ML_law_1055 L xs h v1 v2 v3 v4 = some x) (hb0 : ∀ s : Int32 × Hp, x = .inl s → JP (PL L xs) (d + 65) YL_law 23 [.retAddr 3000, .ref v1, .ref v2, .ref v3, .int s.1, Value.null, Value.null] [] s.2 (oI r) h9) (hx : ∀ z : (Int32 × Hp), x = .inr (z) → z = (r, h9)) : JP (PL L xs) (d + 65) YL_law 1055 [.retAddr 3000, .ref v1, .ref v2, .ref v3, .int v4, Value.null, Value.null] [] h (oI r) h9 := by
  unfold ML_law_1055 at H
  refine J_aload_n 1 dL_law_1055 rfl rfl ?_
  refine J_aload_nT 0 dL_law_1056 rfl rfl ?_
  refine J_iload dL_law_1057 rfl ?_
  refine J_iconst (1 : Int32) dL_law_1059 kc_1 ?_
  refine J_iadd dL_law_1060 ?_
  obtain ⟨g244, H⟩ := gd H
  refine J_sld dL_law_1061 (inB_ok g244) ?_
  refine J_aload_nT 0 dL_law_1062 rfl rfl ?_
  refine J_iload dL_law_1063 rfl ?_
  refine J_iconst (2 : Int32) dL_law_1065 kc_2 ?_
  refine J_iadd dL_law_1066 ?_
  obtain ⟨g245, H⟩ := gd H
  refine J_sld dL_law_1067 (inB_ok g245) ?_
  refine J_if_eq 1075 dL_law_1068 rfl (fun q246 => ?_) (fun q246 => ?_)
  · replace H := br1 q246 H
    refine J_iconst (0 : Int32) dL_law_1075 kc_0 ?_
    exact J_dr (kL_law_1076 H hb0 hx) ⟨rfl, ⟨rfl, ⟨rfl, ⟨rfl, ⟨rfl, trivial⟩⟩⟩⟩⟩
  · replace H := br0 q246 H
    refine J_iconst (1 : Int32) dL_law_1071 kc_1 ?_
    refine J_goto 1076 dL_law_1072 rfl ?_
    exact J_dr (kL_law_1076 H hb0 hx) ⟨rfl, ⟨rfl, ⟨rfl, ⟨rfl, ⟨rfl, trivial⟩⟩⟩⟩⟩
noncomputable def ML_law_1146 (L : Nat) (xs : Nat → Int32) (h : Hp) (v1 : Nat) (v2 : Nat) (v3 : Nat) (v4 : Int32) : Option ((Int32 × Hp) ⊕ (Int32 × Hp)) :=
  gg (β := ((Int32 × Hp) ⊕ (Int32 × Hp))) (inB (v4 + (1 : Int32)) L = true) <|
  gg (β := ((Int32 × Hp) ⊕ (Int32 × Hp))) (inB (v4 + (2 : Int32)) L = true) <|
  b2 (α := Int32) (β := Hp) (γ := ((Int32 × Hp) ⊕ (Int32 × Hp))) (ML_give h v1 (xs (v4 + (1 : Int32)).toNatClampNeg) (xs (v4 + (2 : Int32)).toNatClampNeg) v3) fun (t270 : Int32) (h269 : Hp) =>
  gg (β := ((Int32 × Hp) ⊕ (Int32 × Hp))) (inB (v4 + (1 : Int32)) L = true) <|
  gg (β := ((Int32 × Hp) ⊕ (Int32 × Hp))) (inB (v4 + (2 : Int32)) L = true) <|
  gg (β := ((Int32 × Hp) ⊕ (Int32 × Hp))) (kd h269 v2 = 11) <|
  b2 (α := Int32) (β := Hp) (γ := ((Int32 × Hp) ⊕ (Int32 × Hp))) (MX12_give h269 v2 (xs (v4 + (1 : Int32)).toNatClampNeg) (xs (v4 + (2 : Int32)).toNatClampNeg)) fun (t276 : Int32) (h275 : Hp) =>
  gg (β := ((Int32 × Hp) ⊕ (Int32 × Hp))) (kd h275 v2 = 11) <|
  Option.bind (α := Int32) (β := ((Int32 × Hp) ⊕ (Int32 × Hp))) (MX12_thrown h275 v2) fun (t279 : Int32) =>
  if t279 = t270 then
    if t270 = 0 then
      gg (β := ((Int32 × Hp) ⊕ (Int32 × Hp))) (kd h275 v3 = 23) <|
      gg (β := ((Int32 × Hp) ⊕ (Int32 × Hp))) (inB (0 : Int32) (ln h275 v3) = true) <|
      if (lgc (gI h275 v3 (0 : Int32).toNatClampNeg) t276) = 0 then
        some (.inl ((v4 + (6 : Int32)), h275))
      else
        none
    else
      some (.inl ((v4 + (6 : Int32)), h275))
  else
    none
set_option maxRecDepth 100000 in
set_option maxHeartbeats 8000000 in
theorem kL_law_1146 {d : Nat} {L : Nat} {xs : Nat → Int32} {h : Hp} {v1 : Nat} {v2 : Nat} {v3 : Nat} {v4 : Int32} {r : Int32} {h9 : Hp} {x : ((Int32 × Hp) ⊕ (Int32 × Hp))} (H : ML_law_1146 L xs h v1 v2 v3 v4 = some x) (hb0 : ∀ s : Int32 × Hp, x = .inl s → JP (PL L xs) (d + 65) YL_law 23 [.retAddr 3000, .ref v1, .ref v2, .ref v3, .int s.1, Value.null, Value.null] [] s.2 (oI r) h9) (hx : ∀ z : (Int32 × Hp), x = .inr (z) → z = (r, h9)) : JP (PL L xs) (d + 65) YL_law 1146 [.retAddr 3000, .ref v1, .ref v2, .ref v3, .int v4, Value.null, Value.null] [] h (oI r) h9 := by
  unfold ML_law_1146 at H
  refine J_aload_n 1 dL_law_1146 rfl rfl ?_
  refine J_aload_nT 0 dL_law_1147 rfl rfl ?_
  refine J_iload dL_law_1148 rfl ?_
  refine J_iconst (1 : Int32) dL_law_1150 kc_1 ?_
  refine J_iadd dL_law_1151 ?_
  obtain ⟨g266, H⟩ := gd H
  refine J_sld dL_law_1152 (inB_ok g266) ?_
  refine J_aload_nT 0 dL_law_1153 rfl rfl ?_
  refine J_iload dL_law_1154 rfl ?_
  refine J_iconst (2 : Int32) dL_law_1156 kc_2 ?_
  refine J_iadd dL_law_1157 ?_
  obtain ⟨g267, H⟩ := gd H
  refine J_sld dL_law_1158 (inB_ok g267) ?_
  refine J_aload_n 3 dL_law_1159 rfl rfl ?_
  obtain ⟨t270, h269, e268, H⟩ := b2_el H
  refine J_cSW (hh := hhL_give) (as := [.ref v1, .int (xs (v4 + (1 : Int32)).toNatClampNeg), .int (xs (v4 + (2 : Int32)).toNatClampNeg), .ref v3]) YL_give 4 dL_law_1160 moL_give msL_give mlL_207 (okL_give (d := d + 62) e268) rfl rfl [] rfl rfl (st2 := [.int t270]) rfl ?_
  refine J_istore dL_law_1163 (by decide) (ls' := [.retAddr 3000, .ref v1, .ref v2, .ref v3, .int v4, .int t270, Value.null]) rfl ?_
  refine J_aload_n 2 dL_law_1165 rfl rfl ?_
  refine J_aload_nT 0 dL_law_1166 rfl rfl ?_
  refine J_iload dL_law_1167 rfl ?_
  refine J_iconst (1 : Int32) dL_law_1169 kc_1 ?_
  refine J_iadd dL_law_1170 ?_
  obtain ⟨g271, H⟩ := gd H
  refine J_sld dL_law_1171 (inB_ok g271) ?_
  refine J_aload_nT 0 dL_law_1172 rfl rfl ?_
  refine J_iload dL_law_1173 rfl ?_
  refine J_iconst (2 : Int32) dL_law_1175 kc_2 ?_
  refine J_iadd dL_law_1176 ?_
  obtain ⟨g272, H⟩ := gd H
  refine J_sld dL_law_1177 (inB_ok g272) ?_
  obtain ⟨g274, H⟩ := gd H
  obtain ⟨t276, h275, e273, H⟩ := b2_el H
  refine J_cV (as := [.int (xs (v4 + (1 : Int32)).toNatClampNeg), .int (xs (v4 + (2 : Int32)).toNatClampNeg)]) 11 YX12_give 2 dL_law_1178 moX12_give mvX12_give mlL_209 g274 rfl rfl (okX12_give (d := d + 62) e273) rfl rfl [] rfl rfl (st2 := [.int t276]) rfl ?_
  refine J_istore dL_law_1181 (by decide) (ls' := [.retAddr 3000, .ref v1, .ref v2, .ref v3, .int v4, .int t270, .int t276]) rfl ?_
  refine J_aload_n 2 dL_law_1183 rfl rfl ?_
  obtain ⟨g278, H⟩ := gd H
  obtain ⟨t279, e277, H⟩ := bd H
  refine J_cV (as := []) 11 YX12_thrown 0 dL_law_1184 moX12_thrown mvX12_thrown mlL_166 g278 rfl rfl (okX12_thrown (d := d + 64) e277) rfl rfl [] rfl rfl (st2 := [.int t279]) rfl ?_
  refine J_iload dL_law_1187 rfl ?_
  refine J_icmp_eq 1194 dL_law_1189 rfl (fun q280 => ?_) (fun q280 => ?_)
  · replace H := br1 q280 H
    refine J_iload dL_law_1194 rfl ?_
    refine J_if_ne 1211 dL_law_1196 rfl (fun q281 => ?_) (fun q281 => ?_)
    · replace H := br0 q281 H
      refine J_goto 3209 dL_law_1211 rfl ?_
      refine J_iinc (v4 + (6 : Int32)) dL_law_3209 rfl (congrArg (HAdd.hAdd v4) kc_6) (by decide) (ls' := [.retAddr 3000, .ref v1, .ref v2, .ref v3, .int (v4 + (6 : Int32)), .int t270, .int t276]) rfl ?_
      refine J_goto 23 dL_law_3212 rfl ?_
      cases H
      exact J_dr (hb0 _ rfl) ⟨rfl, ⟨rfl, ⟨rfl, ⟨rfl, ⟨rfl, trivial⟩⟩⟩⟩⟩
    · replace H := br1 q281 H
      refine J_aload_n 3 dL_law_1199 rfl rfl ?_
      refine J_iconst (0 : Int32) dL_law_1200 kc_0 ?_
      obtain ⟨g282, H⟩ := gd H
      obtain ⟨g283, H⟩ := gd H
      refine J_lald dL_law_1201 g282 (inB_ok g283) ?_
      refine J_iload dL_law_1202 rfl ?_
      refine J_i2l dL_law_1204 ?_
      refine J_lcmp' dL_law_1205 ?_
      refine J_if_eq 1211 dL_law_1206 rfl (fun q284 => ?_) (fun q284 => ?_)
      · replace H := br1 q284 H
        refine J_goto 3209 dL_law_1211 rfl ?_
        refine J_iinc (v4 + (6 : Int32)) dL_law_3209 rfl (congrArg (HAdd.hAdd v4) kc_6) (by decide) (ls' := [.retAddr 3000, .ref v1, .ref v2, .ref v3, .int (v4 + (6 : Int32)), .int t270, .int t276]) rfl ?_
        refine J_goto 23 dL_law_3212 rfl ?_
        cases H
        exact J_dr (hb0 _ rfl) ⟨rfl, ⟨rfl, ⟨rfl, ⟨rfl, ⟨rfl, trivial⟩⟩⟩⟩⟩
      · replace H := br0 q284 H
        refine J_iconst (0 : Int32) dL_law_1209 kc_0 ?_
        cases H
  · replace H := br0 q280 H
    refine J_iconst (0 : Int32) dL_law_1192 kc_0 ?_
    cases H
noncomputable def ML_law_1214 (L : Nat) (xs : Nat → Int32) (h : Hp) (v1 : Nat) (v2 : Nat) (v3 : Nat) (v4 : Int32) : Option ((Int32 × Hp) ⊕ (Int32 × Hp)) :=
  gg (β := ((Int32 × Hp) ⊕ (Int32 × Hp))) (inB (v4 + (1 : Int32)) L = true) <|
  b2 (α := Int32) (β := Hp) (γ := ((Int32 × Hp) ⊕ (Int32 × Hp))) (ML_minutes h v1 (xs (v4 + (1 : Int32)).toNatClampNeg) v3) fun (t288 : Int32) (h287 : Hp) =>
  gg (β := ((Int32 × Hp) ⊕ (Int32 × Hp))) (inB (v4 + (1 : Int32)) L = true) <|
  gg (β := ((Int32 × Hp) ⊕ (Int32 × Hp))) (kd h287 v2 = 11) <|
  b2 (α := Int32) (β := Hp) (γ := ((Int32 × Hp) ⊕ (Int32 × Hp))) (MX12_minutes h287 v2 (xs (v4 + (1 : Int32)).toNatClampNeg)) fun (t293 : Int32) (h292 : Hp) =>
  gg (β := ((Int32 × Hp) ⊕ (Int32 × Hp))) (kd h292 v2 = 11) <|
  Option.bind (α := Int32) (β := ((Int32 × Hp) ⊕ (Int32 × Hp))) (MX12_thrown h292 v2) fun (t296 : Int32) =>
  if t296 = t288 then
    if t288 = 0 then
      gg (β := ((Int32 × Hp) ⊕ (Int32 × Hp))) (kd h292 v3 = 23) <|
      gg (β := ((Int32 × Hp) ⊕ (Int32 × Hp))) (inB (0 : Int32) (ln h292 v3) = true) <|
      if (lgc (gI h292 v3 (0 : Int32).toNatClampNeg) t293) = 0 then
        some (.inl ((v4 + (6 : Int32)), h292))
      else
        none
    else
      some (.inl ((v4 + (6 : Int32)), h292))
  else
    none
set_option maxRecDepth 100000 in
set_option maxHeartbeats 8000000 in
theorem kL_law_1214 {d : Nat} {L : Nat} {xs : Nat → Int32} {h : Hp} {v1 : Nat} {v2 : Nat} {v3 : Nat} {v4 : Int32} {r : Int32} {h9 : Hp} {x : ((Int32 × Hp) ⊕ (Int32 × Hp))} (H : ML_law_1214 L xs h v1 v2 v3 v4 = some x) (hb0 : ∀ s : Int32 × Hp, x = .inl s → JP (PL L xs) (d + 65) YL_law 23 [.retAddr 3000, .ref v1, .ref v2, .ref v3, .int s.1, Value.null, Value.null] [] s.2 (oI r) h9) (hx : ∀ z : (Int32 × Hp), x = .inr (z) → z = (r, h9)) : JP (PL L xs) (d + 65) YL_law 1214 [.retAddr 3000, .ref v1, .ref v2, .ref v3, .int v4, Value.null, Value.null] [] h (oI r) h9 := by
  unfold ML_law_1214 at H
  refine J_aload_n 1 dL_law_1214 rfl rfl ?_
  refine J_aload_nT 0 dL_law_1215 rfl rfl ?_
  refine J_iload dL_law_1216 rfl ?_
  refine J_iconst (1 : Int32) dL_law_1218 kc_1 ?_
  refine J_iadd dL_law_1219 ?_
  obtain ⟨g285, H⟩ := gd H
  refine J_sld dL_law_1220 (inB_ok g285) ?_
  refine J_aload_n 3 dL_law_1221 rfl rfl ?_
  obtain ⟨t288, h287, e286, H⟩ := b2_el H
  refine J_cSW (hh := hhL_minutes) (as := [.ref v1, .int (xs (v4 + (1 : Int32)).toNatClampNeg), .ref v3]) YL_minutes 3 dL_law_1222 moL_minutes msL_minutes mlL_210 (okL_minutes (d := d + 56) e286) rfl rfl [] rfl rfl (st2 := [.int t288]) rfl ?_
  refine J_istore dL_law_1225 (by decide) (ls' := [.retAddr 3000, .ref v1, .ref v2, .ref v3, .int v4, .int t288, Value.null]) rfl ?_
  refine J_aload_n 2 dL_law_1227 rfl rfl ?_
  refine J_aload_nT 0 dL_law_1228 rfl rfl ?_
  refine J_iload dL_law_1229 rfl ?_
  refine J_iconst (1 : Int32) dL_law_1231 kc_1 ?_
  refine J_iadd dL_law_1232 ?_
  obtain ⟨g289, H⟩ := gd H
  refine J_sld dL_law_1233 (inB_ok g289) ?_
  obtain ⟨g291, H⟩ := gd H
  obtain ⟨t293, h292, e290, H⟩ := b2_el H
  refine J_cV (as := [.int (xs (v4 + (1 : Int32)).toNatClampNeg)]) 11 YX12_minutes 1 dL_law_1234 moX12_minutes mvX12_minutes mlL_212 g291 rfl rfl (okX12_minutes (d := d + 57) e290) rfl rfl [] rfl rfl (st2 := [.int t293]) rfl ?_
  refine J_istore dL_law_1237 (by decide) (ls' := [.retAddr 3000, .ref v1, .ref v2, .ref v3, .int v4, .int t288, .int t293]) rfl ?_
  refine J_aload_n 2 dL_law_1239 rfl rfl ?_
  obtain ⟨g295, H⟩ := gd H
  obtain ⟨t296, e294, H⟩ := bd H
  refine J_cV (as := []) 11 YX12_thrown 0 dL_law_1240 moX12_thrown mvX12_thrown mlL_166 g295 rfl rfl (okX12_thrown (d := d + 64) e294) rfl rfl [] rfl rfl (st2 := [.int t296]) rfl ?_
  refine J_iload dL_law_1243 rfl ?_
  refine J_icmp_eq 1250 dL_law_1245 rfl (fun q297 => ?_) (fun q297 => ?_)
  · replace H := br1 q297 H
    refine J_iload dL_law_1250 rfl ?_
    refine J_if_ne 1267 dL_law_1252 rfl (fun q298 => ?_) (fun q298 => ?_)
    · replace H := br0 q298 H
      refine J_goto 3209 dL_law_1267 rfl ?_
      refine J_iinc (v4 + (6 : Int32)) dL_law_3209 rfl (congrArg (HAdd.hAdd v4) kc_6) (by decide) (ls' := [.retAddr 3000, .ref v1, .ref v2, .ref v3, .int (v4 + (6 : Int32)), .int t288, .int t293]) rfl ?_
      refine J_goto 23 dL_law_3212 rfl ?_
      cases H
      exact J_dr (hb0 _ rfl) ⟨rfl, ⟨rfl, ⟨rfl, ⟨rfl, ⟨rfl, trivial⟩⟩⟩⟩⟩
    · replace H := br1 q298 H
      refine J_aload_n 3 dL_law_1255 rfl rfl ?_
      refine J_iconst (0 : Int32) dL_law_1256 kc_0 ?_
      obtain ⟨g299, H⟩ := gd H
      obtain ⟨g300, H⟩ := gd H
      refine J_lald dL_law_1257 g299 (inB_ok g300) ?_
      refine J_iload dL_law_1258 rfl ?_
      refine J_i2l dL_law_1260 ?_
      refine J_lcmp' dL_law_1261 ?_
      refine J_if_eq 1267 dL_law_1262 rfl (fun q301 => ?_) (fun q301 => ?_)
      · replace H := br1 q301 H
        refine J_goto 3209 dL_law_1267 rfl ?_
        refine J_iinc (v4 + (6 : Int32)) dL_law_3209 rfl (congrArg (HAdd.hAdd v4) kc_6) (by decide) (ls' := [.retAddr 3000, .ref v1, .ref v2, .ref v3, .int (v4 + (6 : Int32)), .int t288, .int t293]) rfl ?_
        refine J_goto 23 dL_law_3212 rfl ?_
        cases H
        exact J_dr (hb0 _ rfl) ⟨rfl, ⟨rfl, ⟨rfl, ⟨rfl, ⟨rfl, trivial⟩⟩⟩⟩⟩
      · replace H := br0 q301 H
        refine J_iconst (0 : Int32) dL_law_1265 kc_0 ?_
        cases H
  · replace H := br0 q297 H
    refine J_iconst (0 : Int32) dL_law_1248 kc_0 ?_
    cases H
noncomputable def ML_law_1270 (L : Nat) (xs : Nat → Int32) (h : Hp) (v1 : Nat) (v2 : Nat) (v3 : Nat) (v4 : Int32) : Option ((Int32 × Hp) ⊕ (Int32 × Hp)) :=
  gg (β := ((Int32 × Hp) ⊕ (Int32 × Hp))) (inB (v4 + (1 : Int32)) L = true) <|
  gg (β := ((Int32 × Hp) ⊕ (Int32 × Hp))) (inB (v4 + (2 : Int32)) L = true) <|
  b2 (α := Int32) (β := Hp) (γ := ((Int32 × Hp) ⊕ (Int32 × Hp))) (ML_runs h v1 (xs (v4 + (1 : Int32)).toNatClampNeg) (xs (v4 + (2 : Int32)).toNatClampNeg) v3) fun (t306 : Int32) (h305 : Hp) =>
  gg (β := ((Int32 × Hp) ⊕ (Int32 × Hp))) (inB (v4 + (1 : Int32)) L = true) <|
  gg (β := ((Int32 × Hp) ⊕ (Int32 × Hp))) (inB (v4 + (2 : Int32)) L = true) <|
  gg (β := ((Int32 × Hp) ⊕ (Int32 × Hp))) (kd h305 v2 = 11) <|
  b2 (α := Int32) (β := Hp) (γ := ((Int32 × Hp) ⊕ (Int32 × Hp))) (MX12_runs h305 v2 (xs (v4 + (1 : Int32)).toNatClampNeg) (xs (v4 + (2 : Int32)).toNatClampNeg)) fun (t312 : Int32) (h311 : Hp) =>
  gg (β := ((Int32 × Hp) ⊕ (Int32 × Hp))) (kd h311 v2 = 11) <|
  Option.bind (α := Int32) (β := ((Int32 × Hp) ⊕ (Int32 × Hp))) (MX12_thrown h311 v2) fun (t315 : Int32) =>
  if t315 = t306 then
    if t306 = 0 then
      gg (β := ((Int32 × Hp) ⊕ (Int32 × Hp))) (kd h311 v3 = 23) <|
      gg (β := ((Int32 × Hp) ⊕ (Int32 × Hp))) (inB (0 : Int32) (ln h311 v3) = true) <|
      if (lgc (gI h311 v3 (0 : Int32).toNatClampNeg) t312) = 0 then
        some (.inl ((v4 + (6 : Int32)), h311))
      else
        none
    else
      some (.inl ((v4 + (6 : Int32)), h311))
  else
    none
set_option maxRecDepth 100000 in
set_option maxHeartbeats 8000000 in
theorem kL_law_1270 {d : Nat} {L : Nat} {xs : Nat → Int32} {h : Hp} {v1 : Nat} {v2 : Nat} {v3 : Nat} {v4 : Int32} {r : Int32} {h9 : Hp} {x : ((Int32 × Hp) ⊕ (Int32 × Hp))} (H : ML_law_1270 L xs h v1 v2 v3 v4 = some x) (hb0 : ∀ s : Int32 × Hp, x = .inl s → JP (PL L xs) (d + 65) YL_law 23 [.retAddr 3000, .ref v1, .ref v2, .ref v3, .int s.1, Value.null, Value.null] [] s.2 (oI r) h9) (hx : ∀ z : (Int32 × Hp), x = .inr (z) → z = (r, h9)) : JP (PL L xs) (d + 65) YL_law 1270 [.retAddr 3000, .ref v1, .ref v2, .ref v3, .int v4, Value.null, Value.null] [] h (oI r) h9 := by
  unfold ML_law_1270 at H
  refine J_aload_n 1 dL_law_1270 rfl rfl ?_
  refine J_aload_nT 0 dL_law_1271 rfl rfl ?_
  refine J_iload dL_law_1272 rfl ?_
  refine J_iconst (1 : Int32) dL_law_1274 kc_1 ?_
  refine J_iadd dL_law_1275 ?_
  obtain ⟨g302, H⟩ := gd H
  refine J_sld dL_law_1276 (inB_ok g302) ?_
  refine J_aload_nT 0 dL_law_1277 rfl rfl ?_
  refine J_iload dL_law_1278 rfl ?_
  refine J_iconst (2 : Int32) dL_law_1280 kc_2 ?_
  refine J_iadd dL_law_1281 ?_
  obtain ⟨g303, H⟩ := gd H
  refine J_sld dL_law_1282 (inB_ok g303) ?_
  refine J_aload_n 3 dL_law_1283 rfl rfl ?_
  obtain ⟨t306, h305, e304, H⟩ := b2_el H
  refine J_cSW (hh := hhL_runs) (as := [.ref v1, .int (xs (v4 + (1 : Int32)).toNatClampNeg), .int (xs (v4 + (2 : Int32)).toNatClampNeg), .ref v3]) YL_runs 4 dL_law_1284 moL_runs msL_runs mlL_213 (okL_runs (d := d + 62) e304) rfl rfl [] rfl rfl (st2 := [.int t306]) rfl ?_
  refine J_istore dL_law_1287 (by decide) (ls' := [.retAddr 3000, .ref v1, .ref v2, .ref v3, .int v4, .int t306, Value.null]) rfl ?_
  refine J_aload_n 2 dL_law_1289 rfl rfl ?_
  refine J_aload_nT 0 dL_law_1290 rfl rfl ?_
  refine J_iload dL_law_1291 rfl ?_
  refine J_iconst (1 : Int32) dL_law_1293 kc_1 ?_
  refine J_iadd dL_law_1294 ?_
  obtain ⟨g307, H⟩ := gd H
  refine J_sld dL_law_1295 (inB_ok g307) ?_
  refine J_aload_nT 0 dL_law_1296 rfl rfl ?_
  refine J_iload dL_law_1297 rfl ?_
  refine J_iconst (2 : Int32) dL_law_1299 kc_2 ?_
  refine J_iadd dL_law_1300 ?_
  obtain ⟨g308, H⟩ := gd H
  refine J_sld dL_law_1301 (inB_ok g308) ?_
  obtain ⟨g310, H⟩ := gd H
  obtain ⟨t312, h311, e309, H⟩ := b2_el H
  refine J_cV (as := [.int (xs (v4 + (1 : Int32)).toNatClampNeg), .int (xs (v4 + (2 : Int32)).toNatClampNeg)]) 11 YX12_runs 2 dL_law_1302 moX12_runs mvX12_runs mlL_215 g310 rfl rfl (okX12_runs (d := d + 63) e309) rfl rfl [] rfl rfl (st2 := [.int t312]) rfl ?_
  refine J_istore dL_law_1305 (by decide) (ls' := [.retAddr 3000, .ref v1, .ref v2, .ref v3, .int v4, .int t306, .int t312]) rfl ?_
  refine J_aload_n 2 dL_law_1307 rfl rfl ?_
  obtain ⟨g314, H⟩ := gd H
  obtain ⟨t315, e313, H⟩ := bd H
  refine J_cV (as := []) 11 YX12_thrown 0 dL_law_1308 moX12_thrown mvX12_thrown mlL_166 g314 rfl rfl (okX12_thrown (d := d + 64) e313) rfl rfl [] rfl rfl (st2 := [.int t315]) rfl ?_
  refine J_iload dL_law_1311 rfl ?_
  refine J_icmp_eq 1318 dL_law_1313 rfl (fun q316 => ?_) (fun q316 => ?_)
  · replace H := br1 q316 H
    refine J_iload dL_law_1318 rfl ?_
    refine J_if_ne 1335 dL_law_1320 rfl (fun q317 => ?_) (fun q317 => ?_)
    · replace H := br0 q317 H
      refine J_goto 3209 dL_law_1335 rfl ?_
      refine J_iinc (v4 + (6 : Int32)) dL_law_3209 rfl (congrArg (HAdd.hAdd v4) kc_6) (by decide) (ls' := [.retAddr 3000, .ref v1, .ref v2, .ref v3, .int (v4 + (6 : Int32)), .int t306, .int t312]) rfl ?_
      refine J_goto 23 dL_law_3212 rfl ?_
      cases H
      exact J_dr (hb0 _ rfl) ⟨rfl, ⟨rfl, ⟨rfl, ⟨rfl, ⟨rfl, trivial⟩⟩⟩⟩⟩
    · replace H := br1 q317 H
      refine J_aload_n 3 dL_law_1323 rfl rfl ?_
      refine J_iconst (0 : Int32) dL_law_1324 kc_0 ?_
      obtain ⟨g318, H⟩ := gd H
      obtain ⟨g319, H⟩ := gd H
      refine J_lald dL_law_1325 g318 (inB_ok g319) ?_
      refine J_iload dL_law_1326 rfl ?_
      refine J_i2l dL_law_1328 ?_
      refine J_lcmp' dL_law_1329 ?_
      refine J_if_eq 1335 dL_law_1330 rfl (fun q320 => ?_) (fun q320 => ?_)
      · replace H := br1 q320 H
        refine J_goto 3209 dL_law_1335 rfl ?_
        refine J_iinc (v4 + (6 : Int32)) dL_law_3209 rfl (congrArg (HAdd.hAdd v4) kc_6) (by decide) (ls' := [.retAddr 3000, .ref v1, .ref v2, .ref v3, .int (v4 + (6 : Int32)), .int t306, .int t312]) rfl ?_
        refine J_goto 23 dL_law_3212 rfl ?_
        cases H
        exact J_dr (hb0 _ rfl) ⟨rfl, ⟨rfl, ⟨rfl, ⟨rfl, ⟨rfl, trivial⟩⟩⟩⟩⟩
      · replace H := br0 q320 H
        refine J_iconst (0 : Int32) dL_law_1333 kc_0 ?_
        cases H
  · replace H := br0 q316 H
    refine J_iconst (0 : Int32) dL_law_1316 kc_0 ?_
    cases H
noncomputable def ML_law_1338 (L : Nat) (xs : Nat → Int32) (h : Hp) (v1 : Nat) (v2 : Nat) (v3 : Nat) (v4 : Int32) : Option ((Int32 × Hp) ⊕ (Int32 × Hp)) :=
  gg (β := ((Int32 × Hp) ⊕ (Int32 × Hp))) (inB (v4 + (1 : Int32)) L = true) <|
  gg (β := ((Int32 × Hp) ⊕ (Int32 × Hp))) (inB (v4 + (2 : Int32)) L = true) <|
  b2 (α := Int32) (β := Hp) (γ := ((Int32 × Hp) ⊕ (Int32 × Hp))) (ML_slug h v1 (xs (v4 + (1 : Int32)).toNatClampNeg) (xs (v4 + (2 : Int32)).toNatClampNeg) v3) fun (t325 : Int32) (h324 : Hp) =>
  gg (β := ((Int32 × Hp) ⊕ (Int32 × Hp))) (inB (v4 + (1 : Int32)) L = true) <|
  gg (β := ((Int32 × Hp) ⊕ (Int32 × Hp))) (inB (v4 + (2 : Int32)) L = true) <|
  gg (β := ((Int32 × Hp) ⊕ (Int32 × Hp))) (kd h324 v2 = 11) <|
  b2 (α := Int32) (β := Hp) (γ := ((Int32 × Hp) ⊕ (Int32 × Hp))) (MX12_slug h324 v2 (xs (v4 + (1 : Int32)).toNatClampNeg) (xs (v4 + (2 : Int32)).toNatClampNeg)) fun (t331 : Int32) (h330 : Hp) =>
  gg (β := ((Int32 × Hp) ⊕ (Int32 × Hp))) (kd h330 v2 = 11) <|
  Option.bind (α := Int32) (β := ((Int32 × Hp) ⊕ (Int32 × Hp))) (MX12_thrown h330 v2) fun (t334 : Int32) =>
  if t334 = t325 then
    if t325 = 0 then
      gg (β := ((Int32 × Hp) ⊕ (Int32 × Hp))) (kd h330 v3 = 23) <|
      gg (β := ((Int32 × Hp) ⊕ (Int32 × Hp))) (inB (0 : Int32) (ln h330 v3) = true) <|
      if (lgc (gI h330 v3 (0 : Int32).toNatClampNeg) t331) = 0 then
        some (.inl ((v4 + (6 : Int32)), h330))
      else
        none
    else
      some (.inl ((v4 + (6 : Int32)), h330))
  else
    none
set_option maxRecDepth 100000 in
set_option maxHeartbeats 8000000 in
theorem kL_law_1338 {d : Nat} {L : Nat} {xs : Nat → Int32} {h : Hp} {v1 : Nat} {v2 : Nat} {v3 : Nat} {v4 : Int32} {r : Int32} {h9 : Hp} {x : ((Int32 × Hp) ⊕ (Int32 × Hp))} (H : ML_law_1338 L xs h v1 v2 v3 v4 = some x) (hb0 : ∀ s : Int32 × Hp, x = .inl s → JP (PL L xs) (d + 65) YL_law 23 [.retAddr 3000, .ref v1, .ref v2, .ref v3, .int s.1, Value.null, Value.null] [] s.2 (oI r) h9) (hx : ∀ z : (Int32 × Hp), x = .inr (z) → z = (r, h9)) : JP (PL L xs) (d + 65) YL_law 1338 [.retAddr 3000, .ref v1, .ref v2, .ref v3, .int v4, Value.null, Value.null] [] h (oI r) h9 := by
  unfold ML_law_1338 at H
  refine J_aload_n 1 dL_law_1338 rfl rfl ?_
  refine J_aload_nT 0 dL_law_1339 rfl rfl ?_
  refine J_iload dL_law_1340 rfl ?_
  refine J_iconst (1 : Int32) dL_law_1342 kc_1 ?_
  refine J_iadd dL_law_1343 ?_
  obtain ⟨g321, H⟩ := gd H
  refine J_sld dL_law_1344 (inB_ok g321) ?_
  refine J_aload_nT 0 dL_law_1345 rfl rfl ?_
  refine J_iload dL_law_1346 rfl ?_
  refine J_iconst (2 : Int32) dL_law_1348 kc_2 ?_
  refine J_iadd dL_law_1349 ?_
  obtain ⟨g322, H⟩ := gd H
  refine J_sld dL_law_1350 (inB_ok g322) ?_
  refine J_aload_n 3 dL_law_1351 rfl rfl ?_
  obtain ⟨t325, h324, e323, H⟩ := b2_el H
  refine J_cSW (hh := hhL_slug) (as := [.ref v1, .int (xs (v4 + (1 : Int32)).toNatClampNeg), .int (xs (v4 + (2 : Int32)).toNatClampNeg), .ref v3]) YL_slug 4 dL_law_1352 moL_slug msL_slug mlL_216 (okL_slug (d := d + 62) e323) rfl rfl [] rfl rfl (st2 := [.int t325]) rfl ?_
  refine J_istore dL_law_1355 (by decide) (ls' := [.retAddr 3000, .ref v1, .ref v2, .ref v3, .int v4, .int t325, Value.null]) rfl ?_
  refine J_aload_n 2 dL_law_1357 rfl rfl ?_
  refine J_aload_nT 0 dL_law_1358 rfl rfl ?_
  refine J_iload dL_law_1359 rfl ?_
  refine J_iconst (1 : Int32) dL_law_1361 kc_1 ?_
  refine J_iadd dL_law_1362 ?_
  obtain ⟨g326, H⟩ := gd H
  refine J_sld dL_law_1363 (inB_ok g326) ?_
  refine J_aload_nT 0 dL_law_1364 rfl rfl ?_
  refine J_iload dL_law_1365 rfl ?_
  refine J_iconst (2 : Int32) dL_law_1367 kc_2 ?_
  refine J_iadd dL_law_1368 ?_
  obtain ⟨g327, H⟩ := gd H
  refine J_sld dL_law_1369 (inB_ok g327) ?_
  obtain ⟨g329, H⟩ := gd H
  obtain ⟨t331, h330, e328, H⟩ := b2_el H
  refine J_cV (as := [.int (xs (v4 + (1 : Int32)).toNatClampNeg), .int (xs (v4 + (2 : Int32)).toNatClampNeg)]) 11 YX12_slug 2 dL_law_1370 moX12_slug mvX12_slug mlL_218 g329 rfl rfl (okX12_slug (d := d + 62) e328) rfl rfl [] rfl rfl (st2 := [.int t331]) rfl ?_
  refine J_istore dL_law_1373 (by decide) (ls' := [.retAddr 3000, .ref v1, .ref v2, .ref v3, .int v4, .int t325, .int t331]) rfl ?_
  refine J_aload_n 2 dL_law_1375 rfl rfl ?_
  obtain ⟨g333, H⟩ := gd H
  obtain ⟨t334, e332, H⟩ := bd H
  refine J_cV (as := []) 11 YX12_thrown 0 dL_law_1376 moX12_thrown mvX12_thrown mlL_166 g333 rfl rfl (okX12_thrown (d := d + 64) e332) rfl rfl [] rfl rfl (st2 := [.int t334]) rfl ?_
  refine J_iload dL_law_1379 rfl ?_
  refine J_icmp_eq 1386 dL_law_1381 rfl (fun q335 => ?_) (fun q335 => ?_)
  · replace H := br1 q335 H
    refine J_iload dL_law_1386 rfl ?_
    refine J_if_ne 1403 dL_law_1388 rfl (fun q336 => ?_) (fun q336 => ?_)
    · replace H := br0 q336 H
      refine J_goto 3209 dL_law_1403 rfl ?_
      refine J_iinc (v4 + (6 : Int32)) dL_law_3209 rfl (congrArg (HAdd.hAdd v4) kc_6) (by decide) (ls' := [.retAddr 3000, .ref v1, .ref v2, .ref v3, .int (v4 + (6 : Int32)), .int t325, .int t331]) rfl ?_
      refine J_goto 23 dL_law_3212 rfl ?_
      cases H
      exact J_dr (hb0 _ rfl) ⟨rfl, ⟨rfl, ⟨rfl, ⟨rfl, ⟨rfl, trivial⟩⟩⟩⟩⟩
    · replace H := br1 q336 H
      refine J_aload_n 3 dL_law_1391 rfl rfl ?_
      refine J_iconst (0 : Int32) dL_law_1392 kc_0 ?_
      obtain ⟨g337, H⟩ := gd H
      obtain ⟨g338, H⟩ := gd H
      refine J_lald dL_law_1393 g337 (inB_ok g338) ?_
      refine J_iload dL_law_1394 rfl ?_
      refine J_i2l dL_law_1396 ?_
      refine J_lcmp' dL_law_1397 ?_
      refine J_if_eq 1403 dL_law_1398 rfl (fun q339 => ?_) (fun q339 => ?_)
      · replace H := br1 q339 H
        refine J_goto 3209 dL_law_1403 rfl ?_
        refine J_iinc (v4 + (6 : Int32)) dL_law_3209 rfl (congrArg (HAdd.hAdd v4) kc_6) (by decide) (ls' := [.retAddr 3000, .ref v1, .ref v2, .ref v3, .int (v4 + (6 : Int32)), .int t325, .int t331]) rfl ?_
        refine J_goto 23 dL_law_3212 rfl ?_
        cases H
        exact J_dr (hb0 _ rfl) ⟨rfl, ⟨rfl, ⟨rfl, ⟨rfl, ⟨rfl, trivial⟩⟩⟩⟩⟩
      · replace H := br0 q339 H
        refine J_iconst (0 : Int32) dL_law_1401 kc_0 ?_
        cases H
  · replace H := br0 q335 H
    refine J_iconst (0 : Int32) dL_law_1384 kc_0 ?_
    cases H
noncomputable def ML_law_1406 (L : Nat) (xs : Nat → Int32) (h : Hp) (v1 : Nat) (v2 : Nat) (v3 : Nat) (v4 : Int32) : Option ((Int32 × Hp) ⊕ (Int32 × Hp)) :=
  gg (β := ((Int32 × Hp) ⊕ (Int32 × Hp))) (inB (v4 + (1 : Int32)) L = true) <|
  gg (β := ((Int32 × Hp) ⊕ (Int32 × Hp))) (inB (v4 + (2 : Int32)) L = true) <|
  b2 (α := Int32) (β := Hp) (γ := ((Int32 × Hp) ⊕ (Int32 × Hp))) (ML_says h v1 (xs (v4 + (1 : Int32)).toNatClampNeg) (xs (v4 + (2 : Int32)).toNatClampNeg) v3) fun (t344 : Int32) (h343 : Hp) =>
  gg (β := ((Int32 × Hp) ⊕ (Int32 × Hp))) (inB (v4 + (1 : Int32)) L = true) <|
  gg (β := ((Int32 × Hp) ⊕ (Int32 × Hp))) (inB (v4 + (2 : Int32)) L = true) <|
  gg (β := ((Int32 × Hp) ⊕ (Int32 × Hp))) (kd h343 v2 = 11) <|
  b2 (α := Int32) (β := Hp) (γ := ((Int32 × Hp) ⊕ (Int32 × Hp))) (MX12_says h343 v2 (xs (v4 + (1 : Int32)).toNatClampNeg) (xs (v4 + (2 : Int32)).toNatClampNeg)) fun (t350 : Int32) (h349 : Hp) =>
  gg (β := ((Int32 × Hp) ⊕ (Int32 × Hp))) (kd h349 v2 = 11) <|
  Option.bind (α := Int32) (β := ((Int32 × Hp) ⊕ (Int32 × Hp))) (MX12_thrown h349 v2) fun (t353 : Int32) =>
  if t353 = t344 then
    if t344 = 0 then
      gg (β := ((Int32 × Hp) ⊕ (Int32 × Hp))) (kd h349 v3 = 23) <|
      gg (β := ((Int32 × Hp) ⊕ (Int32 × Hp))) (inB (0 : Int32) (ln h349 v3) = true) <|
      if (lgc (gI h349 v3 (0 : Int32).toNatClampNeg) t350) = 0 then
        some (.inl ((v4 + (6 : Int32)), h349))
      else
        none
    else
      some (.inl ((v4 + (6 : Int32)), h349))
  else
    none
set_option maxRecDepth 100000 in
set_option maxHeartbeats 8000000 in
theorem kL_law_1406 {d : Nat} {L : Nat} {xs : Nat → Int32} {h : Hp} {v1 : Nat} {v2 : Nat} {v3 : Nat} {v4 : Int32} {r : Int32} {h9 : Hp} {x : ((Int32 × Hp) ⊕ (Int32 × Hp))} (H : ML_law_1406 L xs h v1 v2 v3 v4 = some x) (hb0 : ∀ s : Int32 × Hp, x = .inl s → JP (PL L xs) (d + 65) YL_law 23 [.retAddr 3000, .ref v1, .ref v2, .ref v3, .int s.1, Value.null, Value.null] [] s.2 (oI r) h9) (hx : ∀ z : (Int32 × Hp), x = .inr (z) → z = (r, h9)) : JP (PL L xs) (d + 65) YL_law 1406 [.retAddr 3000, .ref v1, .ref v2, .ref v3, .int v4, Value.null, Value.null] [] h (oI r) h9 := by
  unfold ML_law_1406 at H
  refine J_aload_n 1 dL_law_1406 rfl rfl ?_
  refine J_aload_nT 0 dL_law_1407 rfl rfl ?_
  refine J_iload dL_law_1408 rfl ?_
  refine J_iconst (1 : Int32) dL_law_1410 kc_1 ?_
  refine J_iadd dL_law_1411 ?_
  obtain ⟨g340, H⟩ := gd H
  refine J_sld dL_law_1412 (inB_ok g340) ?_
  refine J_aload_nT 0 dL_law_1413 rfl rfl ?_
  refine J_iload dL_law_1414 rfl ?_
  refine J_iconst (2 : Int32) dL_law_1416 kc_2 ?_
  refine J_iadd dL_law_1417 ?_
  obtain ⟨g341, H⟩ := gd H
  refine J_sld dL_law_1418 (inB_ok g341) ?_
  refine J_aload_n 3 dL_law_1419 rfl rfl ?_
  obtain ⟨t344, h343, e342, H⟩ := b2_el H
  refine J_cSW (hh := hhL_says) (as := [.ref v1, .int (xs (v4 + (1 : Int32)).toNatClampNeg), .int (xs (v4 + (2 : Int32)).toNatClampNeg), .ref v3]) YL_says 4 dL_law_1420 moL_says msL_says mlL_219 (okL_says (d := d + 62) e342) rfl rfl [] rfl rfl (st2 := [.int t344]) rfl ?_
  refine J_istore dL_law_1423 (by decide) (ls' := [.retAddr 3000, .ref v1, .ref v2, .ref v3, .int v4, .int t344, Value.null]) rfl ?_
  refine J_aload_n 2 dL_law_1425 rfl rfl ?_
  refine J_aload_nT 0 dL_law_1426 rfl rfl ?_
  refine J_iload dL_law_1427 rfl ?_
  refine J_iconst (1 : Int32) dL_law_1429 kc_1 ?_
  refine J_iadd dL_law_1430 ?_
  obtain ⟨g345, H⟩ := gd H
  refine J_sld dL_law_1431 (inB_ok g345) ?_
  refine J_aload_nT 0 dL_law_1432 rfl rfl ?_
  refine J_iload dL_law_1433 rfl ?_
  refine J_iconst (2 : Int32) dL_law_1435 kc_2 ?_
  refine J_iadd dL_law_1436 ?_
  obtain ⟨g346, H⟩ := gd H
  refine J_sld dL_law_1437 (inB_ok g346) ?_
  obtain ⟨g348, H⟩ := gd H
  obtain ⟨t350, h349, e347, H⟩ := b2_el H
  refine J_cV (as := [.int (xs (v4 + (1 : Int32)).toNatClampNeg), .int (xs (v4 + (2 : Int32)).toNatClampNeg)]) 11 YX12_says 2 dL_law_1438 moX12_says mvX12_says mlL_221 g348 rfl rfl (okX12_says (d := d + 63) e347) rfl rfl [] rfl rfl (st2 := [.int t350]) rfl ?_
  refine J_istore dL_law_1441 (by decide) (ls' := [.retAddr 3000, .ref v1, .ref v2, .ref v3, .int v4, .int t344, .int t350]) rfl ?_
  refine J_aload_n 2 dL_law_1443 rfl rfl ?_
  obtain ⟨g352, H⟩ := gd H
  obtain ⟨t353, e351, H⟩ := bd H
  refine J_cV (as := []) 11 YX12_thrown 0 dL_law_1444 moX12_thrown mvX12_thrown mlL_166 g352 rfl rfl (okX12_thrown (d := d + 64) e351) rfl rfl [] rfl rfl (st2 := [.int t353]) rfl ?_
  refine J_iload dL_law_1447 rfl ?_
  refine J_icmp_eq 1454 dL_law_1449 rfl (fun q354 => ?_) (fun q354 => ?_)
  · replace H := br1 q354 H
    refine J_iload dL_law_1454 rfl ?_
    refine J_if_ne 1471 dL_law_1456 rfl (fun q355 => ?_) (fun q355 => ?_)
    · replace H := br0 q355 H
      refine J_goto 3209 dL_law_1471 rfl ?_
      refine J_iinc (v4 + (6 : Int32)) dL_law_3209 rfl (congrArg (HAdd.hAdd v4) kc_6) (by decide) (ls' := [.retAddr 3000, .ref v1, .ref v2, .ref v3, .int (v4 + (6 : Int32)), .int t344, .int t350]) rfl ?_
      refine J_goto 23 dL_law_3212 rfl ?_
      cases H
      exact J_dr (hb0 _ rfl) ⟨rfl, ⟨rfl, ⟨rfl, ⟨rfl, ⟨rfl, trivial⟩⟩⟩⟩⟩
    · replace H := br1 q355 H
      refine J_aload_n 3 dL_law_1459 rfl rfl ?_
      refine J_iconst (0 : Int32) dL_law_1460 kc_0 ?_
      obtain ⟨g356, H⟩ := gd H
      obtain ⟨g357, H⟩ := gd H
      refine J_lald dL_law_1461 g356 (inB_ok g357) ?_
      refine J_iload dL_law_1462 rfl ?_
      refine J_i2l dL_law_1464 ?_
      refine J_lcmp' dL_law_1465 ?_
      refine J_if_eq 1471 dL_law_1466 rfl (fun q358 => ?_) (fun q358 => ?_)
      · replace H := br1 q358 H
        refine J_goto 3209 dL_law_1471 rfl ?_
        refine J_iinc (v4 + (6 : Int32)) dL_law_3209 rfl (congrArg (HAdd.hAdd v4) kc_6) (by decide) (ls' := [.retAddr 3000, .ref v1, .ref v2, .ref v3, .int (v4 + (6 : Int32)), .int t344, .int t350]) rfl ?_
        refine J_goto 23 dL_law_3212 rfl ?_
        cases H
        exact J_dr (hb0 _ rfl) ⟨rfl, ⟨rfl, ⟨rfl, ⟨rfl, ⟨rfl, trivial⟩⟩⟩⟩⟩
      · replace H := br0 q358 H
        refine J_iconst (0 : Int32) dL_law_1469 kc_0 ?_
        cases H
  · replace H := br0 q354 H
    refine J_iconst (0 : Int32) dL_law_1452 kc_0 ?_
    cases H
noncomputable def ML_law_1474 (L : Nat) (xs : Nat → Int32) (h : Hp) (v1 : Nat) (v2 : Nat) (v3 : Nat) (v4 : Int32) : Option ((Int32 × Hp) ⊕ (Int32 × Hp)) :=
  gg (β := ((Int32 × Hp) ⊕ (Int32 × Hp))) (inB (v4 + (1 : Int32)) L = true) <|
  gg (β := ((Int32 × Hp) ⊕ (Int32 × Hp))) (inB (v4 + (2 : Int32)) L = true) <|
  b2 (α := Int32) (β := Hp) (γ := ((Int32 × Hp) ⊕ (Int32 × Hp))) (ML_lies h v1 (xs (v4 + (1 : Int32)).toNatClampNeg) (xs (v4 + (2 : Int32)).toNatClampNeg) v3) fun (t363 : Int32) (h362 : Hp) =>
  gg (β := ((Int32 × Hp) ⊕ (Int32 × Hp))) (inB (v4 + (1 : Int32)) L = true) <|
  gg (β := ((Int32 × Hp) ⊕ (Int32 × Hp))) (inB (v4 + (2 : Int32)) L = true) <|
  gg (β := ((Int32 × Hp) ⊕ (Int32 × Hp))) (kd h362 v2 = 11) <|
  b2 (α := Int32) (β := Hp) (γ := ((Int32 × Hp) ⊕ (Int32 × Hp))) (MX12_lies h362 v2 (xs (v4 + (1 : Int32)).toNatClampNeg) (xs (v4 + (2 : Int32)).toNatClampNeg)) fun (t369 : Int32) (h368 : Hp) =>
  gg (β := ((Int32 × Hp) ⊕ (Int32 × Hp))) (kd h368 v2 = 11) <|
  Option.bind (α := Int32) (β := ((Int32 × Hp) ⊕ (Int32 × Hp))) (MX12_thrown h368 v2) fun (t372 : Int32) =>
  if t372 = t363 then
    if t363 = 0 then
      gg (β := ((Int32 × Hp) ⊕ (Int32 × Hp))) (kd h368 v3 = 23) <|
      gg (β := ((Int32 × Hp) ⊕ (Int32 × Hp))) (inB (0 : Int32) (ln h368 v3) = true) <|
      if (lgc (gI h368 v3 (0 : Int32).toNatClampNeg) t369) = 0 then
        some (.inl ((v4 + (6 : Int32)), h368))
      else
        none
    else
      some (.inl ((v4 + (6 : Int32)), h368))
  else
    none
set_option maxRecDepth 100000 in
set_option maxHeartbeats 8000000 in
theorem kL_law_1474 {d : Nat} {L : Nat} {xs : Nat → Int32} {h : Hp} {v1 : Nat} {v2 : Nat} {v3 : Nat} {v4 : Int32} {r : Int32} {h9 : Hp} {x : ((Int32 × Hp) ⊕ (Int32 × Hp))} (H : ML_law_1474 L xs h v1 v2 v3 v4 = some x) (hb0 : ∀ s : Int32 × Hp, x = .inl s → JP (PL L xs) (d + 65) YL_law 23 [.retAddr 3000, .ref v1, .ref v2, .ref v3, .int s.1, Value.null, Value.null] [] s.2 (oI r) h9) (hx : ∀ z : (Int32 × Hp), x = .inr (z) → z = (r, h9)) : JP (PL L xs) (d + 65) YL_law 1474 [.retAddr 3000, .ref v1, .ref v2, .ref v3, .int v4, Value.null, Value.null] [] h (oI r) h9 := by
  unfold ML_law_1474 at H
  refine J_aload_n 1 dL_law_1474 rfl rfl ?_
  refine J_aload_nT 0 dL_law_1475 rfl rfl ?_
  refine J_iload dL_law_1476 rfl ?_
  refine J_iconst (1 : Int32) dL_law_1478 kc_1 ?_
  refine J_iadd dL_law_1479 ?_
  obtain ⟨g359, H⟩ := gd H
  refine J_sld dL_law_1480 (inB_ok g359) ?_
  refine J_aload_nT 0 dL_law_1481 rfl rfl ?_
  refine J_iload dL_law_1482 rfl ?_
  refine J_iconst (2 : Int32) dL_law_1484 kc_2 ?_
  refine J_iadd dL_law_1485 ?_
  obtain ⟨g360, H⟩ := gd H
  refine J_sld dL_law_1486 (inB_ok g360) ?_
  refine J_aload_n 3 dL_law_1487 rfl rfl ?_
  obtain ⟨t363, h362, e361, H⟩ := b2_el H
  refine J_cSW (hh := hhL_lies) (as := [.ref v1, .int (xs (v4 + (1 : Int32)).toNatClampNeg), .int (xs (v4 + (2 : Int32)).toNatClampNeg), .ref v3]) YL_lies 4 dL_law_1488 moL_lies msL_lies mlL_222 (okL_lies (d := d + 62) e361) rfl rfl [] rfl rfl (st2 := [.int t363]) rfl ?_
  refine J_istore dL_law_1491 (by decide) (ls' := [.retAddr 3000, .ref v1, .ref v2, .ref v3, .int v4, .int t363, Value.null]) rfl ?_
  refine J_aload_n 2 dL_law_1493 rfl rfl ?_
  refine J_aload_nT 0 dL_law_1494 rfl rfl ?_
  refine J_iload dL_law_1495 rfl ?_
  refine J_iconst (1 : Int32) dL_law_1497 kc_1 ?_
  refine J_iadd dL_law_1498 ?_
  obtain ⟨g364, H⟩ := gd H
  refine J_sld dL_law_1499 (inB_ok g364) ?_
  refine J_aload_nT 0 dL_law_1500 rfl rfl ?_
  refine J_iload dL_law_1501 rfl ?_
  refine J_iconst (2 : Int32) dL_law_1503 kc_2 ?_
  refine J_iadd dL_law_1504 ?_
  obtain ⟨g365, H⟩ := gd H
  refine J_sld dL_law_1505 (inB_ok g365) ?_
  obtain ⟨g367, H⟩ := gd H
  obtain ⟨t369, h368, e366, H⟩ := b2_el H
  refine J_cV (as := [.int (xs (v4 + (1 : Int32)).toNatClampNeg), .int (xs (v4 + (2 : Int32)).toNatClampNeg)]) 11 YX12_lies 2 dL_law_1506 moX12_lies mvX12_lies mlL_224 g367 rfl rfl (okX12_lies (d := d + 62) e366) rfl rfl [] rfl rfl (st2 := [.int t369]) rfl ?_
  refine J_istore dL_law_1509 (by decide) (ls' := [.retAddr 3000, .ref v1, .ref v2, .ref v3, .int v4, .int t363, .int t369]) rfl ?_
  refine J_aload_n 2 dL_law_1511 rfl rfl ?_
  obtain ⟨g371, H⟩ := gd H
  obtain ⟨t372, e370, H⟩ := bd H
  refine J_cV (as := []) 11 YX12_thrown 0 dL_law_1512 moX12_thrown mvX12_thrown mlL_166 g371 rfl rfl (okX12_thrown (d := d + 64) e370) rfl rfl [] rfl rfl (st2 := [.int t372]) rfl ?_
  refine J_iload dL_law_1515 rfl ?_
  refine J_icmp_eq 1522 dL_law_1517 rfl (fun q373 => ?_) (fun q373 => ?_)
  · replace H := br1 q373 H
    refine J_iload dL_law_1522 rfl ?_
    refine J_if_ne 1539 dL_law_1524 rfl (fun q374 => ?_) (fun q374 => ?_)
    · replace H := br0 q374 H
      refine J_goto 3209 dL_law_1539 rfl ?_
      refine J_iinc (v4 + (6 : Int32)) dL_law_3209 rfl (congrArg (HAdd.hAdd v4) kc_6) (by decide) (ls' := [.retAddr 3000, .ref v1, .ref v2, .ref v3, .int (v4 + (6 : Int32)), .int t363, .int t369]) rfl ?_
      refine J_goto 23 dL_law_3212 rfl ?_
      cases H
      exact J_dr (hb0 _ rfl) ⟨rfl, ⟨rfl, ⟨rfl, ⟨rfl, ⟨rfl, trivial⟩⟩⟩⟩⟩
    · replace H := br1 q374 H
      refine J_aload_n 3 dL_law_1527 rfl rfl ?_
      refine J_iconst (0 : Int32) dL_law_1528 kc_0 ?_
      obtain ⟨g375, H⟩ := gd H
      obtain ⟨g376, H⟩ := gd H
      refine J_lald dL_law_1529 g375 (inB_ok g376) ?_
      refine J_iload dL_law_1530 rfl ?_
      refine J_i2l dL_law_1532 ?_
      refine J_lcmp' dL_law_1533 ?_
      refine J_if_eq 1539 dL_law_1534 rfl (fun q377 => ?_) (fun q377 => ?_)
      · replace H := br1 q377 H
        refine J_goto 3209 dL_law_1539 rfl ?_
        refine J_iinc (v4 + (6 : Int32)) dL_law_3209 rfl (congrArg (HAdd.hAdd v4) kc_6) (by decide) (ls' := [.retAddr 3000, .ref v1, .ref v2, .ref v3, .int (v4 + (6 : Int32)), .int t363, .int t369]) rfl ?_
        refine J_goto 23 dL_law_3212 rfl ?_
        cases H
        exact J_dr (hb0 _ rfl) ⟨rfl, ⟨rfl, ⟨rfl, ⟨rfl, ⟨rfl, trivial⟩⟩⟩⟩⟩
      · replace H := br0 q377 H
        refine J_iconst (0 : Int32) dL_law_1537 kc_0 ?_
        cases H
  · replace H := br0 q373 H
    refine J_iconst (0 : Int32) dL_law_1520 kc_0 ?_
    cases H
noncomputable def ML_law_1542 (L : Nat) (xs : Nat → Int32) (h : Hp) (v1 : Nat) (v2 : Nat) (v3 : Nat) (v4 : Int32) : Option ((Int32 × Hp) ⊕ (Int32 × Hp)) :=
  gg (β := ((Int32 × Hp) ⊕ (Int32 × Hp))) (inB (v4 + (1 : Int32)) L = true) <|
  b2 (α := Int32) (β := Hp) (γ := ((Int32 × Hp) ⊕ (Int32 × Hp))) (ML_judge h v1 (xs (v4 + (1 : Int32)).toNatClampNeg) v3) fun (t381 : Int32) (h380 : Hp) =>
  gg (β := ((Int32 × Hp) ⊕ (Int32 × Hp))) (inB (v4 + (1 : Int32)) L = true) <|
  gg (β := ((Int32 × Hp) ⊕ (Int32 × Hp))) (kd h380 v2 = 11) <|
  b2 (α := Int32) (β := Hp) (γ := ((Int32 × Hp) ⊕ (Int32 × Hp))) (MX12_judge h380 v2 (xs (v4 + (1 : Int32)).toNatClampNeg)) fun (t386 : Int32) (h385 : Hp) =>
  gg (β := ((Int32 × Hp) ⊕ (Int32 × Hp))) (kd h385 v2 = 11) <|
  Option.bind (α := Int32) (β := ((Int32 × Hp) ⊕ (Int32 × Hp))) (MX12_thrown h385 v2) fun (t389 : Int32) =>
  if t389 = t381 then
    if t381 = 0 then
      gg (β := ((Int32 × Hp) ⊕ (Int32 × Hp))) (kd h385 v3 = 23) <|
      gg (β := ((Int32 × Hp) ⊕ (Int32 × Hp))) (inB (0 : Int32) (ln h385 v3) = true) <|
      if (lgc (gI h385 v3 (0 : Int32).toNatClampNeg) t386) = 0 then
        some (.inl ((v4 + (6 : Int32)), h385))
      else
        none
    else
      some (.inl ((v4 + (6 : Int32)), h385))
  else
    none
set_option maxRecDepth 100000 in
set_option maxHeartbeats 8000000 in
theorem kL_law_1542 {d : Nat} {L : Nat} {xs : Nat → Int32} {h : Hp} {v1 : Nat} {v2 : Nat} {v3 : Nat} {v4 : Int32} {r : Int32} {h9 : Hp} {x : ((Int32 × Hp) ⊕ (Int32 × Hp))} (H : ML_law_1542 L xs h v1 v2 v3 v4 = some x) (hb0 : ∀ s : Int32 × Hp, x = .inl s → JP (PL L xs) (d + 65) YL_law 23 [.retAddr 3000, .ref v1, .ref v2, .ref v3, .int s.1, Value.null, Value.null] [] s.2 (oI r) h9) (hx : ∀ z : (Int32 × Hp), x = .inr (z) → z = (r, h9)) : JP (PL L xs) (d + 65) YL_law 1542 [.retAddr 3000, .ref v1, .ref v2, .ref v3, .int v4, Value.null, Value.null] [] h (oI r) h9 := by
  unfold ML_law_1542 at H
  refine J_aload_n 1 dL_law_1542 rfl rfl ?_
  refine J_aload_nT 0 dL_law_1543 rfl rfl ?_
  refine J_iload dL_law_1544 rfl ?_
  refine J_iconst (1 : Int32) dL_law_1546 kc_1 ?_
  refine J_iadd dL_law_1547 ?_
  obtain ⟨g378, H⟩ := gd H
  refine J_sld dL_law_1548 (inB_ok g378) ?_
  refine J_aload_n 3 dL_law_1549 rfl rfl ?_
  obtain ⟨t381, h380, e379, H⟩ := b2_el H
  refine J_cSW (hh := hhL_judge) (as := [.ref v1, .int (xs (v4 + (1 : Int32)).toNatClampNeg), .ref v3]) YL_judge 3 dL_law_1550 moL_judge msL_judge mlL_225 (okL_judge (d := d + 59) e379) rfl rfl [] rfl rfl (st2 := [.int t381]) rfl ?_
  refine J_istore dL_law_1553 (by decide) (ls' := [.retAddr 3000, .ref v1, .ref v2, .ref v3, .int v4, .int t381, Value.null]) rfl ?_
  refine J_aload_n 2 dL_law_1555 rfl rfl ?_
  refine J_aload_nT 0 dL_law_1556 rfl rfl ?_
  refine J_iload dL_law_1557 rfl ?_
  refine J_iconst (1 : Int32) dL_law_1559 kc_1 ?_
  refine J_iadd dL_law_1560 ?_
  obtain ⟨g382, H⟩ := gd H
  refine J_sld dL_law_1561 (inB_ok g382) ?_
  obtain ⟨g384, H⟩ := gd H
  obtain ⟨t386, h385, e383, H⟩ := b2_el H
  refine J_cV (as := [.int (xs (v4 + (1 : Int32)).toNatClampNeg)]) 11 YX12_judge 1 dL_law_1562 moX12_judge mvX12_judge mlL_227 g384 rfl rfl (okX12_judge (d := d + 61) e383) rfl rfl [] rfl rfl (st2 := [.int t386]) rfl ?_
  refine J_istore dL_law_1565 (by decide) (ls' := [.retAddr 3000, .ref v1, .ref v2, .ref v3, .int v4, .int t381, .int t386]) rfl ?_
  refine J_aload_n 2 dL_law_1567 rfl rfl ?_
  obtain ⟨g388, H⟩ := gd H
  obtain ⟨t389, e387, H⟩ := bd H
  refine J_cV (as := []) 11 YX12_thrown 0 dL_law_1568 moX12_thrown mvX12_thrown mlL_166 g388 rfl rfl (okX12_thrown (d := d + 64) e387) rfl rfl [] rfl rfl (st2 := [.int t389]) rfl ?_
  refine J_iload dL_law_1571 rfl ?_
  refine J_icmp_eq 1578 dL_law_1573 rfl (fun q390 => ?_) (fun q390 => ?_)
  · replace H := br1 q390 H
    refine J_iload dL_law_1578 rfl ?_
    refine J_if_ne 1595 dL_law_1580 rfl (fun q391 => ?_) (fun q391 => ?_)
    · replace H := br0 q391 H
      refine J_goto 3209 dL_law_1595 rfl ?_
      refine J_iinc (v4 + (6 : Int32)) dL_law_3209 rfl (congrArg (HAdd.hAdd v4) kc_6) (by decide) (ls' := [.retAddr 3000, .ref v1, .ref v2, .ref v3, .int (v4 + (6 : Int32)), .int t381, .int t386]) rfl ?_
      refine J_goto 23 dL_law_3212 rfl ?_
      cases H
      exact J_dr (hb0 _ rfl) ⟨rfl, ⟨rfl, ⟨rfl, ⟨rfl, ⟨rfl, trivial⟩⟩⟩⟩⟩
    · replace H := br1 q391 H
      refine J_aload_n 3 dL_law_1583 rfl rfl ?_
      refine J_iconst (0 : Int32) dL_law_1584 kc_0 ?_
      obtain ⟨g392, H⟩ := gd H
      obtain ⟨g393, H⟩ := gd H
      refine J_lald dL_law_1585 g392 (inB_ok g393) ?_
      refine J_iload dL_law_1586 rfl ?_
      refine J_i2l dL_law_1588 ?_
      refine J_lcmp' dL_law_1589 ?_
      refine J_if_eq 1595 dL_law_1590 rfl (fun q394 => ?_) (fun q394 => ?_)
      · replace H := br1 q394 H
        refine J_goto 3209 dL_law_1595 rfl ?_
        refine J_iinc (v4 + (6 : Int32)) dL_law_3209 rfl (congrArg (HAdd.hAdd v4) kc_6) (by decide) (ls' := [.retAddr 3000, .ref v1, .ref v2, .ref v3, .int (v4 + (6 : Int32)), .int t381, .int t386]) rfl ?_
        refine J_goto 23 dL_law_3212 rfl ?_
        cases H
        exact J_dr (hb0 _ rfl) ⟨rfl, ⟨rfl, ⟨rfl, ⟨rfl, ⟨rfl, trivial⟩⟩⟩⟩⟩
      · replace H := br0 q394 H
        refine J_iconst (0 : Int32) dL_law_1593 kc_0 ?_
        cases H
  · replace H := br0 q390 H
    refine J_iconst (0 : Int32) dL_law_1576 kc_0 ?_
    cases H
noncomputable def ML_law_1652 (L : Nat) (xs : Nat → Int32) (h : Hp) (v1 : Nat) (v2 : Nat) (v3 : Nat) (v4 : Int32) (s0 : Int32) (s1 : Int32) : Option ((Int32 × Hp) ⊕ (Int32 × Hp)) :=
  if (lgc s0 s1) = 0 then
    some (.inl ((v4 + (6 : Int32)), h))
  else
    none
set_option maxRecDepth 100000 in
set_option maxHeartbeats 8000000 in
theorem kL_law_1652 {d : Nat} {L : Nat} {xs : Nat → Int32} {h : Hp} {v1 : Nat} {v2 : Nat} {v3 : Nat} {v4 : Int32} {s0 : Int32} {s1 : Int32} {r : Int32} {h9 : Hp} {x : ((Int32 × Hp) ⊕ (Int32 × Hp))} (H : ML_law_1652 L xs h v1 v2 v3 v4 s0 s1 = some x) (hb0 : ∀ s : Int32 × Hp, x = .inl s → JP (PL L xs) (d + 65) YL_law 23 [.retAddr 3000, .ref v1, .ref v2, .ref v3, .int s.1, Value.null, Value.null] [] s.2 (oI r) h9) (hx : ∀ z : (Int32 × Hp), x = .inr (z) → z = (r, h9)) : JP (PL L xs) (d + 65) YL_law 1652 [.retAddr 3000, .ref v1, .ref v2, .ref v3, .int v4, Value.null, Value.null] [.long (Int32.toInt64 s1), .long (Int32.toInt64 s0)] h (oI r) h9 := by
  unfold ML_law_1652 at H
  refine J_lcmp' dL_law_1652 ?_
  refine J_if_eq 1658 dL_law_1653 rfl (fun q412 => ?_) (fun q412 => ?_)
  · replace H := br1 q412 H
    refine J_goto 3209 dL_law_1658 rfl ?_
    refine J_iinc (v4 + (6 : Int32)) dL_law_3209 rfl (congrArg (HAdd.hAdd v4) kc_6) (by decide) (ls' := [.retAddr 3000, .ref v1, .ref v2, .ref v3, .int (v4 + (6 : Int32)), Value.null, Value.null]) rfl ?_
    refine J_goto 23 dL_law_3212 rfl ?_
    cases H
    exact J_dr (hb0 _ rfl) ⟨rfl, ⟨rfl, ⟨rfl, ⟨rfl, ⟨rfl, trivial⟩⟩⟩⟩⟩
  · replace H := br0 q412 H
    refine J_iconst (0 : Int32) dL_law_1656 kc_0 ?_
    cases H
noncomputable def ML_law_1598 (L : Nat) (xs : Nat → Int32) (h : Hp) (v1 : Nat) (v2 : Nat) (v3 : Nat) (v4 : Int32) : Option ((Int32 × Hp) ⊕ (Int32 × Hp)) :=
  gg (β := ((Int32 × Hp) ⊕ (Int32 × Hp))) (inB (v4 + (1 : Int32)) L = true) <|
  b2 (α := Int32) (β := Hp) (γ := ((Int32 × Hp) ⊕ (Int32 × Hp))) (ML_pie h v1 (xs (v4 + (1 : Int32)).toNatClampNeg) v3) fun (t398 : Int32) (h397 : Hp) =>
  gg (β := ((Int32 × Hp) ⊕ (Int32 × Hp))) (inB (v4 + (1 : Int32)) L = true) <|
  gg (β := ((Int32 × Hp) ⊕ (Int32 × Hp))) (kd h397 v2 = 11) <|
  b2 (α := Int32) (β := Hp) (γ := ((Int32 × Hp) ⊕ (Int32 × Hp))) (MX12_pie h397 v2 (xs (v4 + (1 : Int32)).toNatClampNeg)) fun (t403 : Int32) (h402 : Hp) =>
  gg (β := ((Int32 × Hp) ⊕ (Int32 × Hp))) (kd h402 v2 = 11) <|
  Option.bind (α := Int32) (β := ((Int32 × Hp) ⊕ (Int32 × Hp))) (MX12_thrown h402 v2) fun (t406 : Int32) =>
  if t406 = t398 then
    if t398 = 0 then
      gg (β := ((Int32 × Hp) ⊕ (Int32 × Hp))) (kd h402 v3 = 23) <|
      gg (β := ((Int32 × Hp) ⊕ (Int32 × Hp))) (inB (0 : Int32) (ln h402 v3) = true) <|
      if t403 = 0 then
        ML_law_1652 L xs h402 v1 v2 v3 v4 (gI h402 v3 (0 : Int32).toNatClampNeg) (0 : Int32)
      else
        ML_law_1652 L xs h402 v1 v2 v3 v4 (gI h402 v3 (0 : Int32).toNatClampNeg) (1 : Int32)
    else
      some (.inl ((v4 + (6 : Int32)), h402))
  else
    none
set_option maxRecDepth 100000 in
set_option maxHeartbeats 8000000 in
theorem kL_law_1598 {d : Nat} {L : Nat} {xs : Nat → Int32} {h : Hp} {v1 : Nat} {v2 : Nat} {v3 : Nat} {v4 : Int32} {r : Int32} {h9 : Hp} {x : ((Int32 × Hp) ⊕ (Int32 × Hp))} (H : ML_law_1598 L xs h v1 v2 v3 v4 = some x) (hb0 : ∀ s : Int32 × Hp, x = .inl s → JP (PL L xs) (d + 65) YL_law 23 [.retAddr 3000, .ref v1, .ref v2, .ref v3, .int s.1, Value.null, Value.null] [] s.2 (oI r) h9) (hx : ∀ z : (Int32 × Hp), x = .inr (z) → z = (r, h9)) : JP (PL L xs) (d + 65) YL_law 1598 [.retAddr 3000, .ref v1, .ref v2, .ref v3, .int v4, Value.null, Value.null] [] h (oI r) h9 := by
  unfold ML_law_1598 at H
  refine J_aload_n 1 dL_law_1598 rfl rfl ?_
  refine J_aload_nT 0 dL_law_1599 rfl rfl ?_
  refine J_iload dL_law_1600 rfl ?_
  refine J_iconst (1 : Int32) dL_law_1602 kc_1 ?_
  refine J_iadd dL_law_1603 ?_
  obtain ⟨g395, H⟩ := gd H
  refine J_sld dL_law_1604 (inB_ok g395) ?_
  refine J_aload_n 3 dL_law_1605 rfl rfl ?_
  obtain ⟨t398, h397, e396, H⟩ := b2_el H
  refine J_cSW (hh := hhL_pie) (as := [.ref v1, .int (xs (v4 + (1 : Int32)).toNatClampNeg), .ref v3]) YL_pie 3 dL_law_1606 moL_pie msL_pie mlL_228 (okL_pie (d := d + 61) e396) rfl rfl [] rfl rfl (st2 := [.int t398]) rfl ?_
  refine J_istore dL_law_1609 (by decide) (ls' := [.retAddr 3000, .ref v1, .ref v2, .ref v3, .int v4, .int t398, Value.null]) rfl ?_
  refine J_aload_n 2 dL_law_1611 rfl rfl ?_
  refine J_aload_nT 0 dL_law_1612 rfl rfl ?_
  refine J_iload dL_law_1613 rfl ?_
  refine J_iconst (1 : Int32) dL_law_1615 kc_1 ?_
  refine J_iadd dL_law_1616 ?_
  obtain ⟨g399, H⟩ := gd H
  refine J_sld dL_law_1617 (inB_ok g399) ?_
  obtain ⟨g401, H⟩ := gd H
  obtain ⟨t403, h402, e400, H⟩ := b2_el H
  refine J_cV (as := [.int (xs (v4 + (1 : Int32)).toNatClampNeg)]) 11 YX12_pie 1 dL_law_1618 moX12_pie mvX12_pie mlL_230 g401 rfl rfl (okX12_pie (d := d + 63) e400) rfl rfl [] rfl rfl (st2 := [.int t403]) rfl ?_
  refine J_istore dL_law_1621 (by decide) (ls' := [.retAddr 3000, .ref v1, .ref v2, .ref v3, .int v4, .int t398, .int t403]) rfl ?_
  refine J_aload_n 2 dL_law_1623 rfl rfl ?_
  obtain ⟨g405, H⟩ := gd H
  obtain ⟨t406, e404, H⟩ := bd H
  refine J_cV (as := []) 11 YX12_thrown 0 dL_law_1624 moX12_thrown mvX12_thrown mlL_166 g405 rfl rfl (okX12_thrown (d := d + 64) e404) rfl rfl [] rfl rfl (st2 := [.int t406]) rfl ?_
  refine J_iload dL_law_1627 rfl ?_
  refine J_icmp_eq 1634 dL_law_1629 rfl (fun q407 => ?_) (fun q407 => ?_)
  · replace H := br1 q407 H
    refine J_iload dL_law_1634 rfl ?_
    refine J_if_ne 1658 dL_law_1636 rfl (fun q408 => ?_) (fun q408 => ?_)
    · replace H := br0 q408 H
      refine J_goto 3209 dL_law_1658 rfl ?_
      refine J_iinc (v4 + (6 : Int32)) dL_law_3209 rfl (congrArg (HAdd.hAdd v4) kc_6) (by decide) (ls' := [.retAddr 3000, .ref v1, .ref v2, .ref v3, .int (v4 + (6 : Int32)), .int t398, .int t403]) rfl ?_
      refine J_goto 23 dL_law_3212 rfl ?_
      cases H
      exact J_dr (hb0 _ rfl) ⟨rfl, ⟨rfl, ⟨rfl, ⟨rfl, ⟨rfl, trivial⟩⟩⟩⟩⟩
    · replace H := br1 q408 H
      refine J_aload_n 3 dL_law_1639 rfl rfl ?_
      refine J_iconst (0 : Int32) dL_law_1640 kc_0 ?_
      obtain ⟨g409, H⟩ := gd H
      obtain ⟨g410, H⟩ := gd H
      refine J_lald dL_law_1641 g409 (inB_ok g410) ?_
      refine J_iload dL_law_1642 rfl ?_
      refine J_if_eq 1651 dL_law_1644 rfl (fun q411 => ?_) (fun q411 => ?_)
      · replace H := br1 q411 H
        refine J_lconst' (0 : Int32) dL_law_1651 lc_0 ?_
        exact J_dr (kL_law_1652 H hb0 hx) ⟨rfl, ⟨rfl, ⟨rfl, ⟨rfl, ⟨rfl, trivial⟩⟩⟩⟩⟩
      · replace H := br0 q411 H
        refine J_lconst' (1 : Int32) dL_law_1647 lc_1 ?_
        refine J_goto 1652 dL_law_1648 rfl ?_
        exact J_dr (kL_law_1652 H hb0 hx) ⟨rfl, ⟨rfl, ⟨rfl, ⟨rfl, ⟨rfl, trivial⟩⟩⟩⟩⟩
  · replace H := br0 q407 H
    refine J_iconst (0 : Int32) dL_law_1632 kc_0 ?_
    cases H
noncomputable def ML_law_1727 (L : Nat) (xs : Nat → Int32) (h : Hp) (v1 : Nat) (v2 : Nat) (v3 : Nat) (v4 : Int32) (s0 : Int32) (s1 : Int32) : Option ((Int32 × Hp) ⊕ (Int32 × Hp)) :=
  if (lgc s0 s1) = 0 then
    some (.inl ((v4 + (6 : Int32)), h))
  else
    none
set_option maxRecDepth 100000 in
set_option maxHeartbeats 8000000 in
theorem kL_law_1727 {d : Nat} {L : Nat} {xs : Nat → Int32} {h : Hp} {v1 : Nat} {v2 : Nat} {v3 : Nat} {v4 : Int32} {s0 : Int32} {s1 : Int32} {r : Int32} {h9 : Hp} {x : ((Int32 × Hp) ⊕ (Int32 × Hp))} (H : ML_law_1727 L xs h v1 v2 v3 v4 s0 s1 = some x) (hb0 : ∀ s : Int32 × Hp, x = .inl s → JP (PL L xs) (d + 65) YL_law 23 [.retAddr 3000, .ref v1, .ref v2, .ref v3, .int s.1, Value.null, Value.null] [] s.2 (oI r) h9) (hx : ∀ z : (Int32 × Hp), x = .inr (z) → z = (r, h9)) : JP (PL L xs) (d + 65) YL_law 1727 [.retAddr 3000, .ref v1, .ref v2, .ref v3, .int v4, Value.null, Value.null] [.long (Int32.toInt64 s1), .long (Int32.toInt64 s0)] h (oI r) h9 := by
  unfold ML_law_1727 at H
  refine J_lcmp' dL_law_1727 ?_
  refine J_if_eq 1733 dL_law_1728 rfl (fun q432 => ?_) (fun q432 => ?_)
  · replace H := br1 q432 H
    refine J_goto 3209 dL_law_1733 rfl ?_
    refine J_iinc (v4 + (6 : Int32)) dL_law_3209 rfl (congrArg (HAdd.hAdd v4) kc_6) (by decide) (ls' := [.retAddr 3000, .ref v1, .ref v2, .ref v3, .int (v4 + (6 : Int32)), Value.null, Value.null]) rfl ?_
    refine J_goto 23 dL_law_3212 rfl ?_
    cases H
    exact J_dr (hb0 _ rfl) ⟨rfl, ⟨rfl, ⟨rfl, ⟨rfl, ⟨rfl, trivial⟩⟩⟩⟩⟩
  · replace H := br0 q432 H
    refine J_iconst (0 : Int32) dL_law_1731 kc_0 ?_
    cases H
noncomputable def ML_law_1661 (L : Nat) (xs : Nat → Int32) (h : Hp) (v1 : Nat) (v2 : Nat) (v3 : Nat) (v4 : Int32) : Option ((Int32 × Hp) ⊕ (Int32 × Hp)) :=
  gg (β := ((Int32 × Hp) ⊕ (Int32 × Hp))) (inB (v4 + (1 : Int32)) L = true) <|
  gg (β := ((Int32 × Hp) ⊕ (Int32 × Hp))) (inB (v4 + (2 : Int32)) L = true) <|
  b2 (α := Int32) (β := Hp) (γ := ((Int32 × Hp) ⊕ (Int32 × Hp))) (ML_change h v1 (xs (v4 + (1 : Int32)).toNatClampNeg) (xs (v4 + (2 : Int32)).toNatClampNeg) v3) fun (t417 : Int32) (h416 : Hp) =>
  gg (β := ((Int32 × Hp) ⊕ (Int32 × Hp))) (inB (v4 + (1 : Int32)) L = true) <|
  gg (β := ((Int32 × Hp) ⊕ (Int32 × Hp))) (inB (v4 + (2 : Int32)) L = true) <|
  gg (β := ((Int32 × Hp) ⊕ (Int32 × Hp))) (kd h416 v2 = 11) <|
  b2 (α := Int32) (β := Hp) (γ := ((Int32 × Hp) ⊕ (Int32 × Hp))) (MX12_change h416 v2 (xs (v4 + (1 : Int32)).toNatClampNeg) (xs (v4 + (2 : Int32)).toNatClampNeg)) fun (t423 : Int32) (h422 : Hp) =>
  gg (β := ((Int32 × Hp) ⊕ (Int32 × Hp))) (kd h422 v2 = 11) <|
  Option.bind (α := Int32) (β := ((Int32 × Hp) ⊕ (Int32 × Hp))) (MX12_thrown h422 v2) fun (t426 : Int32) =>
  if t426 = t417 then
    if t417 = 0 then
      gg (β := ((Int32 × Hp) ⊕ (Int32 × Hp))) (kd h422 v3 = 23) <|
      gg (β := ((Int32 × Hp) ⊕ (Int32 × Hp))) (inB (0 : Int32) (ln h422 v3) = true) <|
      if t423 = 0 then
        ML_law_1727 L xs h422 v1 v2 v3 v4 (gI h422 v3 (0 : Int32).toNatClampNeg) (0 : Int32)
      else
        ML_law_1727 L xs h422 v1 v2 v3 v4 (gI h422 v3 (0 : Int32).toNatClampNeg) (1 : Int32)
    else
      some (.inl ((v4 + (6 : Int32)), h422))
  else
    none
set_option maxRecDepth 100000 in
set_option maxHeartbeats 8000000 in
theorem kL_law_1661 {d : Nat} {L : Nat} {xs : Nat → Int32} {h : Hp} {v1 : Nat} {v2 : Nat} {v3 : Nat} {v4 : Int32} {r : Int32} {h9 : Hp} {x : ((Int32 × Hp) ⊕ (Int32 × Hp))} (H : ML_law_1661 L xs h v1 v2 v3 v4 = some x) (hb0 : ∀ s : Int32 × Hp, x = .inl s → JP (PL L xs) (d + 65) YL_law 23 [.retAddr 3000, .ref v1, .ref v2, .ref v3, .int s.1, Value.null, Value.null] [] s.2 (oI r) h9) (hx : ∀ z : (Int32 × Hp), x = .inr (z) → z = (r, h9)) : JP (PL L xs) (d + 65) YL_law 1661 [.retAddr 3000, .ref v1, .ref v2, .ref v3, .int v4, Value.null, Value.null] [] h (oI r) h9 := by
  unfold ML_law_1661 at H
  refine J_aload_n 1 dL_law_1661 rfl rfl ?_
  refine J_aload_nT 0 dL_law_1662 rfl rfl ?_
  refine J_iload dL_law_1663 rfl ?_
  refine J_iconst (1 : Int32) dL_law_1665 kc_1 ?_
  refine J_iadd dL_law_1666 ?_
  obtain ⟨g413, H⟩ := gd H
  refine J_sld dL_law_1667 (inB_ok g413) ?_
  refine J_aload_nT 0 dL_law_1668 rfl rfl ?_
  refine J_iload dL_law_1669 rfl ?_
  refine J_iconst (2 : Int32) dL_law_1671 kc_2 ?_
  refine J_iadd dL_law_1672 ?_
  obtain ⟨g414, H⟩ := gd H
  refine J_sld dL_law_1673 (inB_ok g414) ?_
  refine J_aload_n 3 dL_law_1674 rfl rfl ?_
  obtain ⟨t417, h416, e415, H⟩ := b2_el H
  refine J_cSW (hh := hhL_change) (as := [.ref v1, .int (xs (v4 + (1 : Int32)).toNatClampNeg), .int (xs (v4 + (2 : Int32)).toNatClampNeg), .ref v3]) YL_change 4 dL_law_1675 moL_change msL_change mlL_231 (okL_change (d := d + 61) e415) rfl rfl [] rfl rfl (st2 := [.int t417]) rfl ?_
  refine J_istore dL_law_1678 (by decide) (ls' := [.retAddr 3000, .ref v1, .ref v2, .ref v3, .int v4, .int t417, Value.null]) rfl ?_
  refine J_aload_n 2 dL_law_1680 rfl rfl ?_
  refine J_aload_nT 0 dL_law_1681 rfl rfl ?_
  refine J_iload dL_law_1682 rfl ?_
  refine J_iconst (1 : Int32) dL_law_1684 kc_1 ?_
  refine J_iadd dL_law_1685 ?_
  obtain ⟨g418, H⟩ := gd H
  refine J_sld dL_law_1686 (inB_ok g418) ?_
  refine J_aload_nT 0 dL_law_1687 rfl rfl ?_
  refine J_iload dL_law_1688 rfl ?_
  refine J_iconst (2 : Int32) dL_law_1690 kc_2 ?_
  refine J_iadd dL_law_1691 ?_
  obtain ⟨g419, H⟩ := gd H
  refine J_sld dL_law_1692 (inB_ok g419) ?_
  obtain ⟨g421, H⟩ := gd H
  obtain ⟨t423, h422, e420, H⟩ := b2_el H
  refine J_cV (as := [.int (xs (v4 + (1 : Int32)).toNatClampNeg), .int (xs (v4 + (2 : Int32)).toNatClampNeg)]) 11 YX12_change 2 dL_law_1693 moX12_change mvX12_change mlL_233 g421 rfl rfl (okX12_change (d := d + 62) e420) rfl rfl [] rfl rfl (st2 := [.int t423]) rfl ?_
  refine J_istore dL_law_1696 (by decide) (ls' := [.retAddr 3000, .ref v1, .ref v2, .ref v3, .int v4, .int t417, .int t423]) rfl ?_
  refine J_aload_n 2 dL_law_1698 rfl rfl ?_
  obtain ⟨g425, H⟩ := gd H
  obtain ⟨t426, e424, H⟩ := bd H
  refine J_cV (as := []) 11 YX12_thrown 0 dL_law_1699 moX12_thrown mvX12_thrown mlL_166 g425 rfl rfl (okX12_thrown (d := d + 64) e424) rfl rfl [] rfl rfl (st2 := [.int t426]) rfl ?_
  refine J_iload dL_law_1702 rfl ?_
  refine J_icmp_eq 1709 dL_law_1704 rfl (fun q427 => ?_) (fun q427 => ?_)
  · replace H := br1 q427 H
    refine J_iload dL_law_1709 rfl ?_
    refine J_if_ne 1733 dL_law_1711 rfl (fun q428 => ?_) (fun q428 => ?_)
    · replace H := br0 q428 H
      refine J_goto 3209 dL_law_1733 rfl ?_
      refine J_iinc (v4 + (6 : Int32)) dL_law_3209 rfl (congrArg (HAdd.hAdd v4) kc_6) (by decide) (ls' := [.retAddr 3000, .ref v1, .ref v2, .ref v3, .int (v4 + (6 : Int32)), .int t417, .int t423]) rfl ?_
      refine J_goto 23 dL_law_3212 rfl ?_
      cases H
      exact J_dr (hb0 _ rfl) ⟨rfl, ⟨rfl, ⟨rfl, ⟨rfl, ⟨rfl, trivial⟩⟩⟩⟩⟩
    · replace H := br1 q428 H
      refine J_aload_n 3 dL_law_1714 rfl rfl ?_
      refine J_iconst (0 : Int32) dL_law_1715 kc_0 ?_
      obtain ⟨g429, H⟩ := gd H
      obtain ⟨g430, H⟩ := gd H
      refine J_lald dL_law_1716 g429 (inB_ok g430) ?_
      refine J_iload dL_law_1717 rfl ?_
      refine J_if_eq 1726 dL_law_1719 rfl (fun q431 => ?_) (fun q431 => ?_)
      · replace H := br1 q431 H
        refine J_lconst' (0 : Int32) dL_law_1726 lc_0 ?_
        exact J_dr (kL_law_1727 H hb0 hx) ⟨rfl, ⟨rfl, ⟨rfl, ⟨rfl, ⟨rfl, trivial⟩⟩⟩⟩⟩
      · replace H := br0 q431 H
        refine J_lconst' (1 : Int32) dL_law_1722 lc_1 ?_
        refine J_goto 1727 dL_law_1723 rfl ?_
        exact J_dr (kL_law_1727 H hb0 hx) ⟨rfl, ⟨rfl, ⟨rfl, ⟨rfl, ⟨rfl, trivial⟩⟩⟩⟩⟩
  · replace H := br0 q427 H
    refine J_iconst (0 : Int32) dL_law_1707 kc_0 ?_
    cases H
noncomputable def ML_law_1736 (L : Nat) (xs : Nat → Int32) (h : Hp) (v1 : Nat) (v2 : Nat) (v3 : Nat) (v4 : Int32) : Option ((Int32 × Hp) ⊕ (Int32 × Hp)) :=
  gg (β := ((Int32 × Hp) ⊕ (Int32 × Hp))) (inB (v4 + (1 : Int32)) L = true) <|
  gg (β := ((Int32 × Hp) ⊕ (Int32 × Hp))) (inB (v4 + (2 : Int32)) L = true) <|
  gg (β := ((Int32 × Hp) ⊕ (Int32 × Hp))) (inB (v4 + (3 : Int32)) L = true) <|
  b2 (α := Int32) (β := Hp) (γ := ((Int32 × Hp) ⊕ (Int32 × Hp))) (ML_again h v1 (xs (v4 + (1 : Int32)).toNatClampNeg) (xs (v4 + (2 : Int32)).toNatClampNeg) (xs (v4 + (3 : Int32)).toNatClampNeg) v3) fun (t438 : Int32) (h437 : Hp) =>
  gg (β := ((Int32 × Hp) ⊕ (Int32 × Hp))) (inB (v4 + (1 : Int32)) L = true) <|
  gg (β := ((Int32 × Hp) ⊕ (Int32 × Hp))) (inB (v4 + (2 : Int32)) L = true) <|
  gg (β := ((Int32 × Hp) ⊕ (Int32 × Hp))) (inB (v4 + (3 : Int32)) L = true) <|
  gg (β := ((Int32 × Hp) ⊕ (Int32 × Hp))) (kd h437 v2 = 11) <|
  b2 (α := Int32) (β := Hp) (γ := ((Int32 × Hp) ⊕ (Int32 × Hp))) (MX12_again h437 v2 (xs (v4 + (1 : Int32)).toNatClampNeg) (xs (v4 + (2 : Int32)).toNatClampNeg) (xs (v4 + (3 : Int32)).toNatClampNeg)) fun (t445 : Int32) (h444 : Hp) =>
  gg (β := ((Int32 × Hp) ⊕ (Int32 × Hp))) (kd h444 v2 = 11) <|
  Option.bind (α := Int32) (β := ((Int32 × Hp) ⊕ (Int32 × Hp))) (MX12_thrown h444 v2) fun (t448 : Int32) =>
  if t448 = t438 then
    if t438 = 0 then
      gg (β := ((Int32 × Hp) ⊕ (Int32 × Hp))) (kd h444 v3 = 23) <|
      gg (β := ((Int32 × Hp) ⊕ (Int32 × Hp))) (inB (0 : Int32) (ln h444 v3) = true) <|
      if (lgc (gI h444 v3 (0 : Int32).toNatClampNeg) t445) = 0 then
        some (.inl ((v4 + (6 : Int32)), h444))
      else
        none
    else
      some (.inl ((v4 + (6 : Int32)), h444))
  else
    none
set_option maxRecDepth 100000 in
set_option maxHeartbeats 8000000 in
theorem kL_law_1736 {d : Nat} {L : Nat} {xs : Nat → Int32} {h : Hp} {v1 : Nat} {v2 : Nat} {v3 : Nat} {v4 : Int32} {r : Int32} {h9 : Hp} {x : ((Int32 × Hp) ⊕ (Int32 × Hp))} (H : ML_law_1736 L xs h v1 v2 v3 v4 = some x) (hb0 : ∀ s : Int32 × Hp, x = .inl s → JP (PL L xs) (d + 65) YL_law 23 [.retAddr 3000, .ref v1, .ref v2, .ref v3, .int s.1, Value.null, Value.null] [] s.2 (oI r) h9) (hx : ∀ z : (Int32 × Hp), x = .inr (z) → z = (r, h9)) : JP (PL L xs) (d + 65) YL_law 1736 [.retAddr 3000, .ref v1, .ref v2, .ref v3, .int v4, Value.null, Value.null] [] h (oI r) h9 := by
  unfold ML_law_1736 at H
  refine J_aload_n 1 dL_law_1736 rfl rfl ?_
  refine J_aload_nT 0 dL_law_1737 rfl rfl ?_
  refine J_iload dL_law_1738 rfl ?_
  refine J_iconst (1 : Int32) dL_law_1740 kc_1 ?_
  refine J_iadd dL_law_1741 ?_
  obtain ⟨g433, H⟩ := gd H
  refine J_sld dL_law_1742 (inB_ok g433) ?_
  refine J_aload_nT 0 dL_law_1743 rfl rfl ?_
  refine J_iload dL_law_1744 rfl ?_
  refine J_iconst (2 : Int32) dL_law_1746 kc_2 ?_
  refine J_iadd dL_law_1747 ?_
  obtain ⟨g434, H⟩ := gd H
  refine J_sld dL_law_1748 (inB_ok g434) ?_
  refine J_aload_nT 0 dL_law_1749 rfl rfl ?_
  refine J_iload dL_law_1750 rfl ?_
  refine J_iconst (3 : Int32) dL_law_1752 kc_3 ?_
  refine J_iadd dL_law_1753 ?_
  obtain ⟨g435, H⟩ := gd H
  refine J_sld dL_law_1754 (inB_ok g435) ?_
  refine J_aload_n 3 dL_law_1755 rfl rfl ?_
  obtain ⟨t438, h437, e436, H⟩ := b2_el H
  refine J_cSW (hh := hhL_again) (as := [.ref v1, .int (xs (v4 + (1 : Int32)).toNatClampNeg), .int (xs (v4 + (2 : Int32)).toNatClampNeg), .int (xs (v4 + (3 : Int32)).toNatClampNeg), .ref v3]) YL_again 5 dL_law_1756 moL_again msL_again mlL_234 (okL_again (d := d + 62) e436) rfl rfl [] rfl rfl (st2 := [.int t438]) rfl ?_
  refine J_istore dL_law_1759 (by decide) (ls' := [.retAddr 3000, .ref v1, .ref v2, .ref v3, .int v4, .int t438, Value.null]) rfl ?_
  refine J_aload_n 2 dL_law_1761 rfl rfl ?_
  refine J_aload_nT 0 dL_law_1762 rfl rfl ?_
  refine J_iload dL_law_1763 rfl ?_
  refine J_iconst (1 : Int32) dL_law_1765 kc_1 ?_
  refine J_iadd dL_law_1766 ?_
  obtain ⟨g439, H⟩ := gd H
  refine J_sld dL_law_1767 (inB_ok g439) ?_
  refine J_aload_nT 0 dL_law_1768 rfl rfl ?_
  refine J_iload dL_law_1769 rfl ?_
  refine J_iconst (2 : Int32) dL_law_1771 kc_2 ?_
  refine J_iadd dL_law_1772 ?_
  obtain ⟨g440, H⟩ := gd H
  refine J_sld dL_law_1773 (inB_ok g440) ?_
  refine J_aload_nT 0 dL_law_1774 rfl rfl ?_
  refine J_iload dL_law_1775 rfl ?_
  refine J_iconst (3 : Int32) dL_law_1777 kc_3 ?_
  refine J_iadd dL_law_1778 ?_
  obtain ⟨g441, H⟩ := gd H
  refine J_sld dL_law_1779 (inB_ok g441) ?_
  obtain ⟨g443, H⟩ := gd H
  obtain ⟨t445, h444, e442, H⟩ := b2_el H
  refine J_cV (as := [.int (xs (v4 + (1 : Int32)).toNatClampNeg), .int (xs (v4 + (2 : Int32)).toNatClampNeg), .int (xs (v4 + (3 : Int32)).toNatClampNeg)]) 11 YX12_again 3 dL_law_1780 moX12_again mvX12_again mlL_236 g443 rfl rfl (okX12_again (d := d + 62) e442) rfl rfl [] rfl rfl (st2 := [.int t445]) rfl ?_
  refine J_istore dL_law_1783 (by decide) (ls' := [.retAddr 3000, .ref v1, .ref v2, .ref v3, .int v4, .int t438, .int t445]) rfl ?_
  refine J_aload_n 2 dL_law_1785 rfl rfl ?_
  obtain ⟨g447, H⟩ := gd H
  obtain ⟨t448, e446, H⟩ := bd H
  refine J_cV (as := []) 11 YX12_thrown 0 dL_law_1786 moX12_thrown mvX12_thrown mlL_166 g447 rfl rfl (okX12_thrown (d := d + 64) e446) rfl rfl [] rfl rfl (st2 := [.int t448]) rfl ?_
  refine J_iload dL_law_1789 rfl ?_
  refine J_icmp_eq 1796 dL_law_1791 rfl (fun q449 => ?_) (fun q449 => ?_)
  · replace H := br1 q449 H
    refine J_iload dL_law_1796 rfl ?_
    refine J_if_ne 1813 dL_law_1798 rfl (fun q450 => ?_) (fun q450 => ?_)
    · replace H := br0 q450 H
      refine J_goto 3209 dL_law_1813 rfl ?_
      refine J_iinc (v4 + (6 : Int32)) dL_law_3209 rfl (congrArg (HAdd.hAdd v4) kc_6) (by decide) (ls' := [.retAddr 3000, .ref v1, .ref v2, .ref v3, .int (v4 + (6 : Int32)), .int t438, .int t445]) rfl ?_
      refine J_goto 23 dL_law_3212 rfl ?_
      cases H
      exact J_dr (hb0 _ rfl) ⟨rfl, ⟨rfl, ⟨rfl, ⟨rfl, ⟨rfl, trivial⟩⟩⟩⟩⟩
    · replace H := br1 q450 H
      refine J_aload_n 3 dL_law_1801 rfl rfl ?_
      refine J_iconst (0 : Int32) dL_law_1802 kc_0 ?_
      obtain ⟨g451, H⟩ := gd H
      obtain ⟨g452, H⟩ := gd H
      refine J_lald dL_law_1803 g451 (inB_ok g452) ?_
      refine J_iload dL_law_1804 rfl ?_
      refine J_i2l dL_law_1806 ?_
      refine J_lcmp' dL_law_1807 ?_
      refine J_if_eq 1813 dL_law_1808 rfl (fun q453 => ?_) (fun q453 => ?_)
      · replace H := br1 q453 H
        refine J_goto 3209 dL_law_1813 rfl ?_
        refine J_iinc (v4 + (6 : Int32)) dL_law_3209 rfl (congrArg (HAdd.hAdd v4) kc_6) (by decide) (ls' := [.retAddr 3000, .ref v1, .ref v2, .ref v3, .int (v4 + (6 : Int32)), .int t438, .int t445]) rfl ?_
        refine J_goto 23 dL_law_3212 rfl ?_
        cases H
        exact J_dr (hb0 _ rfl) ⟨rfl, ⟨rfl, ⟨rfl, ⟨rfl, ⟨rfl, trivial⟩⟩⟩⟩⟩
      · replace H := br0 q453 H
        refine J_iconst (0 : Int32) dL_law_1811 kc_0 ?_
        cases H
  · replace H := br0 q449 H
    refine J_iconst (0 : Int32) dL_law_1794 kc_0 ?_
    cases H
noncomputable def ML_law_1816 (L : Nat) (xs : Nat → Int32) (h : Hp) (v1 : Nat) (v2 : Nat) (v3 : Nat) (v4 : Int32) : Option ((Int32 × Hp) ⊕ (Int32 × Hp)) :=
  gg (β := ((Int32 × Hp) ⊕ (Int32 × Hp))) (inB (v4 + (1 : Int32)) L = true) <|
  gg (β := ((Int32 × Hp) ⊕ (Int32 × Hp))) (inB (v4 + (2 : Int32)) L = true) <|
  gg (β := ((Int32 × Hp) ⊕ (Int32 × Hp))) (inB (v4 + (3 : Int32)) L = true) <|
  b2 (α := Int32) (β := Hp) (γ := ((Int32 × Hp) ⊕ (Int32 × Hp))) (ML_correct h v1 (xs (v4 + (1 : Int32)).toNatClampNeg) (xs (v4 + (2 : Int32)).toNatClampNeg) (xs (v4 + (3 : Int32)).toNatClampNeg) v3) fun (t459 : Int32) (h458 : Hp) =>
  gg (β := ((Int32 × Hp) ⊕ (Int32 × Hp))) (inB (v4 + (1 : Int32)) L = true) <|
  gg (β := ((Int32 × Hp) ⊕ (Int32 × Hp))) (inB (v4 + (2 : Int32)) L = true) <|
  gg (β := ((Int32 × Hp) ⊕ (Int32 × Hp))) (inB (v4 + (3 : Int32)) L = true) <|
  gg (β := ((Int32 × Hp) ⊕ (Int32 × Hp))) (kd h458 v2 = 11) <|
  b2 (α := Int32) (β := Hp) (γ := ((Int32 × Hp) ⊕ (Int32 × Hp))) (MX12_correct h458 v2 (xs (v4 + (1 : Int32)).toNatClampNeg) (xs (v4 + (2 : Int32)).toNatClampNeg) (xs (v4 + (3 : Int32)).toNatClampNeg)) fun (t466 : Int32) (h465 : Hp) =>
  gg (β := ((Int32 × Hp) ⊕ (Int32 × Hp))) (kd h465 v2 = 11) <|
  Option.bind (α := Int32) (β := ((Int32 × Hp) ⊕ (Int32 × Hp))) (MX12_thrown h465 v2) fun (t469 : Int32) =>
  if t469 = t459 then
    if t459 = 0 then
      gg (β := ((Int32 × Hp) ⊕ (Int32 × Hp))) (kd h465 v3 = 23) <|
      gg (β := ((Int32 × Hp) ⊕ (Int32 × Hp))) (inB (0 : Int32) (ln h465 v3) = true) <|
      if (lgc (gI h465 v3 (0 : Int32).toNatClampNeg) t466) = 0 then
        some (.inl ((v4 + (6 : Int32)), h465))
      else
        none
    else
      some (.inl ((v4 + (6 : Int32)), h465))
  else
    none
set_option maxRecDepth 100000 in
set_option maxHeartbeats 8000000 in
theorem kL_law_1816 {d : Nat} {L : Nat} {xs : Nat → Int32} {h : Hp} {v1 : Nat} {v2 : Nat} {v3 : Nat} {v4 : Int32} {r : Int32} {h9 : Hp} {x : ((Int32 × Hp) ⊕ (Int32 × Hp))} (H : ML_law_1816 L xs h v1 v2 v3 v4 = some x) (hb0 : ∀ s : Int32 × Hp, x = .inl s → JP (PL L xs) (d + 65) YL_law 23 [.retAddr 3000, .ref v1, .ref v2, .ref v3, .int s.1, Value.null, Value.null] [] s.2 (oI r) h9) (hx : ∀ z : (Int32 × Hp), x = .inr (z) → z = (r, h9)) : JP (PL L xs) (d + 65) YL_law 1816 [.retAddr 3000, .ref v1, .ref v2, .ref v3, .int v4, Value.null, Value.null] [] h (oI r) h9 := by
  unfold ML_law_1816 at H
  refine J_aload_n 1 dL_law_1816 rfl rfl ?_
  refine J_aload_nT 0 dL_law_1817 rfl rfl ?_
  refine J_iload dL_law_1818 rfl ?_
  refine J_iconst (1 : Int32) dL_law_1820 kc_1 ?_
  refine J_iadd dL_law_1821 ?_
  obtain ⟨g454, H⟩ := gd H
  refine J_sld dL_law_1822 (inB_ok g454) ?_
  refine J_aload_nT 0 dL_law_1823 rfl rfl ?_
  refine J_iload dL_law_1824 rfl ?_
  refine J_iconst (2 : Int32) dL_law_1826 kc_2 ?_
  refine J_iadd dL_law_1827 ?_
  obtain ⟨g455, H⟩ := gd H
  refine J_sld dL_law_1828 (inB_ok g455) ?_
  refine J_aload_nT 0 dL_law_1829 rfl rfl ?_
  refine J_iload dL_law_1830 rfl ?_
  refine J_iconst (3 : Int32) dL_law_1832 kc_3 ?_
  refine J_iadd dL_law_1833 ?_
  obtain ⟨g456, H⟩ := gd H
  refine J_sld dL_law_1834 (inB_ok g456) ?_
  refine J_aload_n 3 dL_law_1835 rfl rfl ?_
  obtain ⟨t459, h458, e457, H⟩ := b2_el H
  refine J_cSW (hh := hhL_correct) (as := [.ref v1, .int (xs (v4 + (1 : Int32)).toNatClampNeg), .int (xs (v4 + (2 : Int32)).toNatClampNeg), .int (xs (v4 + (3 : Int32)).toNatClampNeg), .ref v3]) YL_correct 5 dL_law_1836 moL_correct msL_correct mlL_237 (okL_correct (d := d + 58) e457) rfl rfl [] rfl rfl (st2 := [.int t459]) rfl ?_
  refine J_istore dL_law_1839 (by decide) (ls' := [.retAddr 3000, .ref v1, .ref v2, .ref v3, .int v4, .int t459, Value.null]) rfl ?_
  refine J_aload_n 2 dL_law_1841 rfl rfl ?_
  refine J_aload_nT 0 dL_law_1842 rfl rfl ?_
  refine J_iload dL_law_1843 rfl ?_
  refine J_iconst (1 : Int32) dL_law_1845 kc_1 ?_
  refine J_iadd dL_law_1846 ?_
  obtain ⟨g460, H⟩ := gd H
  refine J_sld dL_law_1847 (inB_ok g460) ?_
  refine J_aload_nT 0 dL_law_1848 rfl rfl ?_
  refine J_iload dL_law_1849 rfl ?_
  refine J_iconst (2 : Int32) dL_law_1851 kc_2 ?_
  refine J_iadd dL_law_1852 ?_
  obtain ⟨g461, H⟩ := gd H
  refine J_sld dL_law_1853 (inB_ok g461) ?_
  refine J_aload_nT 0 dL_law_1854 rfl rfl ?_
  refine J_iload dL_law_1855 rfl ?_
  refine J_iconst (3 : Int32) dL_law_1857 kc_3 ?_
  refine J_iadd dL_law_1858 ?_
  obtain ⟨g462, H⟩ := gd H
  refine J_sld dL_law_1859 (inB_ok g462) ?_
  obtain ⟨g464, H⟩ := gd H
  obtain ⟨t466, h465, e463, H⟩ := b2_el H
  refine J_cV (as := [.int (xs (v4 + (1 : Int32)).toNatClampNeg), .int (xs (v4 + (2 : Int32)).toNatClampNeg), .int (xs (v4 + (3 : Int32)).toNatClampNeg)]) 11 YX12_correct 3 dL_law_1860 moX12_correct mvX12_correct mlL_239 g464 rfl rfl (okX12_correct (d := d + 59) e463) rfl rfl [] rfl rfl (st2 := [.int t466]) rfl ?_
  refine J_istore dL_law_1863 (by decide) (ls' := [.retAddr 3000, .ref v1, .ref v2, .ref v3, .int v4, .int t459, .int t466]) rfl ?_
  refine J_aload_n 2 dL_law_1865 rfl rfl ?_
  obtain ⟨g468, H⟩ := gd H
  obtain ⟨t469, e467, H⟩ := bd H
  refine J_cV (as := []) 11 YX12_thrown 0 dL_law_1866 moX12_thrown mvX12_thrown mlL_166 g468 rfl rfl (okX12_thrown (d := d + 64) e467) rfl rfl [] rfl rfl (st2 := [.int t469]) rfl ?_
  refine J_iload dL_law_1869 rfl ?_
  refine J_icmp_eq 1876 dL_law_1871 rfl (fun q470 => ?_) (fun q470 => ?_)
  · replace H := br1 q470 H
    refine J_iload dL_law_1876 rfl ?_
    refine J_if_ne 1893 dL_law_1878 rfl (fun q471 => ?_) (fun q471 => ?_)
    · replace H := br0 q471 H
      refine J_goto 3209 dL_law_1893 rfl ?_
      refine J_iinc (v4 + (6 : Int32)) dL_law_3209 rfl (congrArg (HAdd.hAdd v4) kc_6) (by decide) (ls' := [.retAddr 3000, .ref v1, .ref v2, .ref v3, .int (v4 + (6 : Int32)), .int t459, .int t466]) rfl ?_
      refine J_goto 23 dL_law_3212 rfl ?_
      cases H
      exact J_dr (hb0 _ rfl) ⟨rfl, ⟨rfl, ⟨rfl, ⟨rfl, ⟨rfl, trivial⟩⟩⟩⟩⟩
    · replace H := br1 q471 H
      refine J_aload_n 3 dL_law_1881 rfl rfl ?_
      refine J_iconst (0 : Int32) dL_law_1882 kc_0 ?_
      obtain ⟨g472, H⟩ := gd H
      obtain ⟨g473, H⟩ := gd H
      refine J_lald dL_law_1883 g472 (inB_ok g473) ?_
      refine J_iload dL_law_1884 rfl ?_
      refine J_i2l dL_law_1886 ?_
      refine J_lcmp' dL_law_1887 ?_
      refine J_if_eq 1893 dL_law_1888 rfl (fun q474 => ?_) (fun q474 => ?_)
      · replace H := br1 q474 H
        refine J_goto 3209 dL_law_1893 rfl ?_
        refine J_iinc (v4 + (6 : Int32)) dL_law_3209 rfl (congrArg (HAdd.hAdd v4) kc_6) (by decide) (ls' := [.retAddr 3000, .ref v1, .ref v2, .ref v3, .int (v4 + (6 : Int32)), .int t459, .int t466]) rfl ?_
        refine J_goto 23 dL_law_3212 rfl ?_
        cases H
        exact J_dr (hb0 _ rfl) ⟨rfl, ⟨rfl, ⟨rfl, ⟨rfl, ⟨rfl, trivial⟩⟩⟩⟩⟩
      · replace H := br0 q474 H
        refine J_iconst (0 : Int32) dL_law_1891 kc_0 ?_
        cases H
  · replace H := br0 q470 H
    refine J_iconst (0 : Int32) dL_law_1874 kc_0 ?_
    cases H
noncomputable def ML_law_1974 (L : Nat) (xs : Nat → Int32) (h : Hp) (v1 : Nat) (v2 : Nat) (v3 : Nat) (v4 : Int32) (s0 : Int32) (s1 : Int32) : Option ((Int32 × Hp) ⊕ (Int32 × Hp)) :=
  if (lgc s0 s1) = 0 then
    some (.inl ((v4 + (6 : Int32)), h))
  else
    none
set_option maxRecDepth 100000 in
set_option maxHeartbeats 8000000 in
theorem kL_law_1974 {d : Nat} {L : Nat} {xs : Nat → Int32} {h : Hp} {v1 : Nat} {v2 : Nat} {v3 : Nat} {v4 : Int32} {s0 : Int32} {s1 : Int32} {r : Int32} {h9 : Hp} {x : ((Int32 × Hp) ⊕ (Int32 × Hp))} (H : ML_law_1974 L xs h v1 v2 v3 v4 s0 s1 = some x) (hb0 : ∀ s : Int32 × Hp, x = .inl s → JP (PL L xs) (d + 65) YL_law 23 [.retAddr 3000, .ref v1, .ref v2, .ref v3, .int s.1, Value.null, Value.null] [] s.2 (oI r) h9) (hx : ∀ z : (Int32 × Hp), x = .inr (z) → z = (r, h9)) : JP (PL L xs) (d + 65) YL_law 1974 [.retAddr 3000, .ref v1, .ref v2, .ref v3, .int v4, Value.null, Value.null] [.long (Int32.toInt64 s1), .long (Int32.toInt64 s0)] h (oI r) h9 := by
  unfold ML_law_1974 at H
  refine J_lcmp' dL_law_1974 ?_
  refine J_if_eq 1980 dL_law_1975 rfl (fun q496 => ?_) (fun q496 => ?_)
  · replace H := br1 q496 H
    refine J_goto 3209 dL_law_1980 rfl ?_
    refine J_iinc (v4 + (6 : Int32)) dL_law_3209 rfl (congrArg (HAdd.hAdd v4) kc_6) (by decide) (ls' := [.retAddr 3000, .ref v1, .ref v2, .ref v3, .int (v4 + (6 : Int32)), Value.null, Value.null]) rfl ?_
    refine J_goto 23 dL_law_3212 rfl ?_
    cases H
    exact J_dr (hb0 _ rfl) ⟨rfl, ⟨rfl, ⟨rfl, ⟨rfl, ⟨rfl, trivial⟩⟩⟩⟩⟩
  · replace H := br0 q496 H
    refine J_iconst (0 : Int32) dL_law_1978 kc_0 ?_
    cases H
noncomputable def ML_law_1896 (L : Nat) (xs : Nat → Int32) (h : Hp) (v1 : Nat) (v2 : Nat) (v3 : Nat) (v4 : Int32) : Option ((Int32 × Hp) ⊕ (Int32 × Hp)) :=
  gg (β := ((Int32 × Hp) ⊕ (Int32 × Hp))) (inB (v4 + (1 : Int32)) L = true) <|
  gg (β := ((Int32 × Hp) ⊕ (Int32 × Hp))) (inB (v4 + (2 : Int32)) L = true) <|
  gg (β := ((Int32 × Hp) ⊕ (Int32 × Hp))) (inB (v4 + (3 : Int32)) L = true) <|
  b2 (α := Int32) (β := Hp) (γ := ((Int32 × Hp) ⊕ (Int32 × Hp))) (ML_slip h v1 (xs (v4 + (1 : Int32)).toNatClampNeg) (xs (v4 + (2 : Int32)).toNatClampNeg) (xs (v4 + (3 : Int32)).toNatClampNeg) v3) fun (t480 : Int32) (h479 : Hp) =>
  gg (β := ((Int32 × Hp) ⊕ (Int32 × Hp))) (inB (v4 + (1 : Int32)) L = true) <|
  gg (β := ((Int32 × Hp) ⊕ (Int32 × Hp))) (inB (v4 + (2 : Int32)) L = true) <|
  gg (β := ((Int32 × Hp) ⊕ (Int32 × Hp))) (inB (v4 + (3 : Int32)) L = true) <|
  gg (β := ((Int32 × Hp) ⊕ (Int32 × Hp))) (kd h479 v2 = 11) <|
  b2 (α := Int32) (β := Hp) (γ := ((Int32 × Hp) ⊕ (Int32 × Hp))) (MX12_slip h479 v2 (xs (v4 + (1 : Int32)).toNatClampNeg) (xs (v4 + (2 : Int32)).toNatClampNeg) (xs (v4 + (3 : Int32)).toNatClampNeg)) fun (t487 : Int32) (h486 : Hp) =>
  gg (β := ((Int32 × Hp) ⊕ (Int32 × Hp))) (kd h486 v2 = 11) <|
  Option.bind (α := Int32) (β := ((Int32 × Hp) ⊕ (Int32 × Hp))) (MX12_thrown h486 v2) fun (t490 : Int32) =>
  if t490 = t480 then
    if t480 = 0 then
      gg (β := ((Int32 × Hp) ⊕ (Int32 × Hp))) (kd h486 v3 = 23) <|
      gg (β := ((Int32 × Hp) ⊕ (Int32 × Hp))) (inB (0 : Int32) (ln h486 v3) = true) <|
      if t487 = 0 then
        ML_law_1974 L xs h486 v1 v2 v3 v4 (gI h486 v3 (0 : Int32).toNatClampNeg) (0 : Int32)
      else
        ML_law_1974 L xs h486 v1 v2 v3 v4 (gI h486 v3 (0 : Int32).toNatClampNeg) (1 : Int32)
    else
      some (.inl ((v4 + (6 : Int32)), h486))
  else
    none
set_option maxRecDepth 100000 in
set_option maxHeartbeats 8000000 in
theorem kL_law_1896 {d : Nat} {L : Nat} {xs : Nat → Int32} {h : Hp} {v1 : Nat} {v2 : Nat} {v3 : Nat} {v4 : Int32} {r : Int32} {h9 : Hp} {x : ((Int32 × Hp) ⊕ (Int32 × Hp))} (H : ML_law_1896 L xs h v1 v2 v3 v4 = some x) (hb0 : ∀ s : Int32 × Hp, x = .inl s → JP (PL L xs) (d + 65) YL_law 23 [.retAddr 3000, .ref v1, .ref v2, .ref v3, .int s.1, Value.null, Value.null] [] s.2 (oI r) h9) (hx : ∀ z : (Int32 × Hp), x = .inr (z) → z = (r, h9)) : JP (PL L xs) (d + 65) YL_law 1896 [.retAddr 3000, .ref v1, .ref v2, .ref v3, .int v4, Value.null, Value.null] [] h (oI r) h9 := by
  unfold ML_law_1896 at H
  refine J_aload_n 1 dL_law_1896 rfl rfl ?_
  refine J_aload_nT 0 dL_law_1897 rfl rfl ?_
  refine J_iload dL_law_1898 rfl ?_
  refine J_iconst (1 : Int32) dL_law_1900 kc_1 ?_
  refine J_iadd dL_law_1901 ?_
  obtain ⟨g475, H⟩ := gd H
  refine J_sld dL_law_1902 (inB_ok g475) ?_
  refine J_aload_nT 0 dL_law_1903 rfl rfl ?_
  refine J_iload dL_law_1904 rfl ?_
  refine J_iconst (2 : Int32) dL_law_1906 kc_2 ?_
  refine J_iadd dL_law_1907 ?_
  obtain ⟨g476, H⟩ := gd H
  refine J_sld dL_law_1908 (inB_ok g476) ?_
  refine J_aload_nT 0 dL_law_1909 rfl rfl ?_
  refine J_iload dL_law_1910 rfl ?_
  refine J_iconst (3 : Int32) dL_law_1912 kc_3 ?_
  refine J_iadd dL_law_1913 ?_
  obtain ⟨g477, H⟩ := gd H
  refine J_sld dL_law_1914 (inB_ok g477) ?_
  refine J_aload_n 3 dL_law_1915 rfl rfl ?_
  obtain ⟨t480, h479, e478, H⟩ := b2_el H
  refine J_cSW (hh := hhL_slip) (as := [.ref v1, .int (xs (v4 + (1 : Int32)).toNatClampNeg), .int (xs (v4 + (2 : Int32)).toNatClampNeg), .int (xs (v4 + (3 : Int32)).toNatClampNeg), .ref v3]) YL_slip 5 dL_law_1916 moL_slip msL_slip mlL_240 (okL_slip (d := d + 61) e478) rfl rfl [] rfl rfl (st2 := [.int t480]) rfl ?_
  refine J_istore dL_law_1919 (by decide) (ls' := [.retAddr 3000, .ref v1, .ref v2, .ref v3, .int v4, .int t480, Value.null]) rfl ?_
  refine J_aload_n 2 dL_law_1921 rfl rfl ?_
  refine J_aload_nT 0 dL_law_1922 rfl rfl ?_
  refine J_iload dL_law_1923 rfl ?_
  refine J_iconst (1 : Int32) dL_law_1925 kc_1 ?_
  refine J_iadd dL_law_1926 ?_
  obtain ⟨g481, H⟩ := gd H
  refine J_sld dL_law_1927 (inB_ok g481) ?_
  refine J_aload_nT 0 dL_law_1928 rfl rfl ?_
  refine J_iload dL_law_1929 rfl ?_
  refine J_iconst (2 : Int32) dL_law_1931 kc_2 ?_
  refine J_iadd dL_law_1932 ?_
  obtain ⟨g482, H⟩ := gd H
  refine J_sld dL_law_1933 (inB_ok g482) ?_
  refine J_aload_nT 0 dL_law_1934 rfl rfl ?_
  refine J_iload dL_law_1935 rfl ?_
  refine J_iconst (3 : Int32) dL_law_1937 kc_3 ?_
  refine J_iadd dL_law_1938 ?_
  obtain ⟨g483, H⟩ := gd H
  refine J_sld dL_law_1939 (inB_ok g483) ?_
  obtain ⟨g485, H⟩ := gd H
  obtain ⟨t487, h486, e484, H⟩ := b2_el H
  refine J_cV (as := [.int (xs (v4 + (1 : Int32)).toNatClampNeg), .int (xs (v4 + (2 : Int32)).toNatClampNeg), .int (xs (v4 + (3 : Int32)).toNatClampNeg)]) 11 YX12_slip 3 dL_law_1940 moX12_slip mvX12_slip mlL_242 g485 rfl rfl (okX12_slip (d := d + 63) e484) rfl rfl [] rfl rfl (st2 := [.int t487]) rfl ?_
  refine J_istore dL_law_1943 (by decide) (ls' := [.retAddr 3000, .ref v1, .ref v2, .ref v3, .int v4, .int t480, .int t487]) rfl ?_
  refine J_aload_n 2 dL_law_1945 rfl rfl ?_
  obtain ⟨g489, H⟩ := gd H
  obtain ⟨t490, e488, H⟩ := bd H
  refine J_cV (as := []) 11 YX12_thrown 0 dL_law_1946 moX12_thrown mvX12_thrown mlL_166 g489 rfl rfl (okX12_thrown (d := d + 64) e488) rfl rfl [] rfl rfl (st2 := [.int t490]) rfl ?_
  refine J_iload dL_law_1949 rfl ?_
  refine J_icmp_eq 1956 dL_law_1951 rfl (fun q491 => ?_) (fun q491 => ?_)
  · replace H := br1 q491 H
    refine J_iload dL_law_1956 rfl ?_
    refine J_if_ne 1980 dL_law_1958 rfl (fun q492 => ?_) (fun q492 => ?_)
    · replace H := br0 q492 H
      refine J_goto 3209 dL_law_1980 rfl ?_
      refine J_iinc (v4 + (6 : Int32)) dL_law_3209 rfl (congrArg (HAdd.hAdd v4) kc_6) (by decide) (ls' := [.retAddr 3000, .ref v1, .ref v2, .ref v3, .int (v4 + (6 : Int32)), .int t480, .int t487]) rfl ?_
      refine J_goto 23 dL_law_3212 rfl ?_
      cases H
      exact J_dr (hb0 _ rfl) ⟨rfl, ⟨rfl, ⟨rfl, ⟨rfl, ⟨rfl, trivial⟩⟩⟩⟩⟩
    · replace H := br1 q492 H
      refine J_aload_n 3 dL_law_1961 rfl rfl ?_
      refine J_iconst (0 : Int32) dL_law_1962 kc_0 ?_
      obtain ⟨g493, H⟩ := gd H
      obtain ⟨g494, H⟩ := gd H
      refine J_lald dL_law_1963 g493 (inB_ok g494) ?_
      refine J_iload dL_law_1964 rfl ?_
      refine J_if_eq 1973 dL_law_1966 rfl (fun q495 => ?_) (fun q495 => ?_)
      · replace H := br1 q495 H
        refine J_lconst' (0 : Int32) dL_law_1973 lc_0 ?_
        exact J_dr (kL_law_1974 H hb0 hx) ⟨rfl, ⟨rfl, ⟨rfl, ⟨rfl, ⟨rfl, trivial⟩⟩⟩⟩⟩
      · replace H := br0 q495 H
        refine J_lconst' (1 : Int32) dL_law_1969 lc_1 ?_
        refine J_goto 1974 dL_law_1970 rfl ?_
        exact J_dr (kL_law_1974 H hb0 hx) ⟨rfl, ⟨rfl, ⟨rfl, ⟨rfl, ⟨rfl, trivial⟩⟩⟩⟩⟩
  · replace H := br0 q491 H
    refine J_iconst (0 : Int32) dL_law_1954 kc_0 ?_
    cases H
noncomputable def ML_law_2049 (L : Nat) (xs : Nat → Int32) (h : Hp) (v1 : Nat) (v2 : Nat) (v3 : Nat) (v4 : Int32) (s0 : Int32) (s1 : Int32) : Option ((Int32 × Hp) ⊕ (Int32 × Hp)) :=
  if (lgc s0 s1) = 0 then
    some (.inl ((v4 + (6 : Int32)), h))
  else
    none
set_option maxRecDepth 100000 in
set_option maxHeartbeats 8000000 in
theorem kL_law_2049 {d : Nat} {L : Nat} {xs : Nat → Int32} {h : Hp} {v1 : Nat} {v2 : Nat} {v3 : Nat} {v4 : Int32} {s0 : Int32} {s1 : Int32} {r : Int32} {h9 : Hp} {x : ((Int32 × Hp) ⊕ (Int32 × Hp))} (H : ML_law_2049 L xs h v1 v2 v3 v4 s0 s1 = some x) (hb0 : ∀ s : Int32 × Hp, x = .inl s → JP (PL L xs) (d + 65) YL_law 23 [.retAddr 3000, .ref v1, .ref v2, .ref v3, .int s.1, Value.null, Value.null] [] s.2 (oI r) h9) (hx : ∀ z : (Int32 × Hp), x = .inr (z) → z = (r, h9)) : JP (PL L xs) (d + 65) YL_law 2049 [.retAddr 3000, .ref v1, .ref v2, .ref v3, .int v4, Value.null, Value.null] [.long (Int32.toInt64 s1), .long (Int32.toInt64 s0)] h (oI r) h9 := by
  unfold ML_law_2049 at H
  refine J_lcmp' dL_law_2049 ?_
  refine J_if_eq 2055 dL_law_2050 rfl (fun q516 => ?_) (fun q516 => ?_)
  · replace H := br1 q516 H
    refine J_goto 3209 dL_law_2055 rfl ?_
    refine J_iinc (v4 + (6 : Int32)) dL_law_3209 rfl (congrArg (HAdd.hAdd v4) kc_6) (by decide) (ls' := [.retAddr 3000, .ref v1, .ref v2, .ref v3, .int (v4 + (6 : Int32)), Value.null, Value.null]) rfl ?_
    refine J_goto 23 dL_law_3212 rfl ?_
    cases H
    exact J_dr (hb0 _ rfl) ⟨rfl, ⟨rfl, ⟨rfl, ⟨rfl, ⟨rfl, trivial⟩⟩⟩⟩⟩
  · replace H := br0 q516 H
    refine J_iconst (0 : Int32) dL_law_2053 kc_0 ?_
    cases H
noncomputable def ML_law_1983 (L : Nat) (xs : Nat → Int32) (h : Hp) (v1 : Nat) (v2 : Nat) (v3 : Nat) (v4 : Int32) : Option ((Int32 × Hp) ⊕ (Int32 × Hp)) :=
  gg (β := ((Int32 × Hp) ⊕ (Int32 × Hp))) (inB (v4 + (1 : Int32)) L = true) <|
  gg (β := ((Int32 × Hp) ⊕ (Int32 × Hp))) (inB (v4 + (2 : Int32)) L = true) <|
  b2 (α := Int32) (β := Hp) (γ := ((Int32 × Hp) ⊕ (Int32 × Hp))) (ML_read h v1 (xs (v4 + (1 : Int32)).toNatClampNeg) (xs (v4 + (2 : Int32)).toNatClampNeg) v3) fun (t501 : Int32) (h500 : Hp) =>
  gg (β := ((Int32 × Hp) ⊕ (Int32 × Hp))) (inB (v4 + (1 : Int32)) L = true) <|
  gg (β := ((Int32 × Hp) ⊕ (Int32 × Hp))) (inB (v4 + (2 : Int32)) L = true) <|
  gg (β := ((Int32 × Hp) ⊕ (Int32 × Hp))) (kd h500 v2 = 11) <|
  b2 (α := Int32) (β := Hp) (γ := ((Int32 × Hp) ⊕ (Int32 × Hp))) (MX12_read h500 v2 (xs (v4 + (1 : Int32)).toNatClampNeg) (xs (v4 + (2 : Int32)).toNatClampNeg)) fun (t507 : Int32) (h506 : Hp) =>
  gg (β := ((Int32 × Hp) ⊕ (Int32 × Hp))) (kd h506 v2 = 11) <|
  Option.bind (α := Int32) (β := ((Int32 × Hp) ⊕ (Int32 × Hp))) (MX12_thrown h506 v2) fun (t510 : Int32) =>
  if t510 = t501 then
    if t501 = 0 then
      gg (β := ((Int32 × Hp) ⊕ (Int32 × Hp))) (kd h506 v3 = 23) <|
      gg (β := ((Int32 × Hp) ⊕ (Int32 × Hp))) (inB (0 : Int32) (ln h506 v3) = true) <|
      if t507 = 0 then
        ML_law_2049 L xs h506 v1 v2 v3 v4 (gI h506 v3 (0 : Int32).toNatClampNeg) (0 : Int32)
      else
        ML_law_2049 L xs h506 v1 v2 v3 v4 (gI h506 v3 (0 : Int32).toNatClampNeg) (1 : Int32)
    else
      some (.inl ((v4 + (6 : Int32)), h506))
  else
    none
set_option maxRecDepth 100000 in
set_option maxHeartbeats 8000000 in
theorem kL_law_1983 {d : Nat} {L : Nat} {xs : Nat → Int32} {h : Hp} {v1 : Nat} {v2 : Nat} {v3 : Nat} {v4 : Int32} {r : Int32} {h9 : Hp} {x : ((Int32 × Hp) ⊕ (Int32 × Hp))} (H : ML_law_1983 L xs h v1 v2 v3 v4 = some x) (hb0 : ∀ s : Int32 × Hp, x = .inl s → JP (PL L xs) (d + 65) YL_law 23 [.retAddr 3000, .ref v1, .ref v2, .ref v3, .int s.1, Value.null, Value.null] [] s.2 (oI r) h9) (hx : ∀ z : (Int32 × Hp), x = .inr (z) → z = (r, h9)) : JP (PL L xs) (d + 65) YL_law 1983 [.retAddr 3000, .ref v1, .ref v2, .ref v3, .int v4, Value.null, Value.null] [] h (oI r) h9 := by
  unfold ML_law_1983 at H
  refine J_aload_n 1 dL_law_1983 rfl rfl ?_
  refine J_aload_nT 0 dL_law_1984 rfl rfl ?_
  refine J_iload dL_law_1985 rfl ?_
  refine J_iconst (1 : Int32) dL_law_1987 kc_1 ?_
  refine J_iadd dL_law_1988 ?_
  obtain ⟨g497, H⟩ := gd H
  refine J_sld dL_law_1989 (inB_ok g497) ?_
  refine J_aload_nT 0 dL_law_1990 rfl rfl ?_
  refine J_iload dL_law_1991 rfl ?_
  refine J_iconst (2 : Int32) dL_law_1993 kc_2 ?_
  refine J_iadd dL_law_1994 ?_
  obtain ⟨g498, H⟩ := gd H
  refine J_sld dL_law_1995 (inB_ok g498) ?_
  refine J_aload_n 3 dL_law_1996 rfl rfl ?_
  obtain ⟨t501, h500, e499, H⟩ := b2_el H
  refine J_cSW (hh := hhL_read) (as := [.ref v1, .int (xs (v4 + (1 : Int32)).toNatClampNeg), .int (xs (v4 + (2 : Int32)).toNatClampNeg), .ref v3]) YL_read 4 dL_law_1997 moL_read msL_read mlL_243 (okL_read (d := d + 62) e499) rfl rfl [] rfl rfl (st2 := [.int t501]) rfl ?_
  refine J_istore dL_law_2000 (by decide) (ls' := [.retAddr 3000, .ref v1, .ref v2, .ref v3, .int v4, .int t501, Value.null]) rfl ?_
  refine J_aload_n 2 dL_law_2002 rfl rfl ?_
  refine J_aload_nT 0 dL_law_2003 rfl rfl ?_
  refine J_iload dL_law_2004 rfl ?_
  refine J_iconst (1 : Int32) dL_law_2006 kc_1 ?_
  refine J_iadd dL_law_2007 ?_
  obtain ⟨g502, H⟩ := gd H
  refine J_sld dL_law_2008 (inB_ok g502) ?_
  refine J_aload_nT 0 dL_law_2009 rfl rfl ?_
  refine J_iload dL_law_2010 rfl ?_
  refine J_iconst (2 : Int32) dL_law_2012 kc_2 ?_
  refine J_iadd dL_law_2013 ?_
  obtain ⟨g503, H⟩ := gd H
  refine J_sld dL_law_2014 (inB_ok g503) ?_
  obtain ⟨g505, H⟩ := gd H
  obtain ⟨t507, h506, e504, H⟩ := b2_el H
  refine J_cV (as := [.int (xs (v4 + (1 : Int32)).toNatClampNeg), .int (xs (v4 + (2 : Int32)).toNatClampNeg)]) 11 YX12_read 2 dL_law_2015 moX12_read mvX12_read mlL_245 g505 rfl rfl (okX12_read (d := d + 63) e504) rfl rfl [] rfl rfl (st2 := [.int t507]) rfl ?_
  refine J_istore dL_law_2018 (by decide) (ls' := [.retAddr 3000, .ref v1, .ref v2, .ref v3, .int v4, .int t501, .int t507]) rfl ?_
  refine J_aload_n 2 dL_law_2020 rfl rfl ?_
  obtain ⟨g509, H⟩ := gd H
  obtain ⟨t510, e508, H⟩ := bd H
  refine J_cV (as := []) 11 YX12_thrown 0 dL_law_2021 moX12_thrown mvX12_thrown mlL_166 g509 rfl rfl (okX12_thrown (d := d + 64) e508) rfl rfl [] rfl rfl (st2 := [.int t510]) rfl ?_
  refine J_iload dL_law_2024 rfl ?_
  refine J_icmp_eq 2031 dL_law_2026 rfl (fun q511 => ?_) (fun q511 => ?_)
  · replace H := br1 q511 H
    refine J_iload dL_law_2031 rfl ?_
    refine J_if_ne 2055 dL_law_2033 rfl (fun q512 => ?_) (fun q512 => ?_)
    · replace H := br0 q512 H
      refine J_goto 3209 dL_law_2055 rfl ?_
      refine J_iinc (v4 + (6 : Int32)) dL_law_3209 rfl (congrArg (HAdd.hAdd v4) kc_6) (by decide) (ls' := [.retAddr 3000, .ref v1, .ref v2, .ref v3, .int (v4 + (6 : Int32)), .int t501, .int t507]) rfl ?_
      refine J_goto 23 dL_law_3212 rfl ?_
      cases H
      exact J_dr (hb0 _ rfl) ⟨rfl, ⟨rfl, ⟨rfl, ⟨rfl, ⟨rfl, trivial⟩⟩⟩⟩⟩
    · replace H := br1 q512 H
      refine J_aload_n 3 dL_law_2036 rfl rfl ?_
      refine J_iconst (0 : Int32) dL_law_2037 kc_0 ?_
      obtain ⟨g513, H⟩ := gd H
      obtain ⟨g514, H⟩ := gd H
      refine J_lald dL_law_2038 g513 (inB_ok g514) ?_
      refine J_iload dL_law_2039 rfl ?_
      refine J_if_eq 2048 dL_law_2041 rfl (fun q515 => ?_) (fun q515 => ?_)
      · replace H := br1 q515 H
        refine J_lconst' (0 : Int32) dL_law_2048 lc_0 ?_
        exact J_dr (kL_law_2049 H hb0 hx) ⟨rfl, ⟨rfl, ⟨rfl, ⟨rfl, ⟨rfl, trivial⟩⟩⟩⟩⟩
      · replace H := br0 q515 H
        refine J_lconst' (1 : Int32) dL_law_2044 lc_1 ?_
        refine J_goto 2049 dL_law_2045 rfl ?_
        exact J_dr (kL_law_2049 H hb0 hx) ⟨rfl, ⟨rfl, ⟨rfl, ⟨rfl, ⟨rfl, trivial⟩⟩⟩⟩⟩
  · replace H := br0 q511 H
    refine J_iconst (0 : Int32) dL_law_2029 kc_0 ?_
    cases H
noncomputable def ML_law_2058 (L : Nat) (xs : Nat → Int32) (h : Hp) (v1 : Nat) (v2 : Nat) (v3 : Nat) (v4 : Int32) : Option ((Int32 × Hp) ⊕ (Int32 × Hp)) :=
  gg (β := ((Int32 × Hp) ⊕ (Int32 × Hp))) (inB (v4 + (1 : Int32)) L = true) <|
  b2 (α := Int32) (β := Hp) (γ := ((Int32 × Hp) ⊕ (Int32 × Hp))) (ML_proof h v1 (xs (v4 + (1 : Int32)).toNatClampNeg) v3) fun (t520 : Int32) (h519 : Hp) =>
  gg (β := ((Int32 × Hp) ⊕ (Int32 × Hp))) (inB (v4 + (1 : Int32)) L = true) <|
  gg (β := ((Int32 × Hp) ⊕ (Int32 × Hp))) (kd h519 v2 = 11) <|
  b2 (α := Int32) (β := Hp) (γ := ((Int32 × Hp) ⊕ (Int32 × Hp))) (MX12_proof h519 v2 (xs (v4 + (1 : Int32)).toNatClampNeg)) fun (t525 : Int32) (h524 : Hp) =>
  gg (β := ((Int32 × Hp) ⊕ (Int32 × Hp))) (kd h524 v2 = 11) <|
  Option.bind (α := Int32) (β := ((Int32 × Hp) ⊕ (Int32 × Hp))) (MX12_thrown h524 v2) fun (t528 : Int32) =>
  if t528 = t520 then
    if t520 = 0 then
      gg (β := ((Int32 × Hp) ⊕ (Int32 × Hp))) (kd h524 v3 = 23) <|
      gg (β := ((Int32 × Hp) ⊕ (Int32 × Hp))) (inB (0 : Int32) (ln h524 v3) = true) <|
      if (lgc (gI h524 v3 (0 : Int32).toNatClampNeg) t525) = 0 then
        some (.inl ((v4 + (6 : Int32)), h524))
      else
        none
    else
      some (.inl ((v4 + (6 : Int32)), h524))
  else
    none
set_option maxRecDepth 100000 in
set_option maxHeartbeats 8000000 in
theorem kL_law_2058 {d : Nat} {L : Nat} {xs : Nat → Int32} {h : Hp} {v1 : Nat} {v2 : Nat} {v3 : Nat} {v4 : Int32} {r : Int32} {h9 : Hp} {x : ((Int32 × Hp) ⊕ (Int32 × Hp))} (H : ML_law_2058 L xs h v1 v2 v3 v4 = some x) (hb0 : ∀ s : Int32 × Hp, x = .inl s → JP (PL L xs) (d + 65) YL_law 23 [.retAddr 3000, .ref v1, .ref v2, .ref v3, .int s.1, Value.null, Value.null] [] s.2 (oI r) h9) (hx : ∀ z : (Int32 × Hp), x = .inr (z) → z = (r, h9)) : JP (PL L xs) (d + 65) YL_law 2058 [.retAddr 3000, .ref v1, .ref v2, .ref v3, .int v4, Value.null, Value.null] [] h (oI r) h9 := by
  unfold ML_law_2058 at H
  refine J_aload_n 1 dL_law_2058 rfl rfl ?_
  refine J_aload_nT 0 dL_law_2059 rfl rfl ?_
  refine J_iload dL_law_2060 rfl ?_
  refine J_iconst (1 : Int32) dL_law_2062 kc_1 ?_
  refine J_iadd dL_law_2063 ?_
  obtain ⟨g517, H⟩ := gd H
  refine J_sld dL_law_2064 (inB_ok g517) ?_
  refine J_aload_n 3 dL_law_2065 rfl rfl ?_
  obtain ⟨t520, h519, e518, H⟩ := b2_el H
  refine J_cSW (hh := hhL_proof) (as := [.ref v1, .int (xs (v4 + (1 : Int32)).toNatClampNeg), .ref v3]) YL_proof 3 dL_law_2066 moL_proof msL_proof mlL_246 (okL_proof (d := d + 59) e518) rfl rfl [] rfl rfl (st2 := [.int t520]) rfl ?_
  refine J_istore dL_law_2069 (by decide) (ls' := [.retAddr 3000, .ref v1, .ref v2, .ref v3, .int v4, .int t520, Value.null]) rfl ?_
  refine J_aload_n 2 dL_law_2071 rfl rfl ?_
  refine J_aload_nT 0 dL_law_2072 rfl rfl ?_
  refine J_iload dL_law_2073 rfl ?_
  refine J_iconst (1 : Int32) dL_law_2075 kc_1 ?_
  refine J_iadd dL_law_2076 ?_
  obtain ⟨g521, H⟩ := gd H
  refine J_sld dL_law_2077 (inB_ok g521) ?_
  obtain ⟨g523, H⟩ := gd H
  obtain ⟨t525, h524, e522, H⟩ := b2_el H
  refine J_cV (as := [.int (xs (v4 + (1 : Int32)).toNatClampNeg)]) 11 YX12_proof 1 dL_law_2078 moX12_proof mvX12_proof mlL_248 g523 rfl rfl (okX12_proof (d := d + 62) e522) rfl rfl [] rfl rfl (st2 := [.int t525]) rfl ?_
  refine J_istore dL_law_2081 (by decide) (ls' := [.retAddr 3000, .ref v1, .ref v2, .ref v3, .int v4, .int t520, .int t525]) rfl ?_
  refine J_aload_n 2 dL_law_2083 rfl rfl ?_
  obtain ⟨g527, H⟩ := gd H
  obtain ⟨t528, e526, H⟩ := bd H
  refine J_cV (as := []) 11 YX12_thrown 0 dL_law_2084 moX12_thrown mvX12_thrown mlL_166 g527 rfl rfl (okX12_thrown (d := d + 64) e526) rfl rfl [] rfl rfl (st2 := [.int t528]) rfl ?_
  refine J_iload dL_law_2087 rfl ?_
  refine J_icmp_eq 2094 dL_law_2089 rfl (fun q529 => ?_) (fun q529 => ?_)
  · replace H := br1 q529 H
    refine J_iload dL_law_2094 rfl ?_
    refine J_if_ne 2111 dL_law_2096 rfl (fun q530 => ?_) (fun q530 => ?_)
    · replace H := br0 q530 H
      refine J_goto 3209 dL_law_2111 rfl ?_
      refine J_iinc (v4 + (6 : Int32)) dL_law_3209 rfl (congrArg (HAdd.hAdd v4) kc_6) (by decide) (ls' := [.retAddr 3000, .ref v1, .ref v2, .ref v3, .int (v4 + (6 : Int32)), .int t520, .int t525]) rfl ?_
      refine J_goto 23 dL_law_3212 rfl ?_
      cases H
      exact J_dr (hb0 _ rfl) ⟨rfl, ⟨rfl, ⟨rfl, ⟨rfl, ⟨rfl, trivial⟩⟩⟩⟩⟩
    · replace H := br1 q530 H
      refine J_aload_n 3 dL_law_2099 rfl rfl ?_
      refine J_iconst (0 : Int32) dL_law_2100 kc_0 ?_
      obtain ⟨g531, H⟩ := gd H
      obtain ⟨g532, H⟩ := gd H
      refine J_lald dL_law_2101 g531 (inB_ok g532) ?_
      refine J_iload dL_law_2102 rfl ?_
      refine J_i2l dL_law_2104 ?_
      refine J_lcmp' dL_law_2105 ?_
      refine J_if_eq 2111 dL_law_2106 rfl (fun q533 => ?_) (fun q533 => ?_)
      · replace H := br1 q533 H
        refine J_goto 3209 dL_law_2111 rfl ?_
        refine J_iinc (v4 + (6 : Int32)) dL_law_3209 rfl (congrArg (HAdd.hAdd v4) kc_6) (by decide) (ls' := [.retAddr 3000, .ref v1, .ref v2, .ref v3, .int (v4 + (6 : Int32)), .int t520, .int t525]) rfl ?_
        refine J_goto 23 dL_law_3212 rfl ?_
        cases H
        exact J_dr (hb0 _ rfl) ⟨rfl, ⟨rfl, ⟨rfl, ⟨rfl, ⟨rfl, trivial⟩⟩⟩⟩⟩
      · replace H := br0 q533 H
        refine J_iconst (0 : Int32) dL_law_2109 kc_0 ?_
        cases H
  · replace H := br0 q529 H
    refine J_iconst (0 : Int32) dL_law_2092 kc_0 ?_
    cases H
noncomputable def ML_law_2114 (L : Nat) (xs : Nat → Int32) (h : Hp) (v1 : Nat) (v2 : Nat) (v3 : Nat) (v4 : Int32) : Option ((Int32 × Hp) ⊕ (Int32 × Hp)) :=
  gg (β := ((Int32 × Hp) ⊕ (Int32 × Hp))) (inB (v4 + (1 : Int32)) L = true) <|
  gg (β := ((Int32 × Hp) ⊕ (Int32 × Hp))) (inB (v4 + (2 : Int32)) L = true) <|
  gg (β := ((Int32 × Hp) ⊕ (Int32 × Hp))) (inB (v4 + (3 : Int32)) L = true) <|
  b2 (α := Int32) (β := Hp) (γ := ((Int32 × Hp) ⊕ (Int32 × Hp))) (ML_carry h v1 (xs (v4 + (1 : Int32)).toNatClampNeg) (xs (v4 + (2 : Int32)).toNatClampNeg) (xs (v4 + (3 : Int32)).toNatClampNeg) v3) fun (t539 : Int32) (h538 : Hp) =>
  gg (β := ((Int32 × Hp) ⊕ (Int32 × Hp))) (inB (v4 + (1 : Int32)) L = true) <|
  gg (β := ((Int32 × Hp) ⊕ (Int32 × Hp))) (inB (v4 + (2 : Int32)) L = true) <|
  gg (β := ((Int32 × Hp) ⊕ (Int32 × Hp))) (inB (v4 + (3 : Int32)) L = true) <|
  gg (β := ((Int32 × Hp) ⊕ (Int32 × Hp))) (kd h538 v2 = 11) <|
  b2 (α := Int32) (β := Hp) (γ := ((Int32 × Hp) ⊕ (Int32 × Hp))) (MX12_carry h538 v2 (xs (v4 + (1 : Int32)).toNatClampNeg) (xs (v4 + (2 : Int32)).toNatClampNeg) (xs (v4 + (3 : Int32)).toNatClampNeg)) fun (t546 : Int32) (h545 : Hp) =>
  gg (β := ((Int32 × Hp) ⊕ (Int32 × Hp))) (kd h545 v2 = 11) <|
  Option.bind (α := Int32) (β := ((Int32 × Hp) ⊕ (Int32 × Hp))) (MX12_thrown h545 v2) fun (t549 : Int32) =>
  if t549 = t539 then
    if t539 = 0 then
      gg (β := ((Int32 × Hp) ⊕ (Int32 × Hp))) (kd h545 v3 = 23) <|
      gg (β := ((Int32 × Hp) ⊕ (Int32 × Hp))) (inB (0 : Int32) (ln h545 v3) = true) <|
      if (lgc (gI h545 v3 (0 : Int32).toNatClampNeg) t546) = 0 then
        some (.inl ((v4 + (6 : Int32)), h545))
      else
        none
    else
      some (.inl ((v4 + (6 : Int32)), h545))
  else
    none
set_option maxRecDepth 100000 in
set_option maxHeartbeats 8000000 in
theorem kL_law_2114 {d : Nat} {L : Nat} {xs : Nat → Int32} {h : Hp} {v1 : Nat} {v2 : Nat} {v3 : Nat} {v4 : Int32} {r : Int32} {h9 : Hp} {x : ((Int32 × Hp) ⊕ (Int32 × Hp))} (H : ML_law_2114 L xs h v1 v2 v3 v4 = some x) (hb0 : ∀ s : Int32 × Hp, x = .inl s → JP (PL L xs) (d + 65) YL_law 23 [.retAddr 3000, .ref v1, .ref v2, .ref v3, .int s.1, Value.null, Value.null] [] s.2 (oI r) h9) (hx : ∀ z : (Int32 × Hp), x = .inr (z) → z = (r, h9)) : JP (PL L xs) (d + 65) YL_law 2114 [.retAddr 3000, .ref v1, .ref v2, .ref v3, .int v4, Value.null, Value.null] [] h (oI r) h9 := by
  unfold ML_law_2114 at H
  refine J_aload_n 1 dL_law_2114 rfl rfl ?_
  refine J_aload_nT 0 dL_law_2115 rfl rfl ?_
  refine J_iload dL_law_2116 rfl ?_
  refine J_iconst (1 : Int32) dL_law_2118 kc_1 ?_
  refine J_iadd dL_law_2119 ?_
  obtain ⟨g534, H⟩ := gd H
  refine J_sld dL_law_2120 (inB_ok g534) ?_
  refine J_aload_nT 0 dL_law_2121 rfl rfl ?_
  refine J_iload dL_law_2122 rfl ?_
  refine J_iconst (2 : Int32) dL_law_2124 kc_2 ?_
  refine J_iadd dL_law_2125 ?_
  obtain ⟨g535, H⟩ := gd H
  refine J_sld dL_law_2126 (inB_ok g535) ?_
  refine J_aload_nT 0 dL_law_2127 rfl rfl ?_
  refine J_iload dL_law_2128 rfl ?_
  refine J_iconst (3 : Int32) dL_law_2130 kc_3 ?_
  refine J_iadd dL_law_2131 ?_
  obtain ⟨g536, H⟩ := gd H
  refine J_sld dL_law_2132 (inB_ok g536) ?_
  refine J_aload_n 3 dL_law_2133 rfl rfl ?_
  obtain ⟨t539, h538, e537, H⟩ := b2_el H
  refine J_cSW (hh := hhL_carry) (as := [.ref v1, .int (xs (v4 + (1 : Int32)).toNatClampNeg), .int (xs (v4 + (2 : Int32)).toNatClampNeg), .int (xs (v4 + (3 : Int32)).toNatClampNeg), .ref v3]) YL_carry 5 dL_law_2134 moL_carry msL_carry mlL_249 (okL_carry (d := d + 62) e537) rfl rfl [] rfl rfl (st2 := [.int t539]) rfl ?_
  refine J_istore dL_law_2137 (by decide) (ls' := [.retAddr 3000, .ref v1, .ref v2, .ref v3, .int v4, .int t539, Value.null]) rfl ?_
  refine J_aload_n 2 dL_law_2139 rfl rfl ?_
  refine J_aload_nT 0 dL_law_2140 rfl rfl ?_
  refine J_iload dL_law_2141 rfl ?_
  refine J_iconst (1 : Int32) dL_law_2143 kc_1 ?_
  refine J_iadd dL_law_2144 ?_
  obtain ⟨g540, H⟩ := gd H
  refine J_sld dL_law_2145 (inB_ok g540) ?_
  refine J_aload_nT 0 dL_law_2146 rfl rfl ?_
  refine J_iload dL_law_2147 rfl ?_
  refine J_iconst (2 : Int32) dL_law_2149 kc_2 ?_
  refine J_iadd dL_law_2150 ?_
  obtain ⟨g541, H⟩ := gd H
  refine J_sld dL_law_2151 (inB_ok g541) ?_
  refine J_aload_nT 0 dL_law_2152 rfl rfl ?_
  refine J_iload dL_law_2153 rfl ?_
  refine J_iconst (3 : Int32) dL_law_2155 kc_3 ?_
  refine J_iadd dL_law_2156 ?_
  obtain ⟨g542, H⟩ := gd H
  refine J_sld dL_law_2157 (inB_ok g542) ?_
  obtain ⟨g544, H⟩ := gd H
  obtain ⟨t546, h545, e543, H⟩ := b2_el H
  refine J_cV (as := [.int (xs (v4 + (1 : Int32)).toNatClampNeg), .int (xs (v4 + (2 : Int32)).toNatClampNeg), .int (xs (v4 + (3 : Int32)).toNatClampNeg)]) 11 YX12_carry 3 dL_law_2158 moX12_carry mvX12_carry mlL_251 g544 rfl rfl (okX12_carry (d := d + 63) e543) rfl rfl [] rfl rfl (st2 := [.int t546]) rfl ?_
  refine J_istore dL_law_2161 (by decide) (ls' := [.retAddr 3000, .ref v1, .ref v2, .ref v3, .int v4, .int t539, .int t546]) rfl ?_
  refine J_aload_n 2 dL_law_2163 rfl rfl ?_
  obtain ⟨g548, H⟩ := gd H
  obtain ⟨t549, e547, H⟩ := bd H
  refine J_cV (as := []) 11 YX12_thrown 0 dL_law_2164 moX12_thrown mvX12_thrown mlL_166 g548 rfl rfl (okX12_thrown (d := d + 64) e547) rfl rfl [] rfl rfl (st2 := [.int t549]) rfl ?_
  refine J_iload dL_law_2167 rfl ?_
  refine J_icmp_eq 2174 dL_law_2169 rfl (fun q550 => ?_) (fun q550 => ?_)
  · replace H := br1 q550 H
    refine J_iload dL_law_2174 rfl ?_
    refine J_if_ne 2191 dL_law_2176 rfl (fun q551 => ?_) (fun q551 => ?_)
    · replace H := br0 q551 H
      refine J_goto 3209 dL_law_2191 rfl ?_
      refine J_iinc (v4 + (6 : Int32)) dL_law_3209 rfl (congrArg (HAdd.hAdd v4) kc_6) (by decide) (ls' := [.retAddr 3000, .ref v1, .ref v2, .ref v3, .int (v4 + (6 : Int32)), .int t539, .int t546]) rfl ?_
      refine J_goto 23 dL_law_3212 rfl ?_
      cases H
      exact J_dr (hb0 _ rfl) ⟨rfl, ⟨rfl, ⟨rfl, ⟨rfl, ⟨rfl, trivial⟩⟩⟩⟩⟩
    · replace H := br1 q551 H
      refine J_aload_n 3 dL_law_2179 rfl rfl ?_
      refine J_iconst (0 : Int32) dL_law_2180 kc_0 ?_
      obtain ⟨g552, H⟩ := gd H
      obtain ⟨g553, H⟩ := gd H
      refine J_lald dL_law_2181 g552 (inB_ok g553) ?_
      refine J_iload dL_law_2182 rfl ?_
      refine J_i2l dL_law_2184 ?_
      refine J_lcmp' dL_law_2185 ?_
      refine J_if_eq 2191 dL_law_2186 rfl (fun q554 => ?_) (fun q554 => ?_)
      · replace H := br1 q554 H
        refine J_goto 3209 dL_law_2191 rfl ?_
        refine J_iinc (v4 + (6 : Int32)) dL_law_3209 rfl (congrArg (HAdd.hAdd v4) kc_6) (by decide) (ls' := [.retAddr 3000, .ref v1, .ref v2, .ref v3, .int (v4 + (6 : Int32)), .int t539, .int t546]) rfl ?_
        refine J_goto 23 dL_law_3212 rfl ?_
        cases H
        exact J_dr (hb0 _ rfl) ⟨rfl, ⟨rfl, ⟨rfl, ⟨rfl, ⟨rfl, trivial⟩⟩⟩⟩⟩
      · replace H := br0 q554 H
        refine J_iconst (0 : Int32) dL_law_2189 kc_0 ?_
        cases H
  · replace H := br0 q550 H
    refine J_iconst (0 : Int32) dL_law_2172 kc_0 ?_
    cases H
noncomputable def ML_law_2194 (L : Nat) (xs : Nat → Int32) (h : Hp) (v1 : Nat) (v2 : Nat) (v3 : Nat) (v4 : Int32) : Option ((Int32 × Hp) ⊕ (Int32 × Hp)) :=
  gg (β := ((Int32 × Hp) ⊕ (Int32 × Hp))) (inB (v4 + (1 : Int32)) L = true) <|
  gg (β := ((Int32 × Hp) ⊕ (Int32 × Hp))) (inB (v4 + (2 : Int32)) L = true) <|
  gg (β := ((Int32 × Hp) ⊕ (Int32 × Hp))) (inB (v4 + (3 : Int32)) L = true) <|
  b2 (α := Int32) (β := Hp) (γ := ((Int32 × Hp) ⊕ (Int32 × Hp))) (ML_where h v1 (xs (v4 + (1 : Int32)).toNatClampNeg) (xs (v4 + (2 : Int32)).toNatClampNeg) (xs (v4 + (3 : Int32)).toNatClampNeg) v3) fun (t560 : Int32) (h559 : Hp) =>
  gg (β := ((Int32 × Hp) ⊕ (Int32 × Hp))) (inB (v4 + (1 : Int32)) L = true) <|
  gg (β := ((Int32 × Hp) ⊕ (Int32 × Hp))) (inB (v4 + (2 : Int32)) L = true) <|
  gg (β := ((Int32 × Hp) ⊕ (Int32 × Hp))) (inB (v4 + (3 : Int32)) L = true) <|
  gg (β := ((Int32 × Hp) ⊕ (Int32 × Hp))) (kd h559 v2 = 11) <|
  b2 (α := Int32) (β := Hp) (γ := ((Int32 × Hp) ⊕ (Int32 × Hp))) (MX12_where h559 v2 (xs (v4 + (1 : Int32)).toNatClampNeg) (xs (v4 + (2 : Int32)).toNatClampNeg) (xs (v4 + (3 : Int32)).toNatClampNeg)) fun (t567 : Int32) (h566 : Hp) =>
  gg (β := ((Int32 × Hp) ⊕ (Int32 × Hp))) (kd h566 v2 = 11) <|
  Option.bind (α := Int32) (β := ((Int32 × Hp) ⊕ (Int32 × Hp))) (MX12_thrown h566 v2) fun (t570 : Int32) =>
  if t570 = t560 then
    if t560 = 0 then
      gg (β := ((Int32 × Hp) ⊕ (Int32 × Hp))) (kd h566 v3 = 23) <|
      gg (β := ((Int32 × Hp) ⊕ (Int32 × Hp))) (inB (0 : Int32) (ln h566 v3) = true) <|
      if (lgc (gI h566 v3 (0 : Int32).toNatClampNeg) t567) = 0 then
        some (.inl ((v4 + (6 : Int32)), h566))
      else
        none
    else
      some (.inl ((v4 + (6 : Int32)), h566))
  else
    none
set_option maxRecDepth 100000 in
set_option maxHeartbeats 8000000 in
theorem kL_law_2194 {d : Nat} {L : Nat} {xs : Nat → Int32} {h : Hp} {v1 : Nat} {v2 : Nat} {v3 : Nat} {v4 : Int32} {r : Int32} {h9 : Hp} {x : ((Int32 × Hp) ⊕ (Int32 × Hp))} (H : ML_law_2194 L xs h v1 v2 v3 v4 = some x) (hb0 : ∀ s : Int32 × Hp, x = .inl s → JP (PL L xs) (d + 65) YL_law 23 [.retAddr 3000, .ref v1, .ref v2, .ref v3, .int s.1, Value.null, Value.null] [] s.2 (oI r) h9) (hx : ∀ z : (Int32 × Hp), x = .inr (z) → z = (r, h9)) : JP (PL L xs) (d + 65) YL_law 2194 [.retAddr 3000, .ref v1, .ref v2, .ref v3, .int v4, Value.null, Value.null] [] h (oI r) h9 := by
  unfold ML_law_2194 at H
  refine J_aload_n 1 dL_law_2194 rfl rfl ?_
  refine J_aload_nT 0 dL_law_2195 rfl rfl ?_
  refine J_iload dL_law_2196 rfl ?_
  refine J_iconst (1 : Int32) dL_law_2198 kc_1 ?_
  refine J_iadd dL_law_2199 ?_
  obtain ⟨g555, H⟩ := gd H
  refine J_sld dL_law_2200 (inB_ok g555) ?_
  refine J_aload_nT 0 dL_law_2201 rfl rfl ?_
  refine J_iload dL_law_2202 rfl ?_
  refine J_iconst (2 : Int32) dL_law_2204 kc_2 ?_
  refine J_iadd dL_law_2205 ?_
  obtain ⟨g556, H⟩ := gd H
  refine J_sld dL_law_2206 (inB_ok g556) ?_
  refine J_aload_nT 0 dL_law_2207 rfl rfl ?_
  refine J_iload dL_law_2208 rfl ?_
  refine J_iconst (3 : Int32) dL_law_2210 kc_3 ?_
  refine J_iadd dL_law_2211 ?_
  obtain ⟨g557, H⟩ := gd H
  refine J_sld dL_law_2212 (inB_ok g557) ?_
  refine J_aload_n 3 dL_law_2213 rfl rfl ?_
  obtain ⟨t560, h559, e558, H⟩ := b2_el H
  refine J_cSW (hh := hhL_where) (as := [.ref v1, .int (xs (v4 + (1 : Int32)).toNatClampNeg), .int (xs (v4 + (2 : Int32)).toNatClampNeg), .int (xs (v4 + (3 : Int32)).toNatClampNeg), .ref v3]) YL_where 5 dL_law_2214 moL_where msL_where mlL_252 (okL_where (d := d + 62) e558) rfl rfl [] rfl rfl (st2 := [.int t560]) rfl ?_
  refine J_istore dL_law_2217 (by decide) (ls' := [.retAddr 3000, .ref v1, .ref v2, .ref v3, .int v4, .int t560, Value.null]) rfl ?_
  refine J_aload_n 2 dL_law_2219 rfl rfl ?_
  refine J_aload_nT 0 dL_law_2220 rfl rfl ?_
  refine J_iload dL_law_2221 rfl ?_
  refine J_iconst (1 : Int32) dL_law_2223 kc_1 ?_
  refine J_iadd dL_law_2224 ?_
  obtain ⟨g561, H⟩ := gd H
  refine J_sld dL_law_2225 (inB_ok g561) ?_
  refine J_aload_nT 0 dL_law_2226 rfl rfl ?_
  refine J_iload dL_law_2227 rfl ?_
  refine J_iconst (2 : Int32) dL_law_2229 kc_2 ?_
  refine J_iadd dL_law_2230 ?_
  obtain ⟨g562, H⟩ := gd H
  refine J_sld dL_law_2231 (inB_ok g562) ?_
  refine J_aload_nT 0 dL_law_2232 rfl rfl ?_
  refine J_iload dL_law_2233 rfl ?_
  refine J_iconst (3 : Int32) dL_law_2235 kc_3 ?_
  refine J_iadd dL_law_2236 ?_
  obtain ⟨g563, H⟩ := gd H
  refine J_sld dL_law_2237 (inB_ok g563) ?_
  obtain ⟨g565, H⟩ := gd H
  obtain ⟨t567, h566, e564, H⟩ := b2_el H
  refine J_cV (as := [.int (xs (v4 + (1 : Int32)).toNatClampNeg), .int (xs (v4 + (2 : Int32)).toNatClampNeg), .int (xs (v4 + (3 : Int32)).toNatClampNeg)]) 11 YX12_where 3 dL_law_2238 moX12_where mvX12_where mlL_254 g565 rfl rfl (okX12_where (d := d + 63) e564) rfl rfl [] rfl rfl (st2 := [.int t567]) rfl ?_
  refine J_istore dL_law_2241 (by decide) (ls' := [.retAddr 3000, .ref v1, .ref v2, .ref v3, .int v4, .int t560, .int t567]) rfl ?_
  refine J_aload_n 2 dL_law_2243 rfl rfl ?_
  obtain ⟨g569, H⟩ := gd H
  obtain ⟨t570, e568, H⟩ := bd H
  refine J_cV (as := []) 11 YX12_thrown 0 dL_law_2244 moX12_thrown mvX12_thrown mlL_166 g569 rfl rfl (okX12_thrown (d := d + 64) e568) rfl rfl [] rfl rfl (st2 := [.int t570]) rfl ?_
  refine J_iload dL_law_2247 rfl ?_
  refine J_icmp_eq 2254 dL_law_2249 rfl (fun q571 => ?_) (fun q571 => ?_)
  · replace H := br1 q571 H
    refine J_iload dL_law_2254 rfl ?_
    refine J_if_ne 2271 dL_law_2256 rfl (fun q572 => ?_) (fun q572 => ?_)
    · replace H := br0 q572 H
      refine J_goto 3209 dL_law_2271 rfl ?_
      refine J_iinc (v4 + (6 : Int32)) dL_law_3209 rfl (congrArg (HAdd.hAdd v4) kc_6) (by decide) (ls' := [.retAddr 3000, .ref v1, .ref v2, .ref v3, .int (v4 + (6 : Int32)), .int t560, .int t567]) rfl ?_
      refine J_goto 23 dL_law_3212 rfl ?_
      cases H
      exact J_dr (hb0 _ rfl) ⟨rfl, ⟨rfl, ⟨rfl, ⟨rfl, ⟨rfl, trivial⟩⟩⟩⟩⟩
    · replace H := br1 q572 H
      refine J_aload_n 3 dL_law_2259 rfl rfl ?_
      refine J_iconst (0 : Int32) dL_law_2260 kc_0 ?_
      obtain ⟨g573, H⟩ := gd H
      obtain ⟨g574, H⟩ := gd H
      refine J_lald dL_law_2261 g573 (inB_ok g574) ?_
      refine J_iload dL_law_2262 rfl ?_
      refine J_i2l dL_law_2264 ?_
      refine J_lcmp' dL_law_2265 ?_
      refine J_if_eq 2271 dL_law_2266 rfl (fun q575 => ?_) (fun q575 => ?_)
      · replace H := br1 q575 H
        refine J_goto 3209 dL_law_2271 rfl ?_
        refine J_iinc (v4 + (6 : Int32)) dL_law_3209 rfl (congrArg (HAdd.hAdd v4) kc_6) (by decide) (ls' := [.retAddr 3000, .ref v1, .ref v2, .ref v3, .int (v4 + (6 : Int32)), .int t560, .int t567]) rfl ?_
        refine J_goto 23 dL_law_3212 rfl ?_
        cases H
        exact J_dr (hb0 _ rfl) ⟨rfl, ⟨rfl, ⟨rfl, ⟨rfl, ⟨rfl, trivial⟩⟩⟩⟩⟩
      · replace H := br0 q575 H
        refine J_iconst (0 : Int32) dL_law_2269 kc_0 ?_
        cases H
  · replace H := br0 q571 H
    refine J_iconst (0 : Int32) dL_law_2252 kc_0 ?_
    cases H
noncomputable def ML_law_2274 (L : Nat) (xs : Nat → Int32) (h : Hp) (v1 : Nat) (v2 : Nat) (v3 : Nat) (v4 : Int32) : Option ((Int32 × Hp) ⊕ (Int32 × Hp)) :=
  gg (β := ((Int32 × Hp) ⊕ (Int32 × Hp))) (inB (v4 + (1 : Int32)) L = true) <|
  gg (β := ((Int32 × Hp) ⊕ (Int32 × Hp))) (inB (v4 + (2 : Int32)) L = true) <|
  gg (β := ((Int32 × Hp) ⊕ (Int32 × Hp))) (inB (v4 + (3 : Int32)) L = true) <|
  b2 (α := Int32) (β := Hp) (γ := ((Int32 × Hp) ⊕ (Int32 × Hp))) (ML_page h v1 (xs (v4 + (1 : Int32)).toNatClampNeg) (xs (v4 + (2 : Int32)).toNatClampNeg) (xs (v4 + (3 : Int32)).toNatClampNeg)) fun (t581 : Int32) (h580 : Hp) =>
  gg (β := ((Int32 × Hp) ⊕ (Int32 × Hp))) (inB (v4 + (1 : Int32)) L = true) <|
  gg (β := ((Int32 × Hp) ⊕ (Int32 × Hp))) (inB (v4 + (2 : Int32)) L = true) <|
  gg (β := ((Int32 × Hp) ⊕ (Int32 × Hp))) (inB (v4 + (3 : Int32)) L = true) <|
  gg (β := ((Int32 × Hp) ⊕ (Int32 × Hp))) (kd h580 v2 = 11) <|
  Option.bind (α := Hp) (β := ((Int32 × Hp) ⊕ (Int32 × Hp))) (MX12_page h580 v2 (xs (v4 + (1 : Int32)).toNatClampNeg) (xs (v4 + (2 : Int32)).toNatClampNeg) (xs (v4 + (3 : Int32)).toNatClampNeg)) fun (h587 : Hp) =>
  gg (β := ((Int32 × Hp) ⊕ (Int32 × Hp))) (kd h587 v2 = 11) <|
  Option.bind (α := Int32) (β := ((Int32 × Hp) ⊕ (Int32 × Hp))) (MX12_thrown h587 v2) fun (t590 : Int32) =>
  if t590 = t581 then
    some (.inl ((v4 + (6 : Int32)), h587))
  else
    none
set_option maxRecDepth 100000 in
set_option maxHeartbeats 8000000 in
theorem kL_law_2274 {d : Nat} {L : Nat} {xs : Nat → Int32} {h : Hp} {v1 : Nat} {v2 : Nat} {v3 : Nat} {v4 : Int32} {r : Int32} {h9 : Hp} {x : ((Int32 × Hp) ⊕ (Int32 × Hp))} (H : ML_law_2274 L xs h v1 v2 v3 v4 = some x) (hb0 : ∀ s : Int32 × Hp, x = .inl s → JP (PL L xs) (d + 65) YL_law 23 [.retAddr 3000, .ref v1, .ref v2, .ref v3, .int s.1, Value.null, Value.null] [] s.2 (oI r) h9) (hx : ∀ z : (Int32 × Hp), x = .inr (z) → z = (r, h9)) : JP (PL L xs) (d + 65) YL_law 2274 [.retAddr 3000, .ref v1, .ref v2, .ref v3, .int v4, Value.null, Value.null] [] h (oI r) h9 := by
  unfold ML_law_2274 at H
  refine J_aload_n 1 dL_law_2274 rfl rfl ?_
  refine J_aload_nT 0 dL_law_2275 rfl rfl ?_
  refine J_iload dL_law_2276 rfl ?_
  refine J_iconst (1 : Int32) dL_law_2278 kc_1 ?_
  refine J_iadd dL_law_2279 ?_
  obtain ⟨g576, H⟩ := gd H
  refine J_sld dL_law_2280 (inB_ok g576) ?_
  refine J_aload_nT 0 dL_law_2281 rfl rfl ?_
  refine J_iload dL_law_2282 rfl ?_
  refine J_iconst (2 : Int32) dL_law_2284 kc_2 ?_
  refine J_iadd dL_law_2285 ?_
  obtain ⟨g577, H⟩ := gd H
  refine J_sld dL_law_2286 (inB_ok g577) ?_
  refine J_aload_nT 0 dL_law_2287 rfl rfl ?_
  refine J_iload dL_law_2288 rfl ?_
  refine J_iconst (3 : Int32) dL_law_2290 kc_3 ?_
  refine J_iadd dL_law_2291 ?_
  obtain ⟨g578, H⟩ := gd H
  refine J_sld dL_law_2292 (inB_ok g578) ?_
  obtain ⟨t581, h580, e579, H⟩ := b2_el H
  refine J_cSW (hh := hhL_page) (as := [.ref v1, .int (xs (v4 + (1 : Int32)).toNatClampNeg), .int (xs (v4 + (2 : Int32)).toNatClampNeg), .int (xs (v4 + (3 : Int32)).toNatClampNeg)]) YL_page 4 dL_law_2293 moL_page msL_page mlL_255 (okL_page (d := d + 62) e579) rfl rfl [] rfl rfl (st2 := [.int t581]) rfl ?_
  refine J_istore dL_law_2296 (by decide) (ls' := [.retAddr 3000, .ref v1, .ref v2, .ref v3, .int v4, .int t581, Value.null]) rfl ?_
  refine J_aload_n 2 dL_law_2298 rfl rfl ?_
  refine J_aload_nT 0 dL_law_2299 rfl rfl ?_
  refine J_iload dL_law_2300 rfl ?_
  refine J_iconst (1 : Int32) dL_law_2302 kc_1 ?_
  refine J_iadd dL_law_2303 ?_
  obtain ⟨g582, H⟩ := gd H
  refine J_sld dL_law_2304 (inB_ok g582) ?_
  refine J_aload_nT 0 dL_law_2305 rfl rfl ?_
  refine J_iload dL_law_2306 rfl ?_
  refine J_iconst (2 : Int32) dL_law_2308 kc_2 ?_
  refine J_iadd dL_law_2309 ?_
  obtain ⟨g583, H⟩ := gd H
  refine J_sld dL_law_2310 (inB_ok g583) ?_
  refine J_aload_nT 0 dL_law_2311 rfl rfl ?_
  refine J_iload dL_law_2312 rfl ?_
  refine J_iconst (3 : Int32) dL_law_2314 kc_3 ?_
  refine J_iadd dL_law_2315 ?_
  obtain ⟨g584, H⟩ := gd H
  refine J_sld dL_law_2316 (inB_ok g584) ?_
  obtain ⟨g586, H⟩ := gd H
  obtain ⟨h587, e585, H⟩ := bd H
  refine J_cV (as := [.int (xs (v4 + (1 : Int32)).toNatClampNeg), .int (xs (v4 + (2 : Int32)).toNatClampNeg), .int (xs (v4 + (3 : Int32)).toNatClampNeg)]) 11 YX12_page 3 dL_law_2317 moX12_page mvX12_page mlL_257 g586 rfl rfl (okX12_page (d := d + 63) e585) rfl rfl [] rfl rfl (st2 := []) rfl ?_
  refine J_aload_n 2 dL_law_2320 rfl rfl ?_
  obtain ⟨g589, H⟩ := gd H
  obtain ⟨t590, e588, H⟩ := bd H
  refine J_cV (as := []) 11 YX12_thrown 0 dL_law_2321 moX12_thrown mvX12_thrown mlL_166 g589 rfl rfl (okX12_thrown (d := d + 64) e588) rfl rfl [] rfl rfl (st2 := [.int t590]) rfl ?_
  refine J_iload dL_law_2324 rfl ?_
  refine J_icmp_eq 2331 dL_law_2326 rfl (fun q591 => ?_) (fun q591 => ?_)
  · replace H := br1 q591 H
    refine J_goto 3209 dL_law_2331 rfl ?_
    refine J_iinc (v4 + (6 : Int32)) dL_law_3209 rfl (congrArg (HAdd.hAdd v4) kc_6) (by decide) (ls' := [.retAddr 3000, .ref v1, .ref v2, .ref v3, .int (v4 + (6 : Int32)), .int t581, Value.null]) rfl ?_
    refine J_goto 23 dL_law_3212 rfl ?_
    cases H
    exact J_dr (hb0 _ rfl) ⟨rfl, ⟨rfl, ⟨rfl, ⟨rfl, ⟨rfl, trivial⟩⟩⟩⟩⟩
  · replace H := br0 q591 H
    refine J_iconst (0 : Int32) dL_law_2329 kc_0 ?_
    cases H
noncomputable def ML_law_2334 (L : Nat) (xs : Nat → Int32) (h : Hp) (v1 : Nat) (v2 : Nat) (v3 : Nat) (v4 : Int32) : Option ((Int32 × Hp) ⊕ (Int32 × Hp)) :=
  gg (β := ((Int32 × Hp) ⊕ (Int32 × Hp))) (inB (v4 + (1 : Int32)) L = true) <|
  gg (β := ((Int32 × Hp) ⊕ (Int32 × Hp))) (inB (v4 + (2 : Int32)) L = true) <|
  b2 (α := Int32) (β := Hp) (γ := ((Int32 × Hp) ⊕ (Int32 × Hp))) (ML_fit h v1 (xs (v4 + (1 : Int32)).toNatClampNeg) (xs (v4 + (2 : Int32)).toNatClampNeg) v3) fun (t596 : Int32) (h595 : Hp) =>
  gg (β := ((Int32 × Hp) ⊕ (Int32 × Hp))) (inB (v4 + (1 : Int32)) L = true) <|
  gg (β := ((Int32 × Hp) ⊕ (Int32 × Hp))) (inB (v4 + (2 : Int32)) L = true) <|
  gg (β := ((Int32 × Hp) ⊕ (Int32 × Hp))) (kd h595 v2 = 11) <|
  b2 (α := Int32) (β := Hp) (γ := ((Int32 × Hp) ⊕ (Int32 × Hp))) (MX12_fit h595 v2 (xs (v4 + (1 : Int32)).toNatClampNeg) (xs (v4 + (2 : Int32)).toNatClampNeg)) fun (t602 : Int32) (h601 : Hp) =>
  gg (β := ((Int32 × Hp) ⊕ (Int32 × Hp))) (kd h601 v2 = 11) <|
  Option.bind (α := Int32) (β := ((Int32 × Hp) ⊕ (Int32 × Hp))) (MX12_thrown h601 v2) fun (t605 : Int32) =>
  if t605 = t596 then
    if t596 = 0 then
      gg (β := ((Int32 × Hp) ⊕ (Int32 × Hp))) (kd h601 v3 = 23) <|
      gg (β := ((Int32 × Hp) ⊕ (Int32 × Hp))) (inB (0 : Int32) (ln h601 v3) = true) <|
      if (lgc (gI h601 v3 (0 : Int32).toNatClampNeg) t602) = 0 then
        some (.inl ((v4 + (6 : Int32)), h601))
      else
        none
    else
      some (.inl ((v4 + (6 : Int32)), h601))
  else
    none
set_option maxRecDepth 100000 in
set_option maxHeartbeats 8000000 in
theorem kL_law_2334 {d : Nat} {L : Nat} {xs : Nat → Int32} {h : Hp} {v1 : Nat} {v2 : Nat} {v3 : Nat} {v4 : Int32} {r : Int32} {h9 : Hp} {x : ((Int32 × Hp) ⊕ (Int32 × Hp))} (H : ML_law_2334 L xs h v1 v2 v3 v4 = some x) (hb0 : ∀ s : Int32 × Hp, x = .inl s → JP (PL L xs) (d + 65) YL_law 23 [.retAddr 3000, .ref v1, .ref v2, .ref v3, .int s.1, Value.null, Value.null] [] s.2 (oI r) h9) (hx : ∀ z : (Int32 × Hp), x = .inr (z) → z = (r, h9)) : JP (PL L xs) (d + 65) YL_law 2334 [.retAddr 3000, .ref v1, .ref v2, .ref v3, .int v4, Value.null, Value.null] [] h (oI r) h9 := by
  unfold ML_law_2334 at H
  refine J_aload_n 1 dL_law_2334 rfl rfl ?_
  refine J_aload_nT 0 dL_law_2335 rfl rfl ?_
  refine J_iload dL_law_2336 rfl ?_
  refine J_iconst (1 : Int32) dL_law_2338 kc_1 ?_
  refine J_iadd dL_law_2339 ?_
  obtain ⟨g592, H⟩ := gd H
  refine J_sld dL_law_2340 (inB_ok g592) ?_
  refine J_aload_nT 0 dL_law_2341 rfl rfl ?_
  refine J_iload dL_law_2342 rfl ?_
  refine J_iconst (2 : Int32) dL_law_2344 kc_2 ?_
  refine J_iadd dL_law_2345 ?_
  obtain ⟨g593, H⟩ := gd H
  refine J_sld dL_law_2346 (inB_ok g593) ?_
  refine J_aload_n 3 dL_law_2347 rfl rfl ?_
  obtain ⟨t596, h595, e594, H⟩ := b2_el H
  refine J_cSW (hh := hhL_fit) (as := [.ref v1, .int (xs (v4 + (1 : Int32)).toNatClampNeg), .int (xs (v4 + (2 : Int32)).toNatClampNeg), .ref v3]) YL_fit 4 dL_law_2348 moL_fit msL_fit mlL_258 (okL_fit (d := d) e594) rfl rfl [] rfl rfl (st2 := [.int t596]) rfl ?_
  refine J_istore dL_law_2351 (by decide) (ls' := [.retAddr 3000, .ref v1, .ref v2, .ref v3, .int v4, .int t596, Value.null]) rfl ?_
  refine J_aload_n 2 dL_law_2353 rfl rfl ?_
  refine J_aload_nT 0 dL_law_2354 rfl rfl ?_
  refine J_iload dL_law_2355 rfl ?_
  refine J_iconst (1 : Int32) dL_law_2357 kc_1 ?_
  refine J_iadd dL_law_2358 ?_
  obtain ⟨g597, H⟩ := gd H
  refine J_sld dL_law_2359 (inB_ok g597) ?_
  refine J_aload_nT 0 dL_law_2360 rfl rfl ?_
  refine J_iload dL_law_2361 rfl ?_
  refine J_iconst (2 : Int32) dL_law_2363 kc_2 ?_
  refine J_iadd dL_law_2364 ?_
  obtain ⟨g598, H⟩ := gd H
  refine J_sld dL_law_2365 (inB_ok g598) ?_
  obtain ⟨g600, H⟩ := gd H
  obtain ⟨t602, h601, e599, H⟩ := b2_el H
  refine J_cV (as := [.int (xs (v4 + (1 : Int32)).toNatClampNeg), .int (xs (v4 + (2 : Int32)).toNatClampNeg)]) 11 YX12_fit 2 dL_law_2366 moX12_fit mvX12_fit mlL_260 g600 rfl rfl (okX12_fit (d := d + 1) e599) rfl rfl [] rfl rfl (st2 := [.int t602]) rfl ?_
  refine J_istore dL_law_2369 (by decide) (ls' := [.retAddr 3000, .ref v1, .ref v2, .ref v3, .int v4, .int t596, .int t602]) rfl ?_
  refine J_aload_n 2 dL_law_2371 rfl rfl ?_
  obtain ⟨g604, H⟩ := gd H
  obtain ⟨t605, e603, H⟩ := bd H
  refine J_cV (as := []) 11 YX12_thrown 0 dL_law_2372 moX12_thrown mvX12_thrown mlL_166 g604 rfl rfl (okX12_thrown (d := d + 64) e603) rfl rfl [] rfl rfl (st2 := [.int t605]) rfl ?_
  refine J_iload dL_law_2375 rfl ?_
  refine J_icmp_eq 2382 dL_law_2377 rfl (fun q606 => ?_) (fun q606 => ?_)
  · replace H := br1 q606 H
    refine J_iload dL_law_2382 rfl ?_
    refine J_if_ne 2399 dL_law_2384 rfl (fun q607 => ?_) (fun q607 => ?_)
    · replace H := br0 q607 H
      refine J_goto 3209 dL_law_2399 rfl ?_
      refine J_iinc (v4 + (6 : Int32)) dL_law_3209 rfl (congrArg (HAdd.hAdd v4) kc_6) (by decide) (ls' := [.retAddr 3000, .ref v1, .ref v2, .ref v3, .int (v4 + (6 : Int32)), .int t596, .int t602]) rfl ?_
      refine J_goto 23 dL_law_3212 rfl ?_
      cases H
      exact J_dr (hb0 _ rfl) ⟨rfl, ⟨rfl, ⟨rfl, ⟨rfl, ⟨rfl, trivial⟩⟩⟩⟩⟩
    · replace H := br1 q607 H
      refine J_aload_n 3 dL_law_2387 rfl rfl ?_
      refine J_iconst (0 : Int32) dL_law_2388 kc_0 ?_
      obtain ⟨g608, H⟩ := gd H
      obtain ⟨g609, H⟩ := gd H
      refine J_lald dL_law_2389 g608 (inB_ok g609) ?_
      refine J_iload dL_law_2390 rfl ?_
      refine J_i2l dL_law_2392 ?_
      refine J_lcmp' dL_law_2393 ?_
      refine J_if_eq 2399 dL_law_2394 rfl (fun q610 => ?_) (fun q610 => ?_)
      · replace H := br1 q610 H
        refine J_goto 3209 dL_law_2399 rfl ?_
        refine J_iinc (v4 + (6 : Int32)) dL_law_3209 rfl (congrArg (HAdd.hAdd v4) kc_6) (by decide) (ls' := [.retAddr 3000, .ref v1, .ref v2, .ref v3, .int (v4 + (6 : Int32)), .int t596, .int t602]) rfl ?_
        refine J_goto 23 dL_law_3212 rfl ?_
        cases H
        exact J_dr (hb0 _ rfl) ⟨rfl, ⟨rfl, ⟨rfl, ⟨rfl, ⟨rfl, trivial⟩⟩⟩⟩⟩
      · replace H := br0 q610 H
        refine J_iconst (0 : Int32) dL_law_2397 kc_0 ?_
        cases H
  · replace H := br0 q606 H
    refine J_iconst (0 : Int32) dL_law_2380 kc_0 ?_
    cases H
noncomputable def ML_law_2474 (L : Nat) (xs : Nat → Int32) (h : Hp) (v1 : Nat) (v2 : Nat) (v3 : Nat) (v4 : Int32) (v5 : Int32) (s0 : Nat) (s1 : Int32) (s2 : Int32) (s3 : Int32) (s4 : Int32) : Option ((Int32 × Hp) ⊕ (Int32 × Hp)) :=
  gg (β := ((Int32 × Hp) ⊕ (Int32 × Hp))) (kd h s0 = 11) <|
  b2 (α := Int32) (β := Hp) (γ := ((Int32 × Hp) ⊕ (Int32 × Hp))) (MX12_fits h s0 s1 s2 s3 s4) fun (t627 : Int32) (h626 : Hp) =>
  gg (β := ((Int32 × Hp) ⊕ (Int32 × Hp))) (kd h626 v2 = 11) <|
  Option.bind (α := Int32) (β := ((Int32 × Hp) ⊕ (Int32 × Hp))) (MX12_thrown h626 v2) fun (t630 : Int32) =>
  if t630 = v5 then
    if v5 = 0 then
      gg (β := ((Int32 × Hp) ⊕ (Int32 × Hp))) (kd h626 v3 = 23) <|
      gg (β := ((Int32 × Hp) ⊕ (Int32 × Hp))) (inB (0 : Int32) (ln h626 v3) = true) <|
      if (lgc (gI h626 v3 (0 : Int32).toNatClampNeg) t627) = 0 then
        some (.inl ((v4 + (6 : Int32)), h626))
      else
        none
    else
      some (.inl ((v4 + (6 : Int32)), h626))
  else
    none
set_option maxRecDepth 100000 in
set_option maxHeartbeats 8000000 in
theorem kL_law_2474 {d : Nat} {L : Nat} {xs : Nat → Int32} {h : Hp} {v1 : Nat} {v2 : Nat} {v3 : Nat} {v4 : Int32} {v5 : Int32} {s0 : Nat} {s1 : Int32} {s2 : Int32} {s3 : Int32} {s4 : Int32} {r : Int32} {h9 : Hp} {x : ((Int32 × Hp) ⊕ (Int32 × Hp))} (H : ML_law_2474 L xs h v1 v2 v3 v4 v5 s0 s1 s2 s3 s4 = some x) (hb0 : ∀ s : Int32 × Hp, x = .inl s → JP (PL L xs) (d + 65) YL_law 23 [.retAddr 3000, .ref v1, .ref v2, .ref v3, .int s.1, Value.null, Value.null] [] s.2 (oI r) h9) (hx : ∀ z : (Int32 × Hp), x = .inr (z) → z = (r, h9)) : JP (PL L xs) (d + 65) YL_law 2474 [.retAddr 3000, .ref v1, .ref v2, .ref v3, .int v4, .int v5, Value.null] [.int s4, .int s3, .int s2, .int s1, .ref s0] h (oI r) h9 := by
  unfold ML_law_2474 at H
  obtain ⟨g625, H⟩ := gd H
  obtain ⟨t627, h626, e624, H⟩ := b2_el H
  refine J_cV (as := [.int s1, .int s2, .int s3, .int s4]) 11 YX12_fits 4 dL_law_2474 moX12_fits mvX12_fits mlL_264 g625 rfl rfl (okX12_fits (d := d + 1) e624) rfl rfl [] rfl rfl (st2 := [.int t627]) rfl ?_
  refine J_istore dL_law_2477 (by decide) (ls' := [.retAddr 3000, .ref v1, .ref v2, .ref v3, .int v4, .int v5, .int t627]) rfl ?_
  refine J_aload_n 2 dL_law_2479 rfl rfl ?_
  obtain ⟨g629, H⟩ := gd H
  obtain ⟨t630, e628, H⟩ := bd H
  refine J_cV (as := []) 11 YX12_thrown 0 dL_law_2480 moX12_thrown mvX12_thrown mlL_166 g629 rfl rfl (okX12_thrown (d := d + 64) e628) rfl rfl [] rfl rfl (st2 := [.int t630]) rfl ?_
  refine J_iload dL_law_2483 rfl ?_
  refine J_icmp_eq 2490 dL_law_2485 rfl (fun q631 => ?_) (fun q631 => ?_)
  · replace H := br1 q631 H
    refine J_iload dL_law_2490 rfl ?_
    refine J_if_ne 2507 dL_law_2492 rfl (fun q632 => ?_) (fun q632 => ?_)
    · replace H := br0 q632 H
      refine J_goto 3209 dL_law_2507 rfl ?_
      refine J_iinc (v4 + (6 : Int32)) dL_law_3209 rfl (congrArg (HAdd.hAdd v4) kc_6) (by decide) (ls' := [.retAddr 3000, .ref v1, .ref v2, .ref v3, .int (v4 + (6 : Int32)), .int v5, .int t627]) rfl ?_
      refine J_goto 23 dL_law_3212 rfl ?_
      cases H
      exact J_dr (hb0 _ rfl) ⟨rfl, ⟨rfl, ⟨rfl, ⟨rfl, ⟨rfl, trivial⟩⟩⟩⟩⟩
    · replace H := br1 q632 H
      refine J_aload_n 3 dL_law_2495 rfl rfl ?_
      refine J_iconst (0 : Int32) dL_law_2496 kc_0 ?_
      obtain ⟨g633, H⟩ := gd H
      obtain ⟨g634, H⟩ := gd H
      refine J_lald dL_law_2497 g633 (inB_ok g634) ?_
      refine J_iload dL_law_2498 rfl ?_
      refine J_i2l dL_law_2500 ?_
      refine J_lcmp' dL_law_2501 ?_
      refine J_if_eq 2507 dL_law_2502 rfl (fun q635 => ?_) (fun q635 => ?_)
      · replace H := br1 q635 H
        refine J_goto 3209 dL_law_2507 rfl ?_
        refine J_iinc (v4 + (6 : Int32)) dL_law_3209 rfl (congrArg (HAdd.hAdd v4) kc_6) (by decide) (ls' := [.retAddr 3000, .ref v1, .ref v2, .ref v3, .int (v4 + (6 : Int32)), .int v5, .int t627]) rfl ?_
        refine J_goto 23 dL_law_3212 rfl ?_
        cases H
        exact J_dr (hb0 _ rfl) ⟨rfl, ⟨rfl, ⟨rfl, ⟨rfl, ⟨rfl, trivial⟩⟩⟩⟩⟩
      · replace H := br0 q635 H
        refine J_iconst (0 : Int32) dL_law_2505 kc_0 ?_
        cases H
  · replace H := br0 q631 H
    refine J_iconst (0 : Int32) dL_law_2488 kc_0 ?_
    cases H
noncomputable def ML_law_2435 (L : Nat) (xs : Nat → Int32) (h : Hp) (v1 : Nat) (v2 : Nat) (v3 : Nat) (v4 : Int32) (s0 : Nat) (s1 : Int32) (s2 : Int32) (s3 : Int32) (s4 : Int32) : Option ((Int32 × Hp) ⊕ (Int32 × Hp)) :=
  b2 (α := Int32) (β := Hp) (γ := ((Int32 × Hp) ⊕ (Int32 × Hp))) (ML_fits h s0 s1 s2 s3 s4 v3) fun (t618 : Int32) (h617 : Hp) =>
  gg (β := ((Int32 × Hp) ⊕ (Int32 × Hp))) (inB (v4 + (1 : Int32)) L = true) <|
  gg (β := ((Int32 × Hp) ⊕ (Int32 × Hp))) (inB (v4 + (2 : Int32)) L = true) <|
  gg (β := ((Int32 × Hp) ⊕ (Int32 × Hp))) (inB (v4 + (3 : Int32)) L = true) <|
  gg (β := ((Int32 × Hp) ⊕ (Int32 × Hp))) (inB (v4 + (4 : Int32)) L = true) <|
  if (xs (v4 + (4 : Int32)).toNatClampNeg) = 0 then
    ML_law_2474 L xs h617 v1 v2 v3 v4 t618 v2 (xs (v4 + (1 : Int32)).toNatClampNeg) (xs (v4 + (2 : Int32)).toNatClampNeg) (xs (v4 + (3 : Int32)).toNatClampNeg) (0 : Int32)
  else
    ML_law_2474 L xs h617 v1 v2 v3 v4 t618 v2 (xs (v4 + (1 : Int32)).toNatClampNeg) (xs (v4 + (2 : Int32)).toNatClampNeg) (xs (v4 + (3 : Int32)).toNatClampNeg) (1 : Int32)
set_option maxRecDepth 100000 in
set_option maxHeartbeats 8000000 in
theorem kL_law_2435 {d : Nat} {L : Nat} {xs : Nat → Int32} {h : Hp} {v1 : Nat} {v2 : Nat} {v3 : Nat} {v4 : Int32} {s0 : Nat} {s1 : Int32} {s2 : Int32} {s3 : Int32} {s4 : Int32} {r : Int32} {h9 : Hp} {x : ((Int32 × Hp) ⊕ (Int32 × Hp))} (H : ML_law_2435 L xs h v1 v2 v3 v4 s0 s1 s2 s3 s4 = some x) (hb0 : ∀ s : Int32 × Hp, x = .inl s → JP (PL L xs) (d + 65) YL_law 23 [.retAddr 3000, .ref v1, .ref v2, .ref v3, .int s.1, Value.null, Value.null] [] s.2 (oI r) h9) (hx : ∀ z : (Int32 × Hp), x = .inr (z) → z = (r, h9)) : JP (PL L xs) (d + 65) YL_law 2435 [.retAddr 3000, .ref v1, .ref v2, .ref v3, .int v4, Value.null, Value.null] [.int s4, .int s3, .int s2, .int s1, .ref s0] h (oI r) h9 := by
  unfold ML_law_2435 at H
  refine J_aload_n 3 dL_law_2435 rfl rfl ?_
  obtain ⟨t618, h617, e616, H⟩ := b2_el H
  refine J_cSW (hh := hhL_fits) (as := [.ref s0, .int s1, .int s2, .int s3, .int s4, .ref v3]) YL_fits 6 dL_law_2436 moL_fits msL_fits mlL_261 (okL_fits (d := d) e616) rfl rfl [] rfl rfl (st2 := [.int t618]) rfl ?_
  refine J_istore dL_law_2439 (by decide) (ls' := [.retAddr 3000, .ref v1, .ref v2, .ref v3, .int v4, .int t618, Value.null]) rfl ?_
  refine J_aload_n 2 dL_law_2441 rfl rfl ?_
  refine J_aload_nT 0 dL_law_2442 rfl rfl ?_
  refine J_iload dL_law_2443 rfl ?_
  refine J_iconst (1 : Int32) dL_law_2445 kc_1 ?_
  refine J_iadd dL_law_2446 ?_
  obtain ⟨g619, H⟩ := gd H
  refine J_sld dL_law_2447 (inB_ok g619) ?_
  refine J_aload_nT 0 dL_law_2448 rfl rfl ?_
  refine J_iload dL_law_2449 rfl ?_
  refine J_iconst (2 : Int32) dL_law_2451 kc_2 ?_
  refine J_iadd dL_law_2452 ?_
  obtain ⟨g620, H⟩ := gd H
  refine J_sld dL_law_2453 (inB_ok g620) ?_
  refine J_aload_nT 0 dL_law_2454 rfl rfl ?_
  refine J_iload dL_law_2455 rfl ?_
  refine J_iconst (3 : Int32) dL_law_2457 kc_3 ?_
  refine J_iadd dL_law_2458 ?_
  obtain ⟨g621, H⟩ := gd H
  refine J_sld dL_law_2459 (inB_ok g621) ?_
  refine J_aload_nT 0 dL_law_2460 rfl rfl ?_
  refine J_iload dL_law_2461 rfl ?_
  refine J_iconst (4 : Int32) dL_law_2463 kc_4 ?_
  refine J_iadd dL_law_2464 ?_
  obtain ⟨g622, H⟩ := gd H
  refine J_sld dL_law_2465 (inB_ok g622) ?_
  refine J_if_eq 2473 dL_law_2466 rfl (fun q623 => ?_) (fun q623 => ?_)
  · replace H := br1 q623 H
    refine J_iconst (0 : Int32) dL_law_2473 kc_0 ?_
    exact J_dr (kL_law_2474 H hb0 hx) ⟨rfl, ⟨rfl, ⟨rfl, ⟨rfl, ⟨rfl, ⟨rfl, trivial⟩⟩⟩⟩⟩⟩
  · replace H := br0 q623 H
    refine J_iconst (1 : Int32) dL_law_2469 kc_1 ?_
    refine J_goto 2474 dL_law_2470 rfl ?_
    exact J_dr (kL_law_2474 H hb0 hx) ⟨rfl, ⟨rfl, ⟨rfl, ⟨rfl, ⟨rfl, ⟨rfl, trivial⟩⟩⟩⟩⟩⟩
noncomputable def ML_law_2402 (L : Nat) (xs : Nat → Int32) (h : Hp) (v1 : Nat) (v2 : Nat) (v3 : Nat) (v4 : Int32) : Option ((Int32 × Hp) ⊕ (Int32 × Hp)) :=
  gg (β := ((Int32 × Hp) ⊕ (Int32 × Hp))) (inB (v4 + (1 : Int32)) L = true) <|
  gg (β := ((Int32 × Hp) ⊕ (Int32 × Hp))) (inB (v4 + (2 : Int32)) L = true) <|
  gg (β := ((Int32 × Hp) ⊕ (Int32 × Hp))) (inB (v4 + (3 : Int32)) L = true) <|
  gg (β := ((Int32 × Hp) ⊕ (Int32 × Hp))) (inB (v4 + (4 : Int32)) L = true) <|
  if (xs (v4 + (4 : Int32)).toNatClampNeg) = 0 then
    ML_law_2435 L xs h v1 v2 v3 v4 v1 (xs (v4 + (1 : Int32)).toNatClampNeg) (xs (v4 + (2 : Int32)).toNatClampNeg) (xs (v4 + (3 : Int32)).toNatClampNeg) (0 : Int32)
  else
    ML_law_2435 L xs h v1 v2 v3 v4 v1 (xs (v4 + (1 : Int32)).toNatClampNeg) (xs (v4 + (2 : Int32)).toNatClampNeg) (xs (v4 + (3 : Int32)).toNatClampNeg) (1 : Int32)
set_option maxRecDepth 100000 in
set_option maxHeartbeats 8000000 in
theorem kL_law_2402 {d : Nat} {L : Nat} {xs : Nat → Int32} {h : Hp} {v1 : Nat} {v2 : Nat} {v3 : Nat} {v4 : Int32} {r : Int32} {h9 : Hp} {x : ((Int32 × Hp) ⊕ (Int32 × Hp))} (H : ML_law_2402 L xs h v1 v2 v3 v4 = some x) (hb0 : ∀ s : Int32 × Hp, x = .inl s → JP (PL L xs) (d + 65) YL_law 23 [.retAddr 3000, .ref v1, .ref v2, .ref v3, .int s.1, Value.null, Value.null] [] s.2 (oI r) h9) (hx : ∀ z : (Int32 × Hp), x = .inr (z) → z = (r, h9)) : JP (PL L xs) (d + 65) YL_law 2402 [.retAddr 3000, .ref v1, .ref v2, .ref v3, .int v4, Value.null, Value.null] [] h (oI r) h9 := by
  unfold ML_law_2402 at H
  refine J_aload_n 1 dL_law_2402 rfl rfl ?_
  refine J_aload_nT 0 dL_law_2403 rfl rfl ?_
  refine J_iload dL_law_2404 rfl ?_
  refine J_iconst (1 : Int32) dL_law_2406 kc_1 ?_
  refine J_iadd dL_law_2407 ?_
  obtain ⟨g611, H⟩ := gd H
  refine J_sld dL_law_2408 (inB_ok g611) ?_
  refine J_aload_nT 0 dL_law_2409 rfl rfl ?_
  refine J_iload dL_law_2410 rfl ?_
  refine J_iconst (2 : Int32) dL_law_2412 kc_2 ?_
  refine J_iadd dL_law_2413 ?_
  obtain ⟨g612, H⟩ := gd H
  refine J_sld dL_law_2414 (inB_ok g612) ?_
  refine J_aload_nT 0 dL_law_2415 rfl rfl ?_
  refine J_iload dL_law_2416 rfl ?_
  refine J_iconst (3 : Int32) dL_law_2418 kc_3 ?_
  refine J_iadd dL_law_2419 ?_
  obtain ⟨g613, H⟩ := gd H
  refine J_sld dL_law_2420 (inB_ok g613) ?_
  refine J_aload_nT 0 dL_law_2421 rfl rfl ?_
  refine J_iload dL_law_2422 rfl ?_
  refine J_iconst (4 : Int32) dL_law_2424 kc_4 ?_
  refine J_iadd dL_law_2425 ?_
  obtain ⟨g614, H⟩ := gd H
  refine J_sld dL_law_2426 (inB_ok g614) ?_
  refine J_if_eq 2434 dL_law_2427 rfl (fun q615 => ?_) (fun q615 => ?_)
  · replace H := br1 q615 H
    refine J_iconst (0 : Int32) dL_law_2434 kc_0 ?_
    exact J_dr (kL_law_2435 H hb0 hx) ⟨rfl, ⟨rfl, ⟨rfl, ⟨rfl, ⟨rfl, trivial⟩⟩⟩⟩⟩
  · replace H := br0 q615 H
    refine J_iconst (1 : Int32) dL_law_2430 kc_1 ?_
    refine J_goto 2435 dL_law_2431 rfl ?_
    exact J_dr (kL_law_2435 H hb0 hx) ⟨rfl, ⟨rfl, ⟨rfl, ⟨rfl, ⟨rfl, trivial⟩⟩⟩⟩⟩
noncomputable def ML_law_2510 (L : Nat) (xs : Nat → Int32) (h : Hp) (v1 : Nat) (v2 : Nat) (v3 : Nat) (v4 : Int32) : Option ((Int32 × Hp) ⊕ (Int32 × Hp)) :=
  gg (β := ((Int32 × Hp) ⊕ (Int32 × Hp))) (inB (v4 + (1 : Int32)) L = true) <|
  gg (β := ((Int32 × Hp) ⊕ (Int32 × Hp))) (inB (v4 + (2 : Int32)) L = true) <|
  b2 (α := Int32) (β := Hp) (γ := ((Int32 × Hp) ⊕ (Int32 × Hp))) (ML_lock h v1 (xs (v4 + (1 : Int32)).toNatClampNeg) (xs (v4 + (2 : Int32)).toNatClampNeg) v3) fun (t640 : Int32) (h639 : Hp) =>
  gg (β := ((Int32 × Hp) ⊕ (Int32 × Hp))) (inB (v4 + (1 : Int32)) L = true) <|
  gg (β := ((Int32 × Hp) ⊕ (Int32 × Hp))) (inB (v4 + (2 : Int32)) L = true) <|
  gg (β := ((Int32 × Hp) ⊕ (Int32 × Hp))) (kd h639 v2 = 11) <|
  b2 (α := Int32) (β := Hp) (γ := ((Int32 × Hp) ⊕ (Int32 × Hp))) (MX12_lock h639 v2 (xs (v4 + (1 : Int32)).toNatClampNeg) (xs (v4 + (2 : Int32)).toNatClampNeg)) fun (t646 : Int32) (h645 : Hp) =>
  gg (β := ((Int32 × Hp) ⊕ (Int32 × Hp))) (kd h645 v2 = 11) <|
  Option.bind (α := Int32) (β := ((Int32 × Hp) ⊕ (Int32 × Hp))) (MX12_thrown h645 v2) fun (t649 : Int32) =>
  if t649 = t640 then
    if t640 = 0 then
      gg (β := ((Int32 × Hp) ⊕ (Int32 × Hp))) (kd h645 v3 = 23) <|
      gg (β := ((Int32 × Hp) ⊕ (Int32 × Hp))) (inB (0 : Int32) (ln h645 v3) = true) <|
      if (lgc (gI h645 v3 (0 : Int32).toNatClampNeg) t646) = 0 then
        some (.inl ((v4 + (6 : Int32)), h645))
      else
        none
    else
      some (.inl ((v4 + (6 : Int32)), h645))
  else
    none
set_option maxRecDepth 100000 in
set_option maxHeartbeats 8000000 in
theorem kL_law_2510 {d : Nat} {L : Nat} {xs : Nat → Int32} {h : Hp} {v1 : Nat} {v2 : Nat} {v3 : Nat} {v4 : Int32} {r : Int32} {h9 : Hp} {x : ((Int32 × Hp) ⊕ (Int32 × Hp))} (H : ML_law_2510 L xs h v1 v2 v3 v4 = some x) (hb0 : ∀ s : Int32 × Hp, x = .inl s → JP (PL L xs) (d + 65) YL_law 23 [.retAddr 3000, .ref v1, .ref v2, .ref v3, .int s.1, Value.null, Value.null] [] s.2 (oI r) h9) (hx : ∀ z : (Int32 × Hp), x = .inr (z) → z = (r, h9)) : JP (PL L xs) (d + 65) YL_law 2510 [.retAddr 3000, .ref v1, .ref v2, .ref v3, .int v4, Value.null, Value.null] [] h (oI r) h9 := by
  unfold ML_law_2510 at H
  refine J_aload_n 1 dL_law_2510 rfl rfl ?_
  refine J_aload_nT 0 dL_law_2511 rfl rfl ?_
  refine J_iload dL_law_2512 rfl ?_
  refine J_iconst (1 : Int32) dL_law_2514 kc_1 ?_
  refine J_iadd dL_law_2515 ?_
  obtain ⟨g636, H⟩ := gd H
  refine J_sld dL_law_2516 (inB_ok g636) ?_
  refine J_aload_nT 0 dL_law_2517 rfl rfl ?_
  refine J_iload dL_law_2518 rfl ?_
  refine J_iconst (2 : Int32) dL_law_2520 kc_2 ?_
  refine J_iadd dL_law_2521 ?_
  obtain ⟨g637, H⟩ := gd H
  refine J_sld dL_law_2522 (inB_ok g637) ?_
  refine J_aload_n 3 dL_law_2523 rfl rfl ?_
  obtain ⟨t640, h639, e638, H⟩ := b2_el H
  refine J_cSW (hh := hhL_lock) (as := [.ref v1, .int (xs (v4 + (1 : Int32)).toNatClampNeg), .int (xs (v4 + (2 : Int32)).toNatClampNeg), .ref v3]) YL_lock 4 dL_law_2524 moL_lock msL_lock mlL_265 (okL_lock (d := d) e638) rfl rfl [] rfl rfl (st2 := [.int t640]) rfl ?_
  refine J_istore dL_law_2527 (by decide) (ls' := [.retAddr 3000, .ref v1, .ref v2, .ref v3, .int v4, .int t640, Value.null]) rfl ?_
  refine J_aload_n 2 dL_law_2529 rfl rfl ?_
  refine J_aload_nT 0 dL_law_2530 rfl rfl ?_
  refine J_iload dL_law_2531 rfl ?_
  refine J_iconst (1 : Int32) dL_law_2533 kc_1 ?_
  refine J_iadd dL_law_2534 ?_
  obtain ⟨g641, H⟩ := gd H
  refine J_sld dL_law_2535 (inB_ok g641) ?_
  refine J_aload_nT 0 dL_law_2536 rfl rfl ?_
  refine J_iload dL_law_2537 rfl ?_
  refine J_iconst (2 : Int32) dL_law_2539 kc_2 ?_
  refine J_iadd dL_law_2540 ?_
  obtain ⟨g642, H⟩ := gd H
  refine J_sld dL_law_2541 (inB_ok g642) ?_
  obtain ⟨g644, H⟩ := gd H
  obtain ⟨t646, h645, e643, H⟩ := b2_el H
  refine J_cV (as := [.int (xs (v4 + (1 : Int32)).toNatClampNeg), .int (xs (v4 + (2 : Int32)).toNatClampNeg)]) 11 YX12_lock 2 dL_law_2542 moX12_lock mvX12_lock mlL_267 g644 rfl rfl (okX12_lock (d := d + 1) e643) rfl rfl [] rfl rfl (st2 := [.int t646]) rfl ?_
  refine J_istore dL_law_2545 (by decide) (ls' := [.retAddr 3000, .ref v1, .ref v2, .ref v3, .int v4, .int t640, .int t646]) rfl ?_
  refine J_aload_n 2 dL_law_2547 rfl rfl ?_
  obtain ⟨g648, H⟩ := gd H
  obtain ⟨t649, e647, H⟩ := bd H
  refine J_cV (as := []) 11 YX12_thrown 0 dL_law_2548 moX12_thrown mvX12_thrown mlL_166 g648 rfl rfl (okX12_thrown (d := d + 64) e647) rfl rfl [] rfl rfl (st2 := [.int t649]) rfl ?_
  refine J_iload dL_law_2551 rfl ?_
  refine J_icmp_eq 2558 dL_law_2553 rfl (fun q650 => ?_) (fun q650 => ?_)
  · replace H := br1 q650 H
    refine J_iload dL_law_2558 rfl ?_
    refine J_if_ne 2575 dL_law_2560 rfl (fun q651 => ?_) (fun q651 => ?_)
    · replace H := br0 q651 H
      refine J_goto 3209 dL_law_2575 rfl ?_
      refine J_iinc (v4 + (6 : Int32)) dL_law_3209 rfl (congrArg (HAdd.hAdd v4) kc_6) (by decide) (ls' := [.retAddr 3000, .ref v1, .ref v2, .ref v3, .int (v4 + (6 : Int32)), .int t640, .int t646]) rfl ?_
      refine J_goto 23 dL_law_3212 rfl ?_
      cases H
      exact J_dr (hb0 _ rfl) ⟨rfl, ⟨rfl, ⟨rfl, ⟨rfl, ⟨rfl, trivial⟩⟩⟩⟩⟩
    · replace H := br1 q651 H
      refine J_aload_n 3 dL_law_2563 rfl rfl ?_
      refine J_iconst (0 : Int32) dL_law_2564 kc_0 ?_
      obtain ⟨g652, H⟩ := gd H
      obtain ⟨g653, H⟩ := gd H
      refine J_lald dL_law_2565 g652 (inB_ok g653) ?_
      refine J_iload dL_law_2566 rfl ?_
      refine J_i2l dL_law_2568 ?_
      refine J_lcmp' dL_law_2569 ?_
      refine J_if_eq 2575 dL_law_2570 rfl (fun q654 => ?_) (fun q654 => ?_)
      · replace H := br1 q654 H
        refine J_goto 3209 dL_law_2575 rfl ?_
        refine J_iinc (v4 + (6 : Int32)) dL_law_3209 rfl (congrArg (HAdd.hAdd v4) kc_6) (by decide) (ls' := [.retAddr 3000, .ref v1, .ref v2, .ref v3, .int (v4 + (6 : Int32)), .int t640, .int t646]) rfl ?_
        refine J_goto 23 dL_law_3212 rfl ?_
        cases H
        exact J_dr (hb0 _ rfl) ⟨rfl, ⟨rfl, ⟨rfl, ⟨rfl, ⟨rfl, trivial⟩⟩⟩⟩⟩
      · replace H := br0 q654 H
        refine J_iconst (0 : Int32) dL_law_2573 kc_0 ?_
        cases H
  · replace H := br0 q650 H
    refine J_iconst (0 : Int32) dL_law_2556 kc_0 ?_
    cases H
noncomputable def ML_law_2578 (L : Nat) (xs : Nat → Int32) (h : Hp) (v1 : Nat) (v2 : Nat) (v3 : Nat) (v4 : Int32) : Option ((Int32 × Hp) ⊕ (Int32 × Hp)) :=
  gg (β := ((Int32 × Hp) ⊕ (Int32 × Hp))) (inB (v4 + (1 : Int32)) L = true) <|
  gg (β := ((Int32 × Hp) ⊕ (Int32 × Hp))) (inB (v4 + (2 : Int32)) L = true) <|
  b2 (α := Int32) (β := Hp) (γ := ((Int32 × Hp) ⊕ (Int32 × Hp))) (ML_locked h v1 (xs (v4 + (1 : Int32)).toNatClampNeg) (xs (v4 + (2 : Int32)).toNatClampNeg) v3) fun (t659 : Int32) (h658 : Hp) =>
  gg (β := ((Int32 × Hp) ⊕ (Int32 × Hp))) (inB (v4 + (1 : Int32)) L = true) <|
  gg (β := ((Int32 × Hp) ⊕ (Int32 × Hp))) (inB (v4 + (2 : Int32)) L = true) <|
  gg (β := ((Int32 × Hp) ⊕ (Int32 × Hp))) (kd h658 v2 = 11) <|
  b2 (α := Int32) (β := Hp) (γ := ((Int32 × Hp) ⊕ (Int32 × Hp))) (MX12_locked h658 v2 (xs (v4 + (1 : Int32)).toNatClampNeg) (xs (v4 + (2 : Int32)).toNatClampNeg)) fun (t665 : Int32) (h664 : Hp) =>
  gg (β := ((Int32 × Hp) ⊕ (Int32 × Hp))) (kd h664 v2 = 11) <|
  Option.bind (α := Int32) (β := ((Int32 × Hp) ⊕ (Int32 × Hp))) (MX12_thrown h664 v2) fun (t668 : Int32) =>
  if t668 = t659 then
    if t659 = 0 then
      gg (β := ((Int32 × Hp) ⊕ (Int32 × Hp))) (kd h664 v3 = 23) <|
      gg (β := ((Int32 × Hp) ⊕ (Int32 × Hp))) (inB (0 : Int32) (ln h664 v3) = true) <|
      if (lgc (gI h664 v3 (0 : Int32).toNatClampNeg) t665) = 0 then
        some (.inl ((v4 + (6 : Int32)), h664))
      else
        none
    else
      some (.inl ((v4 + (6 : Int32)), h664))
  else
    none
set_option maxRecDepth 100000 in
set_option maxHeartbeats 8000000 in
theorem kL_law_2578 {d : Nat} {L : Nat} {xs : Nat → Int32} {h : Hp} {v1 : Nat} {v2 : Nat} {v3 : Nat} {v4 : Int32} {r : Int32} {h9 : Hp} {x : ((Int32 × Hp) ⊕ (Int32 × Hp))} (H : ML_law_2578 L xs h v1 v2 v3 v4 = some x) (hb0 : ∀ s : Int32 × Hp, x = .inl s → JP (PL L xs) (d + 65) YL_law 23 [.retAddr 3000, .ref v1, .ref v2, .ref v3, .int s.1, Value.null, Value.null] [] s.2 (oI r) h9) (hx : ∀ z : (Int32 × Hp), x = .inr (z) → z = (r, h9)) : JP (PL L xs) (d + 65) YL_law 2578 [.retAddr 3000, .ref v1, .ref v2, .ref v3, .int v4, Value.null, Value.null] [] h (oI r) h9 := by
  unfold ML_law_2578 at H
  refine J_aload_n 1 dL_law_2578 rfl rfl ?_
  refine J_aload_nT 0 dL_law_2579 rfl rfl ?_
  refine J_iload dL_law_2580 rfl ?_
  refine J_iconst (1 : Int32) dL_law_2582 kc_1 ?_
  refine J_iadd dL_law_2583 ?_
  obtain ⟨g655, H⟩ := gd H
  refine J_sld dL_law_2584 (inB_ok g655) ?_
  refine J_aload_nT 0 dL_law_2585 rfl rfl ?_
  refine J_iload dL_law_2586 rfl ?_
  refine J_iconst (2 : Int32) dL_law_2588 kc_2 ?_
  refine J_iadd dL_law_2589 ?_
  obtain ⟨g656, H⟩ := gd H
  refine J_sld dL_law_2590 (inB_ok g656) ?_
  refine J_aload_n 3 dL_law_2591 rfl rfl ?_
  obtain ⟨t659, h658, e657, H⟩ := b2_el H
  refine J_cSW (hh := hhL_locked) (as := [.ref v1, .int (xs (v4 + (1 : Int32)).toNatClampNeg), .int (xs (v4 + (2 : Int32)).toNatClampNeg), .ref v3]) YL_locked 4 dL_law_2592 moL_locked msL_locked mlL_268 (okL_locked (d := d + 62) e657) rfl rfl [] rfl rfl (st2 := [.int t659]) rfl ?_
  refine J_istore dL_law_2595 (by decide) (ls' := [.retAddr 3000, .ref v1, .ref v2, .ref v3, .int v4, .int t659, Value.null]) rfl ?_
  refine J_aload_n 2 dL_law_2597 rfl rfl ?_
  refine J_aload_nT 0 dL_law_2598 rfl rfl ?_
  refine J_iload dL_law_2599 rfl ?_
  refine J_iconst (1 : Int32) dL_law_2601 kc_1 ?_
  refine J_iadd dL_law_2602 ?_
  obtain ⟨g660, H⟩ := gd H
  refine J_sld dL_law_2603 (inB_ok g660) ?_
  refine J_aload_nT 0 dL_law_2604 rfl rfl ?_
  refine J_iload dL_law_2605 rfl ?_
  refine J_iconst (2 : Int32) dL_law_2607 kc_2 ?_
  refine J_iadd dL_law_2608 ?_
  obtain ⟨g661, H⟩ := gd H
  refine J_sld dL_law_2609 (inB_ok g661) ?_
  obtain ⟨g663, H⟩ := gd H
  obtain ⟨t665, h664, e662, H⟩ := b2_el H
  refine J_cV (as := [.int (xs (v4 + (1 : Int32)).toNatClampNeg), .int (xs (v4 + (2 : Int32)).toNatClampNeg)]) 11 YX12_locked 2 dL_law_2610 moX12_locked mvX12_locked mlL_270 g663 rfl rfl (okX12_locked (d := d + 63) e662) rfl rfl [] rfl rfl (st2 := [.int t665]) rfl ?_
  refine J_istore dL_law_2613 (by decide) (ls' := [.retAddr 3000, .ref v1, .ref v2, .ref v3, .int v4, .int t659, .int t665]) rfl ?_
  refine J_aload_n 2 dL_law_2615 rfl rfl ?_
  obtain ⟨g667, H⟩ := gd H
  obtain ⟨t668, e666, H⟩ := bd H
  refine J_cV (as := []) 11 YX12_thrown 0 dL_law_2616 moX12_thrown mvX12_thrown mlL_166 g667 rfl rfl (okX12_thrown (d := d + 64) e666) rfl rfl [] rfl rfl (st2 := [.int t668]) rfl ?_
  refine J_iload dL_law_2619 rfl ?_
  refine J_icmp_eq 2626 dL_law_2621 rfl (fun q669 => ?_) (fun q669 => ?_)
  · replace H := br1 q669 H
    refine J_iload dL_law_2626 rfl ?_
    refine J_if_ne 2643 dL_law_2628 rfl (fun q670 => ?_) (fun q670 => ?_)
    · replace H := br0 q670 H
      refine J_goto 3209 dL_law_2643 rfl ?_
      refine J_iinc (v4 + (6 : Int32)) dL_law_3209 rfl (congrArg (HAdd.hAdd v4) kc_6) (by decide) (ls' := [.retAddr 3000, .ref v1, .ref v2, .ref v3, .int (v4 + (6 : Int32)), .int t659, .int t665]) rfl ?_
      refine J_goto 23 dL_law_3212 rfl ?_
      cases H
      exact J_dr (hb0 _ rfl) ⟨rfl, ⟨rfl, ⟨rfl, ⟨rfl, ⟨rfl, trivial⟩⟩⟩⟩⟩
    · replace H := br1 q670 H
      refine J_aload_n 3 dL_law_2631 rfl rfl ?_
      refine J_iconst (0 : Int32) dL_law_2632 kc_0 ?_
      obtain ⟨g671, H⟩ := gd H
      obtain ⟨g672, H⟩ := gd H
      refine J_lald dL_law_2633 g671 (inB_ok g672) ?_
      refine J_iload dL_law_2634 rfl ?_
      refine J_i2l dL_law_2636 ?_
      refine J_lcmp' dL_law_2637 ?_
      refine J_if_eq 2643 dL_law_2638 rfl (fun q673 => ?_) (fun q673 => ?_)
      · replace H := br1 q673 H
        refine J_goto 3209 dL_law_2643 rfl ?_
        refine J_iinc (v4 + (6 : Int32)) dL_law_3209 rfl (congrArg (HAdd.hAdd v4) kc_6) (by decide) (ls' := [.retAddr 3000, .ref v1, .ref v2, .ref v3, .int (v4 + (6 : Int32)), .int t659, .int t665]) rfl ?_
        refine J_goto 23 dL_law_3212 rfl ?_
        cases H
        exact J_dr (hb0 _ rfl) ⟨rfl, ⟨rfl, ⟨rfl, ⟨rfl, ⟨rfl, trivial⟩⟩⟩⟩⟩
      · replace H := br0 q673 H
        refine J_iconst (0 : Int32) dL_law_2641 kc_0 ?_
        cases H
  · replace H := br0 q669 H
    refine J_iconst (0 : Int32) dL_law_2624 kc_0 ?_
    cases H
noncomputable def ML_law_2646 (L : Nat) (xs : Nat → Int32) (h : Hp) (v1 : Nat) (v2 : Nat) (v3 : Nat) (v4 : Int32) : Option ((Int32 × Hp) ⊕ (Int32 × Hp)) :=
  gg (β := ((Int32 × Hp) ⊕ (Int32 × Hp))) (inB (v4 + (1 : Int32)) L = true) <|
  gg (β := ((Int32 × Hp) ⊕ (Int32 × Hp))) (inB (v4 + (2 : Int32)) L = true) <|
  gg (β := ((Int32 × Hp) ⊕ (Int32 × Hp))) (inB (v4 + (3 : Int32)) L = true) <|
  b2 (α := Int32) (β := Hp) (γ := ((Int32 × Hp) ⊕ (Int32 × Hp))) (ML_stands h v1 (xs (v4 + (1 : Int32)).toNatClampNeg) (xs (v4 + (2 : Int32)).toNatClampNeg) (xs (v4 + (3 : Int32)).toNatClampNeg) v3) fun (t679 : Int32) (h678 : Hp) =>
  gg (β := ((Int32 × Hp) ⊕ (Int32 × Hp))) (inB (v4 + (1 : Int32)) L = true) <|
  gg (β := ((Int32 × Hp) ⊕ (Int32 × Hp))) (inB (v4 + (2 : Int32)) L = true) <|
  gg (β := ((Int32 × Hp) ⊕ (Int32 × Hp))) (inB (v4 + (3 : Int32)) L = true) <|
  gg (β := ((Int32 × Hp) ⊕ (Int32 × Hp))) (kd h678 v2 = 11) <|
  b2 (α := Int32) (β := Hp) (γ := ((Int32 × Hp) ⊕ (Int32 × Hp))) (MX12_stands h678 v2 (xs (v4 + (1 : Int32)).toNatClampNeg) (xs (v4 + (2 : Int32)).toNatClampNeg) (xs (v4 + (3 : Int32)).toNatClampNeg)) fun (t686 : Int32) (h685 : Hp) =>
  gg (β := ((Int32 × Hp) ⊕ (Int32 × Hp))) (kd h685 v2 = 11) <|
  Option.bind (α := Int32) (β := ((Int32 × Hp) ⊕ (Int32 × Hp))) (MX12_thrown h685 v2) fun (t689 : Int32) =>
  if t689 = t679 then
    if t679 = 0 then
      gg (β := ((Int32 × Hp) ⊕ (Int32 × Hp))) (kd h685 v3 = 23) <|
      gg (β := ((Int32 × Hp) ⊕ (Int32 × Hp))) (inB (0 : Int32) (ln h685 v3) = true) <|
      if (lgc (gI h685 v3 (0 : Int32).toNatClampNeg) t686) = 0 then
        some (.inl ((v4 + (6 : Int32)), h685))
      else
        none
    else
      some (.inl ((v4 + (6 : Int32)), h685))
  else
    none
set_option maxRecDepth 100000 in
set_option maxHeartbeats 8000000 in
theorem kL_law_2646 {d : Nat} {L : Nat} {xs : Nat → Int32} {h : Hp} {v1 : Nat} {v2 : Nat} {v3 : Nat} {v4 : Int32} {r : Int32} {h9 : Hp} {x : ((Int32 × Hp) ⊕ (Int32 × Hp))} (H : ML_law_2646 L xs h v1 v2 v3 v4 = some x) (hb0 : ∀ s : Int32 × Hp, x = .inl s → JP (PL L xs) (d + 65) YL_law 23 [.retAddr 3000, .ref v1, .ref v2, .ref v3, .int s.1, Value.null, Value.null] [] s.2 (oI r) h9) (hx : ∀ z : (Int32 × Hp), x = .inr (z) → z = (r, h9)) : JP (PL L xs) (d + 65) YL_law 2646 [.retAddr 3000, .ref v1, .ref v2, .ref v3, .int v4, Value.null, Value.null] [] h (oI r) h9 := by
  unfold ML_law_2646 at H
  refine J_aload_n 1 dL_law_2646 rfl rfl ?_
  refine J_aload_nT 0 dL_law_2647 rfl rfl ?_
  refine J_iload dL_law_2648 rfl ?_
  refine J_iconst (1 : Int32) dL_law_2650 kc_1 ?_
  refine J_iadd dL_law_2651 ?_
  obtain ⟨g674, H⟩ := gd H
  refine J_sld dL_law_2652 (inB_ok g674) ?_
  refine J_aload_nT 0 dL_law_2653 rfl rfl ?_
  refine J_iload dL_law_2654 rfl ?_
  refine J_iconst (2 : Int32) dL_law_2656 kc_2 ?_
  refine J_iadd dL_law_2657 ?_
  obtain ⟨g675, H⟩ := gd H
  refine J_sld dL_law_2658 (inB_ok g675) ?_
  refine J_aload_nT 0 dL_law_2659 rfl rfl ?_
  refine J_iload dL_law_2660 rfl ?_
  refine J_iconst (3 : Int32) dL_law_2662 kc_3 ?_
  refine J_iadd dL_law_2663 ?_
  obtain ⟨g676, H⟩ := gd H
  refine J_sld dL_law_2664 (inB_ok g676) ?_
  refine J_aload_n 3 dL_law_2665 rfl rfl ?_
  obtain ⟨t679, h678, e677, H⟩ := b2_el H
  refine J_cSW (hh := hhL_stands) (as := [.ref v1, .int (xs (v4 + (1 : Int32)).toNatClampNeg), .int (xs (v4 + (2 : Int32)).toNatClampNeg), .int (xs (v4 + (3 : Int32)).toNatClampNeg), .ref v3]) YL_stands 5 dL_law_2666 moL_stands msL_stands mlL_271 (okL_stands (d := d + 62) e677) rfl rfl [] rfl rfl (st2 := [.int t679]) rfl ?_
  refine J_istore dL_law_2669 (by decide) (ls' := [.retAddr 3000, .ref v1, .ref v2, .ref v3, .int v4, .int t679, Value.null]) rfl ?_
  refine J_aload_n 2 dL_law_2671 rfl rfl ?_
  refine J_aload_nT 0 dL_law_2672 rfl rfl ?_
  refine J_iload dL_law_2673 rfl ?_
  refine J_iconst (1 : Int32) dL_law_2675 kc_1 ?_
  refine J_iadd dL_law_2676 ?_
  obtain ⟨g680, H⟩ := gd H
  refine J_sld dL_law_2677 (inB_ok g680) ?_
  refine J_aload_nT 0 dL_law_2678 rfl rfl ?_
  refine J_iload dL_law_2679 rfl ?_
  refine J_iconst (2 : Int32) dL_law_2681 kc_2 ?_
  refine J_iadd dL_law_2682 ?_
  obtain ⟨g681, H⟩ := gd H
  refine J_sld dL_law_2683 (inB_ok g681) ?_
  refine J_aload_nT 0 dL_law_2684 rfl rfl ?_
  refine J_iload dL_law_2685 rfl ?_
  refine J_iconst (3 : Int32) dL_law_2687 kc_3 ?_
  refine J_iadd dL_law_2688 ?_
  obtain ⟨g682, H⟩ := gd H
  refine J_sld dL_law_2689 (inB_ok g682) ?_
  obtain ⟨g684, H⟩ := gd H
  obtain ⟨t686, h685, e683, H⟩ := b2_el H
  refine J_cV (as := [.int (xs (v4 + (1 : Int32)).toNatClampNeg), .int (xs (v4 + (2 : Int32)).toNatClampNeg), .int (xs (v4 + (3 : Int32)).toNatClampNeg)]) 11 YX12_stands 3 dL_law_2690 moX12_stands mvX12_stands mlL_273 g684 rfl rfl (okX12_stands (d := d + 62) e683) rfl rfl [] rfl rfl (st2 := [.int t686]) rfl ?_
  refine J_istore dL_law_2693 (by decide) (ls' := [.retAddr 3000, .ref v1, .ref v2, .ref v3, .int v4, .int t679, .int t686]) rfl ?_
  refine J_aload_n 2 dL_law_2695 rfl rfl ?_
  obtain ⟨g688, H⟩ := gd H
  obtain ⟨t689, e687, H⟩ := bd H
  refine J_cV (as := []) 11 YX12_thrown 0 dL_law_2696 moX12_thrown mvX12_thrown mlL_166 g688 rfl rfl (okX12_thrown (d := d + 64) e687) rfl rfl [] rfl rfl (st2 := [.int t689]) rfl ?_
  refine J_iload dL_law_2699 rfl ?_
  refine J_icmp_eq 2706 dL_law_2701 rfl (fun q690 => ?_) (fun q690 => ?_)
  · replace H := br1 q690 H
    refine J_iload dL_law_2706 rfl ?_
    refine J_if_ne 2723 dL_law_2708 rfl (fun q691 => ?_) (fun q691 => ?_)
    · replace H := br0 q691 H
      refine J_goto 3209 dL_law_2723 rfl ?_
      refine J_iinc (v4 + (6 : Int32)) dL_law_3209 rfl (congrArg (HAdd.hAdd v4) kc_6) (by decide) (ls' := [.retAddr 3000, .ref v1, .ref v2, .ref v3, .int (v4 + (6 : Int32)), .int t679, .int t686]) rfl ?_
      refine J_goto 23 dL_law_3212 rfl ?_
      cases H
      exact J_dr (hb0 _ rfl) ⟨rfl, ⟨rfl, ⟨rfl, ⟨rfl, ⟨rfl, trivial⟩⟩⟩⟩⟩
    · replace H := br1 q691 H
      refine J_aload_n 3 dL_law_2711 rfl rfl ?_
      refine J_iconst (0 : Int32) dL_law_2712 kc_0 ?_
      obtain ⟨g692, H⟩ := gd H
      obtain ⟨g693, H⟩ := gd H
      refine J_lald dL_law_2713 g692 (inB_ok g693) ?_
      refine J_iload dL_law_2714 rfl ?_
      refine J_i2l dL_law_2716 ?_
      refine J_lcmp' dL_law_2717 ?_
      refine J_if_eq 2723 dL_law_2718 rfl (fun q694 => ?_) (fun q694 => ?_)
      · replace H := br1 q694 H
        refine J_goto 3209 dL_law_2723 rfl ?_
        refine J_iinc (v4 + (6 : Int32)) dL_law_3209 rfl (congrArg (HAdd.hAdd v4) kc_6) (by decide) (ls' := [.retAddr 3000, .ref v1, .ref v2, .ref v3, .int (v4 + (6 : Int32)), .int t679, .int t686]) rfl ?_
        refine J_goto 23 dL_law_3212 rfl ?_
        cases H
        exact J_dr (hb0 _ rfl) ⟨rfl, ⟨rfl, ⟨rfl, ⟨rfl, ⟨rfl, trivial⟩⟩⟩⟩⟩
      · replace H := br0 q694 H
        refine J_iconst (0 : Int32) dL_law_2721 kc_0 ?_
        cases H
  · replace H := br0 q690 H
    refine J_iconst (0 : Int32) dL_law_2704 kc_0 ?_
    cases H
noncomputable def ML_law_2726 (L : Nat) (xs : Nat → Int32) (h : Hp) (v1 : Nat) (v2 : Nat) (v3 : Nat) (v4 : Int32) : Option ((Int32 × Hp) ⊕ (Int32 × Hp)) :=
  b2 (α := Int32) (β := Hp) (γ := ((Int32 × Hp) ⊕ (Int32 × Hp))) (ML_edition h v1 v3) fun (t697 : Int32) (h696 : Hp) =>
  gg (β := ((Int32 × Hp) ⊕ (Int32 × Hp))) (kd h696 v2 = 11) <|
  b2 (α := Int32) (β := Hp) (γ := ((Int32 × Hp) ⊕ (Int32 × Hp))) (MX12_edition h696 v2) fun (t701 : Int32) (h700 : Hp) =>
  gg (β := ((Int32 × Hp) ⊕ (Int32 × Hp))) (kd h700 v2 = 11) <|
  Option.bind (α := Int32) (β := ((Int32 × Hp) ⊕ (Int32 × Hp))) (MX12_thrown h700 v2) fun (t704 : Int32) =>
  if t704 = t697 then
    if t697 = 0 then
      gg (β := ((Int32 × Hp) ⊕ (Int32 × Hp))) (kd h700 v3 = 23) <|
      gg (β := ((Int32 × Hp) ⊕ (Int32 × Hp))) (inB (0 : Int32) (ln h700 v3) = true) <|
      if (lgc (gI h700 v3 (0 : Int32).toNatClampNeg) t701) = 0 then
        some (.inl ((v4 + (6 : Int32)), h700))
      else
        none
    else
      some (.inl ((v4 + (6 : Int32)), h700))
  else
    none
set_option maxRecDepth 100000 in
set_option maxHeartbeats 8000000 in
theorem kL_law_2726 {d : Nat} {L : Nat} {xs : Nat → Int32} {h : Hp} {v1 : Nat} {v2 : Nat} {v3 : Nat} {v4 : Int32} {r : Int32} {h9 : Hp} {x : ((Int32 × Hp) ⊕ (Int32 × Hp))} (H : ML_law_2726 L xs h v1 v2 v3 v4 = some x) (hb0 : ∀ s : Int32 × Hp, x = .inl s → JP (PL L xs) (d + 65) YL_law 23 [.retAddr 3000, .ref v1, .ref v2, .ref v3, .int s.1, Value.null, Value.null] [] s.2 (oI r) h9) (hx : ∀ z : (Int32 × Hp), x = .inr (z) → z = (r, h9)) : JP (PL L xs) (d + 65) YL_law 2726 [.retAddr 3000, .ref v1, .ref v2, .ref v3, .int v4, Value.null, Value.null] [] h (oI r) h9 := by
  unfold ML_law_2726 at H
  refine J_aload_n 1 dL_law_2726 rfl rfl ?_
  refine J_aload_n 3 dL_law_2727 rfl rfl ?_
  obtain ⟨t697, h696, e695, H⟩ := b2_el H
  refine J_cSW (hh := hhL_edition) (as := [.ref v1, .ref v3]) YL_edition 2 dL_law_2728 moL_edition msL_edition mlL_274 (okL_edition (d := d + 60) e695) rfl rfl [] rfl rfl (st2 := [.int t697]) rfl ?_
  refine J_istore dL_law_2731 (by decide) (ls' := [.retAddr 3000, .ref v1, .ref v2, .ref v3, .int v4, .int t697, Value.null]) rfl ?_
  refine J_aload_n 2 dL_law_2733 rfl rfl ?_
  obtain ⟨g699, H⟩ := gd H
  obtain ⟨t701, h700, e698, H⟩ := b2_el H
  refine J_cV (as := []) 11 YX12_edition 0 dL_law_2734 moX12_edition mvX12_edition mlL_277 g699 rfl rfl (okX12_edition (d := d + 63) e698) rfl rfl [] rfl rfl (st2 := [.int t701]) rfl ?_
  refine J_istore dL_law_2737 (by decide) (ls' := [.retAddr 3000, .ref v1, .ref v2, .ref v3, .int v4, .int t697, .int t701]) rfl ?_
  refine J_aload_n 2 dL_law_2739 rfl rfl ?_
  obtain ⟨g703, H⟩ := gd H
  obtain ⟨t704, e702, H⟩ := bd H
  refine J_cV (as := []) 11 YX12_thrown 0 dL_law_2740 moX12_thrown mvX12_thrown mlL_166 g703 rfl rfl (okX12_thrown (d := d + 64) e702) rfl rfl [] rfl rfl (st2 := [.int t704]) rfl ?_
  refine J_iload dL_law_2743 rfl ?_
  refine J_icmp_eq 2750 dL_law_2745 rfl (fun q705 => ?_) (fun q705 => ?_)
  · replace H := br1 q705 H
    refine J_iload dL_law_2750 rfl ?_
    refine J_if_ne 2767 dL_law_2752 rfl (fun q706 => ?_) (fun q706 => ?_)
    · replace H := br0 q706 H
      refine J_goto 3209 dL_law_2767 rfl ?_
      refine J_iinc (v4 + (6 : Int32)) dL_law_3209 rfl (congrArg (HAdd.hAdd v4) kc_6) (by decide) (ls' := [.retAddr 3000, .ref v1, .ref v2, .ref v3, .int (v4 + (6 : Int32)), .int t697, .int t701]) rfl ?_
      refine J_goto 23 dL_law_3212 rfl ?_
      cases H
      exact J_dr (hb0 _ rfl) ⟨rfl, ⟨rfl, ⟨rfl, ⟨rfl, ⟨rfl, trivial⟩⟩⟩⟩⟩
    · replace H := br1 q706 H
      refine J_aload_n 3 dL_law_2755 rfl rfl ?_
      refine J_iconst (0 : Int32) dL_law_2756 kc_0 ?_
      obtain ⟨g707, H⟩ := gd H
      obtain ⟨g708, H⟩ := gd H
      refine J_lald dL_law_2757 g707 (inB_ok g708) ?_
      refine J_iload dL_law_2758 rfl ?_
      refine J_i2l dL_law_2760 ?_
      refine J_lcmp' dL_law_2761 ?_
      refine J_if_eq 2767 dL_law_2762 rfl (fun q709 => ?_) (fun q709 => ?_)
      · replace H := br1 q709 H
        refine J_goto 3209 dL_law_2767 rfl ?_
        refine J_iinc (v4 + (6 : Int32)) dL_law_3209 rfl (congrArg (HAdd.hAdd v4) kc_6) (by decide) (ls' := [.retAddr 3000, .ref v1, .ref v2, .ref v3, .int (v4 + (6 : Int32)), .int t697, .int t701]) rfl ?_
        refine J_goto 23 dL_law_3212 rfl ?_
        cases H
        exact J_dr (hb0 _ rfl) ⟨rfl, ⟨rfl, ⟨rfl, ⟨rfl, ⟨rfl, trivial⟩⟩⟩⟩⟩
      · replace H := br0 q709 H
        refine J_iconst (0 : Int32) dL_law_2765 kc_0 ?_
        cases H
  · replace H := br0 q705 H
    refine J_iconst (0 : Int32) dL_law_2748 kc_0 ?_
    cases H
noncomputable def ML_law_2770 (L : Nat) (xs : Nat → Int32) (h : Hp) (v1 : Nat) (v2 : Nat) (v3 : Nat) (v4 : Int32) : Option ((Int32 × Hp) ⊕ (Int32 × Hp)) :=
  gg (β := ((Int32 × Hp) ⊕ (Int32 × Hp))) (inB (v4 + (1 : Int32)) L = true) <|
  gg (β := ((Int32 × Hp) ⊕ (Int32 × Hp))) (inB (v4 + (2 : Int32)) L = true) <|
  gg (β := ((Int32 × Hp) ⊕ (Int32 × Hp))) (inB (v4 + (3 : Int32)) L = true) <|
  b2 (α := Int32) (β := Hp) (γ := ((Int32 × Hp) ⊕ (Int32 × Hp))) (ML_changed h v1 (xs (v4 + (1 : Int32)).toNatClampNeg) (xs (v4 + (2 : Int32)).toNatClampNeg) (xs (v4 + (3 : Int32)).toNatClampNeg) v3) fun (t715 : Int32) (h714 : Hp) =>
  gg (β := ((Int32 × Hp) ⊕ (Int32 × Hp))) (inB (v4 + (1 : Int32)) L = true) <|
  gg (β := ((Int32 × Hp) ⊕ (Int32 × Hp))) (inB (v4 + (2 : Int32)) L = true) <|
  gg (β := ((Int32 × Hp) ⊕ (Int32 × Hp))) (inB (v4 + (3 : Int32)) L = true) <|
  gg (β := ((Int32 × Hp) ⊕ (Int32 × Hp))) (kd h714 v2 = 11) <|
  b2 (α := Int32) (β := Hp) (γ := ((Int32 × Hp) ⊕ (Int32 × Hp))) (MX12_changed h714 v2 (xs (v4 + (1 : Int32)).toNatClampNeg) (xs (v4 + (2 : Int32)).toNatClampNeg) (xs (v4 + (3 : Int32)).toNatClampNeg)) fun (t722 : Int32) (h721 : Hp) =>
  gg (β := ((Int32 × Hp) ⊕ (Int32 × Hp))) (kd h721 v2 = 11) <|
  Option.bind (α := Int32) (β := ((Int32 × Hp) ⊕ (Int32 × Hp))) (MX12_thrown h721 v2) fun (t725 : Int32) =>
  if t725 = t715 then
    if t715 = 0 then
      gg (β := ((Int32 × Hp) ⊕ (Int32 × Hp))) (kd h721 v3 = 23) <|
      gg (β := ((Int32 × Hp) ⊕ (Int32 × Hp))) (inB (0 : Int32) (ln h721 v3) = true) <|
      if (lgc (gI h721 v3 (0 : Int32).toNatClampNeg) t722) = 0 then
        some (.inl ((v4 + (6 : Int32)), h721))
      else
        none
    else
      some (.inl ((v4 + (6 : Int32)), h721))
  else
    none
set_option maxRecDepth 100000 in
set_option maxHeartbeats 8000000 in
theorem kL_law_2770 {d : Nat} {L : Nat} {xs : Nat → Int32} {h : Hp} {v1 : Nat} {v2 : Nat} {v3 : Nat} {v4 : Int32} {r : Int32} {h9 : Hp} {x : ((Int32 × Hp) ⊕ (Int32 × Hp))} (H : ML_law_2770 L xs h v1 v2 v3 v4 = some x) (hb0 : ∀ s : Int32 × Hp, x = .inl s → JP (PL L xs) (d + 65) YL_law 23 [.retAddr 3000, .ref v1, .ref v2, .ref v3, .int s.1, Value.null, Value.null] [] s.2 (oI r) h9) (hx : ∀ z : (Int32 × Hp), x = .inr (z) → z = (r, h9)) : JP (PL L xs) (d + 65) YL_law 2770 [.retAddr 3000, .ref v1, .ref v2, .ref v3, .int v4, Value.null, Value.null] [] h (oI r) h9 := by
  unfold ML_law_2770 at H
  refine J_aload_n 1 dL_law_2770 rfl rfl ?_
  refine J_aload_nT 0 dL_law_2771 rfl rfl ?_
  refine J_iload dL_law_2772 rfl ?_
  refine J_iconst (1 : Int32) dL_law_2774 kc_1 ?_
  refine J_iadd dL_law_2775 ?_
  obtain ⟨g710, H⟩ := gd H
  refine J_sld dL_law_2776 (inB_ok g710) ?_
  refine J_aload_nT 0 dL_law_2777 rfl rfl ?_
  refine J_iload dL_law_2778 rfl ?_
  refine J_iconst (2 : Int32) dL_law_2780 kc_2 ?_
  refine J_iadd dL_law_2781 ?_
  obtain ⟨g711, H⟩ := gd H
  refine J_sld dL_law_2782 (inB_ok g711) ?_
  refine J_aload_nT 0 dL_law_2783 rfl rfl ?_
  refine J_iload dL_law_2784 rfl ?_
  refine J_iconst (3 : Int32) dL_law_2786 kc_3 ?_
  refine J_iadd dL_law_2787 ?_
  obtain ⟨g712, H⟩ := gd H
  refine J_sld dL_law_2788 (inB_ok g712) ?_
  refine J_aload_n 3 dL_law_2789 rfl rfl ?_
  obtain ⟨t715, h714, e713, H⟩ := b2_el H
  refine J_cSW (hh := hhL_changed) (as := [.ref v1, .int (xs (v4 + (1 : Int32)).toNatClampNeg), .int (xs (v4 + (2 : Int32)).toNatClampNeg), .int (xs (v4 + (3 : Int32)).toNatClampNeg), .ref v3]) YL_changed 5 dL_law_2790 moL_changed msL_changed mlL_278 (okL_changed (d := d + 60) e713) rfl rfl [] rfl rfl (st2 := [.int t715]) rfl ?_
  refine J_istore dL_law_2793 (by decide) (ls' := [.retAddr 3000, .ref v1, .ref v2, .ref v3, .int v4, .int t715, Value.null]) rfl ?_
  refine J_aload_n 2 dL_law_2795 rfl rfl ?_
  refine J_aload_nT 0 dL_law_2796 rfl rfl ?_
  refine J_iload dL_law_2797 rfl ?_
  refine J_iconst (1 : Int32) dL_law_2799 kc_1 ?_
  refine J_iadd dL_law_2800 ?_
  obtain ⟨g716, H⟩ := gd H
  refine J_sld dL_law_2801 (inB_ok g716) ?_
  refine J_aload_nT 0 dL_law_2802 rfl rfl ?_
  refine J_iload dL_law_2803 rfl ?_
  refine J_iconst (2 : Int32) dL_law_2805 kc_2 ?_
  refine J_iadd dL_law_2806 ?_
  obtain ⟨g717, H⟩ := gd H
  refine J_sld dL_law_2807 (inB_ok g717) ?_
  refine J_aload_nT 0 dL_law_2808 rfl rfl ?_
  refine J_iload dL_law_2809 rfl ?_
  refine J_iconst (3 : Int32) dL_law_2811 kc_3 ?_
  refine J_iadd dL_law_2812 ?_
  obtain ⟨g718, H⟩ := gd H
  refine J_sld dL_law_2813 (inB_ok g718) ?_
  obtain ⟨g720, H⟩ := gd H
  obtain ⟨t722, h721, e719, H⟩ := b2_el H
  refine J_cV (as := [.int (xs (v4 + (1 : Int32)).toNatClampNeg), .int (xs (v4 + (2 : Int32)).toNatClampNeg), .int (xs (v4 + (3 : Int32)).toNatClampNeg)]) 11 YX12_changed 3 dL_law_2814 moX12_changed mvX12_changed mlL_280 g720 rfl rfl (okX12_changed (d := d + 62) e719) rfl rfl [] rfl rfl (st2 := [.int t722]) rfl ?_
  refine J_istore dL_law_2817 (by decide) (ls' := [.retAddr 3000, .ref v1, .ref v2, .ref v3, .int v4, .int t715, .int t722]) rfl ?_
  refine J_aload_n 2 dL_law_2819 rfl rfl ?_
  obtain ⟨g724, H⟩ := gd H
  obtain ⟨t725, e723, H⟩ := bd H
  refine J_cV (as := []) 11 YX12_thrown 0 dL_law_2820 moX12_thrown mvX12_thrown mlL_166 g724 rfl rfl (okX12_thrown (d := d + 64) e723) rfl rfl [] rfl rfl (st2 := [.int t725]) rfl ?_
  refine J_iload dL_law_2823 rfl ?_
  refine J_icmp_eq 2830 dL_law_2825 rfl (fun q726 => ?_) (fun q726 => ?_)
  · replace H := br1 q726 H
    refine J_iload dL_law_2830 rfl ?_
    refine J_if_ne 2847 dL_law_2832 rfl (fun q727 => ?_) (fun q727 => ?_)
    · replace H := br0 q727 H
      refine J_goto 3209 dL_law_2847 rfl ?_
      refine J_iinc (v4 + (6 : Int32)) dL_law_3209 rfl (congrArg (HAdd.hAdd v4) kc_6) (by decide) (ls' := [.retAddr 3000, .ref v1, .ref v2, .ref v3, .int (v4 + (6 : Int32)), .int t715, .int t722]) rfl ?_
      refine J_goto 23 dL_law_3212 rfl ?_
      cases H
      exact J_dr (hb0 _ rfl) ⟨rfl, ⟨rfl, ⟨rfl, ⟨rfl, ⟨rfl, trivial⟩⟩⟩⟩⟩
    · replace H := br1 q727 H
      refine J_aload_n 3 dL_law_2835 rfl rfl ?_
      refine J_iconst (0 : Int32) dL_law_2836 kc_0 ?_
      obtain ⟨g728, H⟩ := gd H
      obtain ⟨g729, H⟩ := gd H
      refine J_lald dL_law_2837 g728 (inB_ok g729) ?_
      refine J_iload dL_law_2838 rfl ?_
      refine J_i2l dL_law_2840 ?_
      refine J_lcmp' dL_law_2841 ?_
      refine J_if_eq 2847 dL_law_2842 rfl (fun q730 => ?_) (fun q730 => ?_)
      · replace H := br1 q730 H
        refine J_goto 3209 dL_law_2847 rfl ?_
        refine J_iinc (v4 + (6 : Int32)) dL_law_3209 rfl (congrArg (HAdd.hAdd v4) kc_6) (by decide) (ls' := [.retAddr 3000, .ref v1, .ref v2, .ref v3, .int (v4 + (6 : Int32)), .int t715, .int t722]) rfl ?_
        refine J_goto 23 dL_law_3212 rfl ?_
        cases H
        exact J_dr (hb0 _ rfl) ⟨rfl, ⟨rfl, ⟨rfl, ⟨rfl, ⟨rfl, trivial⟩⟩⟩⟩⟩
      · replace H := br0 q730 H
        refine J_iconst (0 : Int32) dL_law_2845 kc_0 ?_
        cases H
  · replace H := br0 q726 H
    refine J_iconst (0 : Int32) dL_law_2828 kc_0 ?_
    cases H
noncomputable def ML_law_2850 (L : Nat) (xs : Nat → Int32) (h : Hp) (v1 : Nat) (v2 : Nat) (v3 : Nat) (v4 : Int32) : Option ((Int32 × Hp) ⊕ (Int32 × Hp)) :=
  gg (β := ((Int32 × Hp) ⊕ (Int32 × Hp))) (kd h v1 = 10) <|
  b2 (α := Int32) (β := Hp) (γ := ((Int32 × Hp) ⊕ (Int32 × Hp))) (MX11_least h v1) fun (t734 : Int32) (h733 : Hp) =>
  gg (β := ((Int32 × Hp) ⊕ (Int32 × Hp))) (kd h733 v2 = 11) <|
  b2 (α := Int32) (β := Hp) (γ := ((Int32 × Hp) ⊕ (Int32 × Hp))) (MX12_least h733 v2) fun (t738 : Int32) (h737 : Hp) =>
  if t734 = t738 then
    some (.inl ((v4 + (6 : Int32)), h737))
  else
    none
set_option maxRecDepth 100000 in
set_option maxHeartbeats 8000000 in
theorem kL_law_2850 {d : Nat} {L : Nat} {xs : Nat → Int32} {h : Hp} {v1 : Nat} {v2 : Nat} {v3 : Nat} {v4 : Int32} {r : Int32} {h9 : Hp} {x : ((Int32 × Hp) ⊕ (Int32 × Hp))} (H : ML_law_2850 L xs h v1 v2 v3 v4 = some x) (hb0 : ∀ s : Int32 × Hp, x = .inl s → JP (PL L xs) (d + 65) YL_law 23 [.retAddr 3000, .ref v1, .ref v2, .ref v3, .int s.1, Value.null, Value.null] [] s.2 (oI r) h9) (hx : ∀ z : (Int32 × Hp), x = .inr (z) → z = (r, h9)) : JP (PL L xs) (d + 65) YL_law 2850 [.retAddr 3000, .ref v1, .ref v2, .ref v3, .int v4, Value.null, Value.null] [] h (oI r) h9 := by
  unfold ML_law_2850 at H
  refine J_aload_n 1 dL_law_2850 rfl rfl ?_
  obtain ⟨g732, H⟩ := gd H
  obtain ⟨t734, h733, e731, H⟩ := b2_el H
  refine J_cV (as := []) 10 YX11_least 0 dL_law_2851 moX11_least mvX11_least mlL_281 g732 rfl rfl (okX11_least (d := d + 58) e731) rfl rfl [] rfl rfl (st2 := [.int t734]) rfl ?_
  refine J_aload_n 2 dL_law_2854 rfl rfl ?_
  obtain ⟨g736, H⟩ := gd H
  obtain ⟨t738, h737, e735, H⟩ := b2_el H
  refine J_cV (as := []) 11 YX12_least 0 dL_law_2855 moX12_least mvX12_least mlL_284 g736 rfl rfl (okX12_least (d := d + 33) e735) rfl rfl [.int t734] rfl rfl (st2 := [.int t738, .int t734]) rfl ?_
  refine J_icmp_eq 3209 dL_law_2858 rfl (fun q739 => ?_) (fun q739 => ?_)
  · replace H := br1 q739 H
    refine J_iinc (v4 + (6 : Int32)) dL_law_3209 rfl (congrArg (HAdd.hAdd v4) kc_6) (by decide) (ls' := [.retAddr 3000, .ref v1, .ref v2, .ref v3, .int (v4 + (6 : Int32)), Value.null, Value.null]) rfl ?_
    refine J_goto 23 dL_law_3212 rfl ?_
    cases H
    exact J_dr (hb0 _ rfl) ⟨rfl, ⟨rfl, ⟨rfl, ⟨rfl, ⟨rfl, trivial⟩⟩⟩⟩⟩
  · replace H := br0 q739 H
    refine J_iconst (0 : Int32) dL_law_2861 kc_0 ?_
    cases H
noncomputable def ML_law_2863 (L : Nat) (xs : Nat → Int32) (h : Hp) (v1 : Nat) (v2 : Nat) (v3 : Nat) (v4 : Int32) : Option ((Int32 × Hp) ⊕ (Int32 × Hp)) :=
  gg (β := ((Int32 × Hp) ⊕ (Int32 × Hp))) (inB (v4 + (1 : Int32)) L = true) <|
  b2 (α := Int32) (β := Hp) (γ := ((Int32 × Hp) ⊕ (Int32 × Hp))) (ML_ahead h v1 (xs (v4 + (1 : Int32)).toNatClampNeg) v3) fun (t743 : Int32) (h742 : Hp) =>
  gg (β := ((Int32 × Hp) ⊕ (Int32 × Hp))) (inB (v4 + (1 : Int32)) L = true) <|
  gg (β := ((Int32 × Hp) ⊕ (Int32 × Hp))) (kd h742 v2 = 11) <|
  b2 (α := Int32) (β := Hp) (γ := ((Int32 × Hp) ⊕ (Int32 × Hp))) (MX12_ahead h742 v2 (xs (v4 + (1 : Int32)).toNatClampNeg)) fun (t748 : Int32) (h747 : Hp) =>
  gg (β := ((Int32 × Hp) ⊕ (Int32 × Hp))) (kd h747 v2 = 11) <|
  Option.bind (α := Int32) (β := ((Int32 × Hp) ⊕ (Int32 × Hp))) (MX12_thrown h747 v2) fun (t751 : Int32) =>
  if t751 = t743 then
    if t743 = 0 then
      gg (β := ((Int32 × Hp) ⊕ (Int32 × Hp))) (kd h747 v3 = 23) <|
      gg (β := ((Int32 × Hp) ⊕ (Int32 × Hp))) (inB (0 : Int32) (ln h747 v3) = true) <|
      if (lgc (gI h747 v3 (0 : Int32).toNatClampNeg) t748) = 0 then
        some (.inl ((v4 + (6 : Int32)), h747))
      else
        none
    else
      some (.inl ((v4 + (6 : Int32)), h747))
  else
    none
set_option maxRecDepth 100000 in
set_option maxHeartbeats 8000000 in
theorem kL_law_2863 {d : Nat} {L : Nat} {xs : Nat → Int32} {h : Hp} {v1 : Nat} {v2 : Nat} {v3 : Nat} {v4 : Int32} {r : Int32} {h9 : Hp} {x : ((Int32 × Hp) ⊕ (Int32 × Hp))} (H : ML_law_2863 L xs h v1 v2 v3 v4 = some x) (hb0 : ∀ s : Int32 × Hp, x = .inl s → JP (PL L xs) (d + 65) YL_law 23 [.retAddr 3000, .ref v1, .ref v2, .ref v3, .int s.1, Value.null, Value.null] [] s.2 (oI r) h9) (hx : ∀ z : (Int32 × Hp), x = .inr (z) → z = (r, h9)) : JP (PL L xs) (d + 65) YL_law 2863 [.retAddr 3000, .ref v1, .ref v2, .ref v3, .int v4, Value.null, Value.null] [] h (oI r) h9 := by
  unfold ML_law_2863 at H
  refine J_aload_n 1 dL_law_2863 rfl rfl ?_
  refine J_aload_nT 0 dL_law_2864 rfl rfl ?_
  refine J_iload dL_law_2865 rfl ?_
  refine J_iconst (1 : Int32) dL_law_2867 kc_1 ?_
  refine J_iadd dL_law_2868 ?_
  obtain ⟨g740, H⟩ := gd H
  refine J_sld dL_law_2869 (inB_ok g740) ?_
  refine J_aload_n 3 dL_law_2870 rfl rfl ?_
  obtain ⟨t743, h742, e741, H⟩ := b2_el H
  refine J_cSW (hh := hhL_ahead) (as := [.ref v1, .int (xs (v4 + (1 : Int32)).toNatClampNeg), .ref v3]) YL_ahead 3 dL_law_2871 moL_ahead msL_ahead mlL_285 (okL_ahead (d := d + 56) e741) rfl rfl [] rfl rfl (st2 := [.int t743]) rfl ?_
  refine J_istore dL_law_2874 (by decide) (ls' := [.retAddr 3000, .ref v1, .ref v2, .ref v3, .int v4, .int t743, Value.null]) rfl ?_
  refine J_aload_n 2 dL_law_2876 rfl rfl ?_
  refine J_aload_nT 0 dL_law_2877 rfl rfl ?_
  refine J_iload dL_law_2878 rfl ?_
  refine J_iconst (1 : Int32) dL_law_2880 kc_1 ?_
  refine J_iadd dL_law_2881 ?_
  obtain ⟨g744, H⟩ := gd H
  refine J_sld dL_law_2882 (inB_ok g744) ?_
  obtain ⟨g746, H⟩ := gd H
  obtain ⟨t748, h747, e745, H⟩ := b2_el H
  refine J_cV (as := [.int (xs (v4 + (1 : Int32)).toNatClampNeg)]) 11 YX12_ahead 1 dL_law_2883 moX12_ahead mvX12_ahead mlL_287 g746 rfl rfl (okX12_ahead (d := d + 57) e745) rfl rfl [] rfl rfl (st2 := [.int t748]) rfl ?_
  refine J_istore dL_law_2886 (by decide) (ls' := [.retAddr 3000, .ref v1, .ref v2, .ref v3, .int v4, .int t743, .int t748]) rfl ?_
  refine J_aload_n 2 dL_law_2888 rfl rfl ?_
  obtain ⟨g750, H⟩ := gd H
  obtain ⟨t751, e749, H⟩ := bd H
  refine J_cV (as := []) 11 YX12_thrown 0 dL_law_2889 moX12_thrown mvX12_thrown mlL_166 g750 rfl rfl (okX12_thrown (d := d + 64) e749) rfl rfl [] rfl rfl (st2 := [.int t751]) rfl ?_
  refine J_iload dL_law_2892 rfl ?_
  refine J_icmp_eq 2899 dL_law_2894 rfl (fun q752 => ?_) (fun q752 => ?_)
  · replace H := br1 q752 H
    refine J_iload dL_law_2899 rfl ?_
    refine J_if_ne 2916 dL_law_2901 rfl (fun q753 => ?_) (fun q753 => ?_)
    · replace H := br0 q753 H
      refine J_goto 3209 dL_law_2916 rfl ?_
      refine J_iinc (v4 + (6 : Int32)) dL_law_3209 rfl (congrArg (HAdd.hAdd v4) kc_6) (by decide) (ls' := [.retAddr 3000, .ref v1, .ref v2, .ref v3, .int (v4 + (6 : Int32)), .int t743, .int t748]) rfl ?_
      refine J_goto 23 dL_law_3212 rfl ?_
      cases H
      exact J_dr (hb0 _ rfl) ⟨rfl, ⟨rfl, ⟨rfl, ⟨rfl, ⟨rfl, trivial⟩⟩⟩⟩⟩
    · replace H := br1 q753 H
      refine J_aload_n 3 dL_law_2904 rfl rfl ?_
      refine J_iconst (0 : Int32) dL_law_2905 kc_0 ?_
      obtain ⟨g754, H⟩ := gd H
      obtain ⟨g755, H⟩ := gd H
      refine J_lald dL_law_2906 g754 (inB_ok g755) ?_
      refine J_iload dL_law_2907 rfl ?_
      refine J_i2l dL_law_2909 ?_
      refine J_lcmp' dL_law_2910 ?_
      refine J_if_eq 2916 dL_law_2911 rfl (fun q756 => ?_) (fun q756 => ?_)
      · replace H := br1 q756 H
        refine J_goto 3209 dL_law_2916 rfl ?_
        refine J_iinc (v4 + (6 : Int32)) dL_law_3209 rfl (congrArg (HAdd.hAdd v4) kc_6) (by decide) (ls' := [.retAddr 3000, .ref v1, .ref v2, .ref v3, .int (v4 + (6 : Int32)), .int t743, .int t748]) rfl ?_
        refine J_goto 23 dL_law_3212 rfl ?_
        cases H
        exact J_dr (hb0 _ rfl) ⟨rfl, ⟨rfl, ⟨rfl, ⟨rfl, ⟨rfl, trivial⟩⟩⟩⟩⟩
      · replace H := br0 q756 H
        refine J_iconst (0 : Int32) dL_law_2914 kc_0 ?_
        cases H
  · replace H := br0 q752 H
    refine J_iconst (0 : Int32) dL_law_2897 kc_0 ?_
    cases H
noncomputable def ML_law_2919 (L : Nat) (xs : Nat → Int32) (h : Hp) (v1 : Nat) (v2 : Nat) (v3 : Nat) (v4 : Int32) : Option ((Int32 × Hp) ⊕ (Int32 × Hp)) :=
  gg (β := ((Int32 × Hp) ⊕ (Int32 × Hp))) (inB (v4 + (1 : Int32)) L = true) <|
  gg (β := ((Int32 × Hp) ⊕ (Int32 × Hp))) (inB (v4 + (2 : Int32)) L = true) <|
  gg (β := ((Int32 × Hp) ⊕ (Int32 × Hp))) (inB (v4 + (3 : Int32)) L = true) <|
  b2 (α := Int32) (β := Hp) (γ := ((Int32 × Hp) ⊕ (Int32 × Hp))) (ML_pay h v1 (xs (v4 + (1 : Int32)).toNatClampNeg) (xs (v4 + (2 : Int32)).toNatClampNeg) (xs (v4 + (3 : Int32)).toNatClampNeg) v3) fun (t762 : Int32) (h761 : Hp) =>
  gg (β := ((Int32 × Hp) ⊕ (Int32 × Hp))) (inB (v4 + (1 : Int32)) L = true) <|
  gg (β := ((Int32 × Hp) ⊕ (Int32 × Hp))) (inB (v4 + (2 : Int32)) L = true) <|
  gg (β := ((Int32 × Hp) ⊕ (Int32 × Hp))) (inB (v4 + (3 : Int32)) L = true) <|
  gg (β := ((Int32 × Hp) ⊕ (Int32 × Hp))) (kd h761 v2 = 11) <|
  b2 (α := Int32) (β := Hp) (γ := ((Int32 × Hp) ⊕ (Int32 × Hp))) (MX12_pay h761 v2 (xs (v4 + (1 : Int32)).toNatClampNeg) (xs (v4 + (2 : Int32)).toNatClampNeg) (xs (v4 + (3 : Int32)).toNatClampNeg)) fun (t769 : Int32) (h768 : Hp) =>
  gg (β := ((Int32 × Hp) ⊕ (Int32 × Hp))) (kd h768 v2 = 11) <|
  Option.bind (α := Int32) (β := ((Int32 × Hp) ⊕ (Int32 × Hp))) (MX12_thrown h768 v2) fun (t772 : Int32) =>
  if t772 = t762 then
    if t762 = 0 then
      gg (β := ((Int32 × Hp) ⊕ (Int32 × Hp))) (kd h768 v3 = 23) <|
      gg (β := ((Int32 × Hp) ⊕ (Int32 × Hp))) (inB (0 : Int32) (ln h768 v3) = true) <|
      if (lgc (gI h768 v3 (0 : Int32).toNatClampNeg) t769) = 0 then
        some (.inl ((v4 + (6 : Int32)), h768))
      else
        none
    else
      some (.inl ((v4 + (6 : Int32)), h768))
  else
    none
set_option maxRecDepth 100000 in
set_option maxHeartbeats 8000000 in
theorem kL_law_2919 {d : Nat} {L : Nat} {xs : Nat → Int32} {h : Hp} {v1 : Nat} {v2 : Nat} {v3 : Nat} {v4 : Int32} {r : Int32} {h9 : Hp} {x : ((Int32 × Hp) ⊕ (Int32 × Hp))} (H : ML_law_2919 L xs h v1 v2 v3 v4 = some x) (hb0 : ∀ s : Int32 × Hp, x = .inl s → JP (PL L xs) (d + 65) YL_law 23 [.retAddr 3000, .ref v1, .ref v2, .ref v3, .int s.1, Value.null, Value.null] [] s.2 (oI r) h9) (hx : ∀ z : (Int32 × Hp), x = .inr (z) → z = (r, h9)) : JP (PL L xs) (d + 65) YL_law 2919 [.retAddr 3000, .ref v1, .ref v2, .ref v3, .int v4, Value.null, Value.null] [] h (oI r) h9 := by
  unfold ML_law_2919 at H
  refine J_aload_n 1 dL_law_2919 rfl rfl ?_
  refine J_aload_nT 0 dL_law_2920 rfl rfl ?_
  refine J_iload dL_law_2921 rfl ?_
  refine J_iconst (1 : Int32) dL_law_2923 kc_1 ?_
  refine J_iadd dL_law_2924 ?_
  obtain ⟨g757, H⟩ := gd H
  refine J_sld dL_law_2925 (inB_ok g757) ?_
  refine J_aload_nT 0 dL_law_2926 rfl rfl ?_
  refine J_iload dL_law_2927 rfl ?_
  refine J_iconst (2 : Int32) dL_law_2929 kc_2 ?_
  refine J_iadd dL_law_2930 ?_
  obtain ⟨g758, H⟩ := gd H
  refine J_sld dL_law_2931 (inB_ok g758) ?_
  refine J_aload_nT 0 dL_law_2932 rfl rfl ?_
  refine J_iload dL_law_2933 rfl ?_
  refine J_iconst (3 : Int32) dL_law_2935 kc_3 ?_
  refine J_iadd dL_law_2936 ?_
  obtain ⟨g759, H⟩ := gd H
  refine J_sld dL_law_2937 (inB_ok g759) ?_
  refine J_aload_n 3 dL_law_2938 rfl rfl ?_
  obtain ⟨t762, h761, e760, H⟩ := b2_el H
  refine J_cSW (hh := hhL_pay) (as := [.ref v1, .int (xs (v4 + (1 : Int32)).toNatClampNeg), .int (xs (v4 + (2 : Int32)).toNatClampNeg), .int (xs (v4 + (3 : Int32)).toNatClampNeg), .ref v3]) YL_pay 5 dL_law_2939 moL_pay msL_pay mlL_288 (okL_pay (d := d + 58) e760) rfl rfl [] rfl rfl (st2 := [.int t762]) rfl ?_
  refine J_istore dL_law_2942 (by decide) (ls' := [.retAddr 3000, .ref v1, .ref v2, .ref v3, .int v4, .int t762, Value.null]) rfl ?_
  refine J_aload_n 2 dL_law_2944 rfl rfl ?_
  refine J_aload_nT 0 dL_law_2945 rfl rfl ?_
  refine J_iload dL_law_2946 rfl ?_
  refine J_iconst (1 : Int32) dL_law_2948 kc_1 ?_
  refine J_iadd dL_law_2949 ?_
  obtain ⟨g763, H⟩ := gd H
  refine J_sld dL_law_2950 (inB_ok g763) ?_
  refine J_aload_nT 0 dL_law_2951 rfl rfl ?_
  refine J_iload dL_law_2952 rfl ?_
  refine J_iconst (2 : Int32) dL_law_2954 kc_2 ?_
  refine J_iadd dL_law_2955 ?_
  obtain ⟨g764, H⟩ := gd H
  refine J_sld dL_law_2956 (inB_ok g764) ?_
  refine J_aload_nT 0 dL_law_2957 rfl rfl ?_
  refine J_iload dL_law_2958 rfl ?_
  refine J_iconst (3 : Int32) dL_law_2960 kc_3 ?_
  refine J_iadd dL_law_2961 ?_
  obtain ⟨g765, H⟩ := gd H
  refine J_sld dL_law_2962 (inB_ok g765) ?_
  obtain ⟨g767, H⟩ := gd H
  obtain ⟨t769, h768, e766, H⟩ := b2_el H
  refine J_cV (as := [.int (xs (v4 + (1 : Int32)).toNatClampNeg), .int (xs (v4 + (2 : Int32)).toNatClampNeg), .int (xs (v4 + (3 : Int32)).toNatClampNeg)]) 11 YX12_pay 3 dL_law_2963 moX12_pay mvX12_pay mlL_290 g767 rfl rfl (okX12_pay (d := d + 62) e766) rfl rfl [] rfl rfl (st2 := [.int t769]) rfl ?_
  refine J_istore dL_law_2966 (by decide) (ls' := [.retAddr 3000, .ref v1, .ref v2, .ref v3, .int v4, .int t762, .int t769]) rfl ?_
  refine J_aload_n 2 dL_law_2968 rfl rfl ?_
  obtain ⟨g771, H⟩ := gd H
  obtain ⟨t772, e770, H⟩ := bd H
  refine J_cV (as := []) 11 YX12_thrown 0 dL_law_2969 moX12_thrown mvX12_thrown mlL_166 g771 rfl rfl (okX12_thrown (d := d + 64) e770) rfl rfl [] rfl rfl (st2 := [.int t772]) rfl ?_
  refine J_iload dL_law_2972 rfl ?_
  refine J_icmp_eq 2979 dL_law_2974 rfl (fun q773 => ?_) (fun q773 => ?_)
  · replace H := br1 q773 H
    refine J_iload dL_law_2979 rfl ?_
    refine J_if_ne 2996 dL_law_2981 rfl (fun q774 => ?_) (fun q774 => ?_)
    · replace H := br0 q774 H
      refine J_goto 3209 dL_law_2996 rfl ?_
      refine J_iinc (v4 + (6 : Int32)) dL_law_3209 rfl (congrArg (HAdd.hAdd v4) kc_6) (by decide) (ls' := [.retAddr 3000, .ref v1, .ref v2, .ref v3, .int (v4 + (6 : Int32)), .int t762, .int t769]) rfl ?_
      refine J_goto 23 dL_law_3212 rfl ?_
      cases H
      exact J_dr (hb0 _ rfl) ⟨rfl, ⟨rfl, ⟨rfl, ⟨rfl, ⟨rfl, trivial⟩⟩⟩⟩⟩
    · replace H := br1 q774 H
      refine J_aload_n 3 dL_law_2984 rfl rfl ?_
      refine J_iconst (0 : Int32) dL_law_2985 kc_0 ?_
      obtain ⟨g775, H⟩ := gd H
      obtain ⟨g776, H⟩ := gd H
      refine J_lald dL_law_2986 g775 (inB_ok g776) ?_
      refine J_iload dL_law_2987 rfl ?_
      refine J_i2l dL_law_2989 ?_
      refine J_lcmp' dL_law_2990 ?_
      refine J_if_eq 2996 dL_law_2991 rfl (fun q777 => ?_) (fun q777 => ?_)
      · replace H := br1 q777 H
        refine J_goto 3209 dL_law_2996 rfl ?_
        refine J_iinc (v4 + (6 : Int32)) dL_law_3209 rfl (congrArg (HAdd.hAdd v4) kc_6) (by decide) (ls' := [.retAddr 3000, .ref v1, .ref v2, .ref v3, .int (v4 + (6 : Int32)), .int t762, .int t769]) rfl ?_
        refine J_goto 23 dL_law_3212 rfl ?_
        cases H
        exact J_dr (hb0 _ rfl) ⟨rfl, ⟨rfl, ⟨rfl, ⟨rfl, ⟨rfl, trivial⟩⟩⟩⟩⟩
      · replace H := br0 q777 H
        refine J_iconst (0 : Int32) dL_law_2994 kc_0 ?_
        cases H
  · replace H := br0 q773 H
    refine J_iconst (0 : Int32) dL_law_2977 kc_0 ?_
    cases H
noncomputable def ML_law_2999 (L : Nat) (xs : Nat → Int32) (h : Hp) (v1 : Nat) (v2 : Nat) (v3 : Nat) (v4 : Int32) : Option ((Int32 × Hp) ⊕ (Int32 × Hp)) :=
  gg (β := ((Int32 × Hp) ⊕ (Int32 × Hp))) (inB (v4 + (1 : Int32)) L = true) <|
  gg (β := ((Int32 × Hp) ⊕ (Int32 × Hp))) (inB (v4 + (2 : Int32)) L = true) <|
  b2 (α := Int32) (β := Hp) (γ := ((Int32 × Hp) ⊕ (Int32 × Hp))) (ML_row h v1 (xs (v4 + (1 : Int32)).toNatClampNeg) (xs (v4 + (2 : Int32)).toNatClampNeg) v3) fun (t782 : Int32) (h781 : Hp) =>
  gg (β := ((Int32 × Hp) ⊕ (Int32 × Hp))) (inB (v4 + (1 : Int32)) L = true) <|
  gg (β := ((Int32 × Hp) ⊕ (Int32 × Hp))) (inB (v4 + (2 : Int32)) L = true) <|
  gg (β := ((Int32 × Hp) ⊕ (Int32 × Hp))) (kd h781 v2 = 11) <|
  b2 (α := Int32) (β := Hp) (γ := ((Int32 × Hp) ⊕ (Int32 × Hp))) (MX12_row h781 v2 (xs (v4 + (1 : Int32)).toNatClampNeg) (xs (v4 + (2 : Int32)).toNatClampNeg)) fun (t788 : Int32) (h787 : Hp) =>
  gg (β := ((Int32 × Hp) ⊕ (Int32 × Hp))) (kd h787 v2 = 11) <|
  Option.bind (α := Int32) (β := ((Int32 × Hp) ⊕ (Int32 × Hp))) (MX12_thrown h787 v2) fun (t791 : Int32) =>
  if t791 = t782 then
    if t782 = 0 then
      gg (β := ((Int32 × Hp) ⊕ (Int32 × Hp))) (kd h787 v3 = 23) <|
      gg (β := ((Int32 × Hp) ⊕ (Int32 × Hp))) (inB (0 : Int32) (ln h787 v3) = true) <|
      if (lgc (gI h787 v3 (0 : Int32).toNatClampNeg) t788) = 0 then
        some (.inl ((v4 + (6 : Int32)), h787))
      else
        none
    else
      some (.inl ((v4 + (6 : Int32)), h787))
  else
    none
set_option maxRecDepth 100000 in
set_option maxHeartbeats 8000000 in
theorem kL_law_2999 {d : Nat} {L : Nat} {xs : Nat → Int32} {h : Hp} {v1 : Nat} {v2 : Nat} {v3 : Nat} {v4 : Int32} {r : Int32} {h9 : Hp} {x : ((Int32 × Hp) ⊕ (Int32 × Hp))} (H : ML_law_2999 L xs h v1 v2 v3 v4 = some x) (hb0 : ∀ s : Int32 × Hp, x = .inl s → JP (PL L xs) (d + 65) YL_law 23 [.retAddr 3000, .ref v1, .ref v2, .ref v3, .int s.1, Value.null, Value.null] [] s.2 (oI r) h9) (hx : ∀ z : (Int32 × Hp), x = .inr (z) → z = (r, h9)) : JP (PL L xs) (d + 65) YL_law 2999 [.retAddr 3000, .ref v1, .ref v2, .ref v3, .int v4, Value.null, Value.null] [] h (oI r) h9 := by
  unfold ML_law_2999 at H
  refine J_aload_n 1 dL_law_2999 rfl rfl ?_
  refine J_aload_nT 0 dL_law_3000 rfl rfl ?_
  refine J_iload dL_law_3001 rfl ?_
  refine J_iconst (1 : Int32) dL_law_3003 kc_1 ?_
  refine J_iadd dL_law_3004 ?_
  obtain ⟨g778, H⟩ := gd H
  refine J_sld dL_law_3005 (inB_ok g778) ?_
  refine J_aload_nT 0 dL_law_3006 rfl rfl ?_
  refine J_iload dL_law_3007 rfl ?_
  refine J_iconst (2 : Int32) dL_law_3009 kc_2 ?_
  refine J_iadd dL_law_3010 ?_
  obtain ⟨g779, H⟩ := gd H
  refine J_sld dL_law_3011 (inB_ok g779) ?_
  refine J_aload_n 3 dL_law_3012 rfl rfl ?_
  obtain ⟨t782, h781, e780, H⟩ := b2_el H
  refine J_cSW (hh := hhL_row) (as := [.ref v1, .int (xs (v4 + (1 : Int32)).toNatClampNeg), .int (xs (v4 + (2 : Int32)).toNatClampNeg), .ref v3]) YL_row 4 dL_law_3013 moL_row msL_row mlL_291 (okL_row (d := d + 61) e780) rfl rfl [] rfl rfl (st2 := [.int t782]) rfl ?_
  refine J_istore dL_law_3016 (by decide) (ls' := [.retAddr 3000, .ref v1, .ref v2, .ref v3, .int v4, .int t782, Value.null]) rfl ?_
  refine J_aload_n 2 dL_law_3018 rfl rfl ?_
  refine J_aload_nT 0 dL_law_3019 rfl rfl ?_
  refine J_iload dL_law_3020 rfl ?_
  refine J_iconst (1 : Int32) dL_law_3022 kc_1 ?_
  refine J_iadd dL_law_3023 ?_
  obtain ⟨g783, H⟩ := gd H
  refine J_sld dL_law_3024 (inB_ok g783) ?_
  refine J_aload_nT 0 dL_law_3025 rfl rfl ?_
  refine J_iload dL_law_3026 rfl ?_
  refine J_iconst (2 : Int32) dL_law_3028 kc_2 ?_
  refine J_iadd dL_law_3029 ?_
  obtain ⟨g784, H⟩ := gd H
  refine J_sld dL_law_3030 (inB_ok g784) ?_
  obtain ⟨g786, H⟩ := gd H
  obtain ⟨t788, h787, e785, H⟩ := b2_el H
  refine J_cV (as := [.int (xs (v4 + (1 : Int32)).toNatClampNeg), .int (xs (v4 + (2 : Int32)).toNatClampNeg)]) 11 YX12_row 2 dL_law_3031 moX12_row mvX12_row mlL_293 g786 rfl rfl (okX12_row (d := d + 62) e785) rfl rfl [] rfl rfl (st2 := [.int t788]) rfl ?_
  refine J_istore dL_law_3034 (by decide) (ls' := [.retAddr 3000, .ref v1, .ref v2, .ref v3, .int v4, .int t782, .int t788]) rfl ?_
  refine J_aload_n 2 dL_law_3036 rfl rfl ?_
  obtain ⟨g790, H⟩ := gd H
  obtain ⟨t791, e789, H⟩ := bd H
  refine J_cV (as := []) 11 YX12_thrown 0 dL_law_3037 moX12_thrown mvX12_thrown mlL_166 g790 rfl rfl (okX12_thrown (d := d + 64) e789) rfl rfl [] rfl rfl (st2 := [.int t791]) rfl ?_
  refine J_iload dL_law_3040 rfl ?_
  refine J_icmp_eq 3047 dL_law_3042 rfl (fun q792 => ?_) (fun q792 => ?_)
  · replace H := br1 q792 H
    refine J_iload dL_law_3047 rfl ?_
    refine J_if_ne 3064 dL_law_3049 rfl (fun q793 => ?_) (fun q793 => ?_)
    · replace H := br0 q793 H
      refine J_goto 3209 dL_law_3064 rfl ?_
      refine J_iinc (v4 + (6 : Int32)) dL_law_3209 rfl (congrArg (HAdd.hAdd v4) kc_6) (by decide) (ls' := [.retAddr 3000, .ref v1, .ref v2, .ref v3, .int (v4 + (6 : Int32)), .int t782, .int t788]) rfl ?_
      refine J_goto 23 dL_law_3212 rfl ?_
      cases H
      exact J_dr (hb0 _ rfl) ⟨rfl, ⟨rfl, ⟨rfl, ⟨rfl, ⟨rfl, trivial⟩⟩⟩⟩⟩
    · replace H := br1 q793 H
      refine J_aload_n 3 dL_law_3052 rfl rfl ?_
      refine J_iconst (0 : Int32) dL_law_3053 kc_0 ?_
      obtain ⟨g794, H⟩ := gd H
      obtain ⟨g795, H⟩ := gd H
      refine J_lald dL_law_3054 g794 (inB_ok g795) ?_
      refine J_iload dL_law_3055 rfl ?_
      refine J_i2l dL_law_3057 ?_
      refine J_lcmp' dL_law_3058 ?_
      refine J_if_eq 3064 dL_law_3059 rfl (fun q796 => ?_) (fun q796 => ?_)
      · replace H := br1 q796 H
        refine J_goto 3209 dL_law_3064 rfl ?_
        refine J_iinc (v4 + (6 : Int32)) dL_law_3209 rfl (congrArg (HAdd.hAdd v4) kc_6) (by decide) (ls' := [.retAddr 3000, .ref v1, .ref v2, .ref v3, .int (v4 + (6 : Int32)), .int t782, .int t788]) rfl ?_
        refine J_goto 23 dL_law_3212 rfl ?_
        cases H
        exact J_dr (hb0 _ rfl) ⟨rfl, ⟨rfl, ⟨rfl, ⟨rfl, ⟨rfl, trivial⟩⟩⟩⟩⟩
      · replace H := br0 q796 H
        refine J_iconst (0 : Int32) dL_law_3062 kc_0 ?_
        cases H
  · replace H := br0 q792 H
    refine J_iconst (0 : Int32) dL_law_3045 kc_0 ?_
    cases H
noncomputable def ML_law_3067 (L : Nat) (xs : Nat → Int32) (h : Hp) (v1 : Nat) (v2 : Nat) (v3 : Nat) (v4 : Int32) : Option ((Int32 × Hp) ⊕ (Int32 × Hp)) :=
  gg (β := ((Int32 × Hp) ⊕ (Int32 × Hp))) (inB (v4 + (1 : Int32)) L = true) <|
  gg (β := ((Int32 × Hp) ⊕ (Int32 × Hp))) (inB (v4 + (2 : Int32)) L = true) <|
  gg (β := ((Int32 × Hp) ⊕ (Int32 × Hp))) (inB (v4 + (3 : Int32)) L = true) <|
  b2 (α := Int32) (β := Hp) (γ := ((Int32 × Hp) ⊕ (Int32 × Hp))) (ML_tear h v1 (xs (v4 + (1 : Int32)).toNatClampNeg) (xs (v4 + (2 : Int32)).toNatClampNeg) (xs (v4 + (3 : Int32)).toNatClampNeg) v3) fun (t802 : Int32) (h801 : Hp) =>
  gg (β := ((Int32 × Hp) ⊕ (Int32 × Hp))) (inB (v4 + (1 : Int32)) L = true) <|
  gg (β := ((Int32 × Hp) ⊕ (Int32 × Hp))) (inB (v4 + (2 : Int32)) L = true) <|
  gg (β := ((Int32 × Hp) ⊕ (Int32 × Hp))) (inB (v4 + (3 : Int32)) L = true) <|
  gg (β := ((Int32 × Hp) ⊕ (Int32 × Hp))) (kd h801 v2 = 11) <|
  b2 (α := Int32) (β := Hp) (γ := ((Int32 × Hp) ⊕ (Int32 × Hp))) (MX12_tear h801 v2 (xs (v4 + (1 : Int32)).toNatClampNeg) (xs (v4 + (2 : Int32)).toNatClampNeg) (xs (v4 + (3 : Int32)).toNatClampNeg)) fun (t809 : Int32) (h808 : Hp) =>
  gg (β := ((Int32 × Hp) ⊕ (Int32 × Hp))) (kd h808 v2 = 11) <|
  Option.bind (α := Int32) (β := ((Int32 × Hp) ⊕ (Int32 × Hp))) (MX12_thrown h808 v2) fun (t812 : Int32) =>
  if t812 = t802 then
    if t802 = 0 then
      gg (β := ((Int32 × Hp) ⊕ (Int32 × Hp))) (kd h808 v3 = 23) <|
      gg (β := ((Int32 × Hp) ⊕ (Int32 × Hp))) (inB (0 : Int32) (ln h808 v3) = true) <|
      if (lgc (gI h808 v3 (0 : Int32).toNatClampNeg) t809) = 0 then
        some (.inl ((v4 + (6 : Int32)), h808))
      else
        none
    else
      some (.inl ((v4 + (6 : Int32)), h808))
  else
    none
set_option maxRecDepth 100000 in
set_option maxHeartbeats 8000000 in
theorem kL_law_3067 {d : Nat} {L : Nat} {xs : Nat → Int32} {h : Hp} {v1 : Nat} {v2 : Nat} {v3 : Nat} {v4 : Int32} {r : Int32} {h9 : Hp} {x : ((Int32 × Hp) ⊕ (Int32 × Hp))} (H : ML_law_3067 L xs h v1 v2 v3 v4 = some x) (hb0 : ∀ s : Int32 × Hp, x = .inl s → JP (PL L xs) (d + 65) YL_law 23 [.retAddr 3000, .ref v1, .ref v2, .ref v3, .int s.1, Value.null, Value.null] [] s.2 (oI r) h9) (hx : ∀ z : (Int32 × Hp), x = .inr (z) → z = (r, h9)) : JP (PL L xs) (d + 65) YL_law 3067 [.retAddr 3000, .ref v1, .ref v2, .ref v3, .int v4, Value.null, Value.null] [] h (oI r) h9 := by
  unfold ML_law_3067 at H
  refine J_aload_n 1 dL_law_3067 rfl rfl ?_
  refine J_aload_nT 0 dL_law_3068 rfl rfl ?_
  refine J_iload dL_law_3069 rfl ?_
  refine J_iconst (1 : Int32) dL_law_3071 kc_1 ?_
  refine J_iadd dL_law_3072 ?_
  obtain ⟨g797, H⟩ := gd H
  refine J_sld dL_law_3073 (inB_ok g797) ?_
  refine J_aload_nT 0 dL_law_3074 rfl rfl ?_
  refine J_iload dL_law_3075 rfl ?_
  refine J_iconst (2 : Int32) dL_law_3077 kc_2 ?_
  refine J_iadd dL_law_3078 ?_
  obtain ⟨g798, H⟩ := gd H
  refine J_sld dL_law_3079 (inB_ok g798) ?_
  refine J_aload_nT 0 dL_law_3080 rfl rfl ?_
  refine J_iload dL_law_3081 rfl ?_
  refine J_iconst (3 : Int32) dL_law_3083 kc_3 ?_
  refine J_iadd dL_law_3084 ?_
  obtain ⟨g799, H⟩ := gd H
  refine J_sld dL_law_3085 (inB_ok g799) ?_
  refine J_aload_n 3 dL_law_3086 rfl rfl ?_
  obtain ⟨t802, h801, e800, H⟩ := b2_el H
  refine J_cSW (hh := hhL_tear) (as := [.ref v1, .int (xs (v4 + (1 : Int32)).toNatClampNeg), .int (xs (v4 + (2 : Int32)).toNatClampNeg), .int (xs (v4 + (3 : Int32)).toNatClampNeg), .ref v3]) YL_tear 5 dL_law_3087 moL_tear msL_tear mlL_294 (okL_tear (d := d + 61) e800) rfl rfl [] rfl rfl (st2 := [.int t802]) rfl ?_
  refine J_istore dL_law_3090 (by decide) (ls' := [.retAddr 3000, .ref v1, .ref v2, .ref v3, .int v4, .int t802, Value.null]) rfl ?_
  refine J_aload_n 2 dL_law_3092 rfl rfl ?_
  refine J_aload_nT 0 dL_law_3093 rfl rfl ?_
  refine J_iload dL_law_3094 rfl ?_
  refine J_iconst (1 : Int32) dL_law_3096 kc_1 ?_
  refine J_iadd dL_law_3097 ?_
  obtain ⟨g803, H⟩ := gd H
  refine J_sld dL_law_3098 (inB_ok g803) ?_
  refine J_aload_nT 0 dL_law_3099 rfl rfl ?_
  refine J_iload dL_law_3100 rfl ?_
  refine J_iconst (2 : Int32) dL_law_3102 kc_2 ?_
  refine J_iadd dL_law_3103 ?_
  obtain ⟨g804, H⟩ := gd H
  refine J_sld dL_law_3104 (inB_ok g804) ?_
  refine J_aload_nT 0 dL_law_3105 rfl rfl ?_
  refine J_iload dL_law_3106 rfl ?_
  refine J_iconst (3 : Int32) dL_law_3108 kc_3 ?_
  refine J_iadd dL_law_3109 ?_
  obtain ⟨g805, H⟩ := gd H
  refine J_sld dL_law_3110 (inB_ok g805) ?_
  obtain ⟨g807, H⟩ := gd H
  obtain ⟨t809, h808, e806, H⟩ := b2_el H
  refine J_cV (as := [.int (xs (v4 + (1 : Int32)).toNatClampNeg), .int (xs (v4 + (2 : Int32)).toNatClampNeg), .int (xs (v4 + (3 : Int32)).toNatClampNeg)]) 11 YX12_tear 3 dL_law_3111 moX12_tear mvX12_tear mlL_296 g807 rfl rfl (okX12_tear (d := d + 62) e806) rfl rfl [] rfl rfl (st2 := [.int t809]) rfl ?_
  refine J_istore dL_law_3114 (by decide) (ls' := [.retAddr 3000, .ref v1, .ref v2, .ref v3, .int v4, .int t802, .int t809]) rfl ?_
  refine J_aload_n 2 dL_law_3116 rfl rfl ?_
  obtain ⟨g811, H⟩ := gd H
  obtain ⟨t812, e810, H⟩ := bd H
  refine J_cV (as := []) 11 YX12_thrown 0 dL_law_3117 moX12_thrown mvX12_thrown mlL_166 g811 rfl rfl (okX12_thrown (d := d + 64) e810) rfl rfl [] rfl rfl (st2 := [.int t812]) rfl ?_
  refine J_iload dL_law_3120 rfl ?_
  refine J_icmp_eq 3127 dL_law_3122 rfl (fun q813 => ?_) (fun q813 => ?_)
  · replace H := br1 q813 H
    refine J_iload dL_law_3127 rfl ?_
    refine J_if_ne 3144 dL_law_3129 rfl (fun q814 => ?_) (fun q814 => ?_)
    · replace H := br0 q814 H
      refine J_goto 3209 dL_law_3144 rfl ?_
      refine J_iinc (v4 + (6 : Int32)) dL_law_3209 rfl (congrArg (HAdd.hAdd v4) kc_6) (by decide) (ls' := [.retAddr 3000, .ref v1, .ref v2, .ref v3, .int (v4 + (6 : Int32)), .int t802, .int t809]) rfl ?_
      refine J_goto 23 dL_law_3212 rfl ?_
      cases H
      exact J_dr (hb0 _ rfl) ⟨rfl, ⟨rfl, ⟨rfl, ⟨rfl, ⟨rfl, trivial⟩⟩⟩⟩⟩
    · replace H := br1 q814 H
      refine J_aload_n 3 dL_law_3132 rfl rfl ?_
      refine J_iconst (0 : Int32) dL_law_3133 kc_0 ?_
      obtain ⟨g815, H⟩ := gd H
      obtain ⟨g816, H⟩ := gd H
      refine J_lald dL_law_3134 g815 (inB_ok g816) ?_
      refine J_iload dL_law_3135 rfl ?_
      refine J_i2l dL_law_3137 ?_
      refine J_lcmp' dL_law_3138 ?_
      refine J_if_eq 3144 dL_law_3139 rfl (fun q817 => ?_) (fun q817 => ?_)
      · replace H := br1 q817 H
        refine J_goto 3209 dL_law_3144 rfl ?_
        refine J_iinc (v4 + (6 : Int32)) dL_law_3209 rfl (congrArg (HAdd.hAdd v4) kc_6) (by decide) (ls' := [.retAddr 3000, .ref v1, .ref v2, .ref v3, .int (v4 + (6 : Int32)), .int t802, .int t809]) rfl ?_
        refine J_goto 23 dL_law_3212 rfl ?_
        cases H
        exact J_dr (hb0 _ rfl) ⟨rfl, ⟨rfl, ⟨rfl, ⟨rfl, ⟨rfl, trivial⟩⟩⟩⟩⟩
      · replace H := br0 q817 H
        refine J_iconst (0 : Int32) dL_law_3142 kc_0 ?_
        cases H
  · replace H := br0 q813 H
    refine J_iconst (0 : Int32) dL_law_3125 kc_0 ?_
    cases H
noncomputable def ML_law_3147 (L : Nat) (xs : Nat → Int32) (h : Hp) (v1 : Nat) (v2 : Nat) (v3 : Nat) (v4 : Int32) : Option ((Int32 × Hp) ⊕ (Int32 × Hp)) :=
  gg (β := ((Int32 × Hp) ⊕ (Int32 × Hp))) (kd h v1 = 10) <|
  Option.bind (α := Int32) (β := ((Int32 × Hp) ⊕ (Int32 × Hp))) (MX11_check h v1) fun (t820 : Int32) =>
  gg (β := ((Int32 × Hp) ⊕ (Int32 × Hp))) (kd h v2 = 11) <|
  b2 (α := Int32) (β := Hp) (γ := ((Int32 × Hp) ⊕ (Int32 × Hp))) (MX12_check h v2) fun (t824 : Int32) (h823 : Hp) =>
  if t820 = t824 then
    some (.inl ((v4 + (6 : Int32)), h823))
  else
    none
set_option maxRecDepth 100000 in
set_option maxHeartbeats 8000000 in
theorem kL_law_3147 {d : Nat} {L : Nat} {xs : Nat → Int32} {h : Hp} {v1 : Nat} {v2 : Nat} {v3 : Nat} {v4 : Int32} {r : Int32} {h9 : Hp} {x : ((Int32 × Hp) ⊕ (Int32 × Hp))} (H : ML_law_3147 L xs h v1 v2 v3 v4 = some x) (hb0 : ∀ s : Int32 × Hp, x = .inl s → JP (PL L xs) (d + 65) YL_law 23 [.retAddr 3000, .ref v1, .ref v2, .ref v3, .int s.1, Value.null, Value.null] [] s.2 (oI r) h9) (hx : ∀ z : (Int32 × Hp), x = .inr (z) → z = (r, h9)) : JP (PL L xs) (d + 65) YL_law 3147 [.retAddr 3000, .ref v1, .ref v2, .ref v3, .int v4, Value.null, Value.null] [] h (oI r) h9 := by
  unfold ML_law_3147 at H
  refine J_aload_n 1 dL_law_3147 rfl rfl ?_
  obtain ⟨g819, H⟩ := gd H
  obtain ⟨t820, e818, H⟩ := bd H
  refine J_cV (as := []) 10 YX11_check 0 dL_law_3148 moX11_check mvX11_check mlL_297 g819 rfl rfl (okX11_check (d := d + 62) e818) rfl rfl [] rfl rfl (st2 := [.int t820]) rfl ?_
  refine J_aload_n 2 dL_law_3151 rfl rfl ?_
  obtain ⟨g822, H⟩ := gd H
  obtain ⟨t824, h823, e821, H⟩ := b2_el H
  refine J_cV (as := []) 11 YX12_check 0 dL_law_3152 moX12_check mvX12_check mlL_300 g822 rfl rfl (okX12_check (d := d + 63) e821) rfl rfl [.int t820] rfl rfl (st2 := [.int t824, .int t820]) rfl ?_
  refine J_icmp_eq 3209 dL_law_3155 rfl (fun q825 => ?_) (fun q825 => ?_)
  · replace H := br1 q825 H
    refine J_iinc (v4 + (6 : Int32)) dL_law_3209 rfl (congrArg (HAdd.hAdd v4) kc_6) (by decide) (ls' := [.retAddr 3000, .ref v1, .ref v2, .ref v3, .int (v4 + (6 : Int32)), Value.null, Value.null]) rfl ?_
    refine J_goto 23 dL_law_3212 rfl ?_
    cases H
    exact J_dr (hb0 _ rfl) ⟨rfl, ⟨rfl, ⟨rfl, ⟨rfl, ⟨rfl, trivial⟩⟩⟩⟩⟩
  · replace H := br0 q825 H
    refine J_iconst (0 : Int32) dL_law_3158 kc_0 ?_
    cases H
noncomputable def ML_law_3160 (L : Nat) (xs : Nat → Int32) (h : Hp) (v1 : Nat) (v2 : Nat) (v3 : Nat) (v4 : Int32) : Option ((Int32 × Hp) ⊕ (Int32 × Hp)) :=
  gg (β := ((Int32 × Hp) ⊕ (Int32 × Hp))) (kd h v1 = 10) <|
  Option.bind (α := Hp) (β := ((Int32 × Hp) ⊕ (Int32 × Hp))) (MX11_image h v1) fun (h828 : Hp) =>
  gg (β := ((Int32 × Hp) ⊕ (Int32 × Hp))) (kd h828 v2 = 11) <|
  Option.bind (α := Hp) (β := ((Int32 × Hp) ⊕ (Int32 × Hp))) (MX12_image h828 v2) fun (h831 : Hp) =>
  some (.inl ((v4 + (6 : Int32)), h831))
set_option maxRecDepth 100000 in
set_option maxHeartbeats 8000000 in
theorem kL_law_3160 {d : Nat} {L : Nat} {xs : Nat → Int32} {h : Hp} {v1 : Nat} {v2 : Nat} {v3 : Nat} {v4 : Int32} {r : Int32} {h9 : Hp} {x : ((Int32 × Hp) ⊕ (Int32 × Hp))} (H : ML_law_3160 L xs h v1 v2 v3 v4 = some x) (hb0 : ∀ s : Int32 × Hp, x = .inl s → JP (PL L xs) (d + 65) YL_law 23 [.retAddr 3000, .ref v1, .ref v2, .ref v3, .int s.1, Value.null, Value.null] [] s.2 (oI r) h9) (hx : ∀ z : (Int32 × Hp), x = .inr (z) → z = (r, h9)) : JP (PL L xs) (d + 65) YL_law 3160 [.retAddr 3000, .ref v1, .ref v2, .ref v3, .int v4, Value.null, Value.null] [] h (oI r) h9 := by
  unfold ML_law_3160 at H
  refine J_aload_n 1 dL_law_3160 rfl rfl ?_
  obtain ⟨g827, H⟩ := gd H
  obtain ⟨h828, e826, H⟩ := bd H
  refine J_cV (as := []) 10 YX11_image 0 dL_law_3161 moX11_image mvX11_image mlL_301 g827 rfl rfl (okX11_image (d := d + 60) e826) rfl rfl [] rfl rfl (st2 := []) rfl ?_
  refine J_aload_n 2 dL_law_3164 rfl rfl ?_
  obtain ⟨g830, H⟩ := gd H
  obtain ⟨h831, e829, H⟩ := bd H
  refine J_cV (as := []) 11 YX12_image 0 dL_law_3165 moX12_image mvX12_image mlL_304 g830 rfl rfl (okX12_image (d := d + 64) e829) rfl rfl [] rfl rfl (st2 := []) rfl ?_
  refine J_goto 3209 dL_law_3168 rfl ?_
  refine J_iinc (v4 + (6 : Int32)) dL_law_3209 rfl (congrArg (HAdd.hAdd v4) kc_6) (by decide) (ls' := [.retAddr 3000, .ref v1, .ref v2, .ref v3, .int (v4 + (6 : Int32)), Value.null, Value.null]) rfl ?_
  refine J_goto 23 dL_law_3212 rfl ?_
  cases H
  exact J_dr (hb0 _ rfl) ⟨rfl, ⟨rfl, ⟨rfl, ⟨rfl, ⟨rfl, trivial⟩⟩⟩⟩⟩
noncomputable def ML_law_3171 (L : Nat) (xs : Nat → Int32) (h : Hp) (v1 : Nat) (v2 : Nat) (v3 : Nat) (v4 : Int32) : Option ((Int32 × Hp) ⊕ (Int32 × Hp)) :=
  gg (β := ((Int32 × Hp) ⊕ (Int32 × Hp))) (kd h v1 = 10) <|
  b2 (α := Int32) (β := Hp) (γ := ((Int32 × Hp) ⊕ (Int32 × Hp))) (MX11_back h v1) fun (t835 : Int32) (h834 : Hp) =>
  gg (β := ((Int32 × Hp) ⊕ (Int32 × Hp))) (kd h834 v2 = 11) <|
  b2 (α := Int32) (β := Hp) (γ := ((Int32 × Hp) ⊕ (Int32 × Hp))) (MX12_back h834 v2) fun (t839 : Int32) (h838 : Hp) =>
  if t835 = t839 then
    some (.inl ((v4 + (6 : Int32)), h838))
  else
    none
set_option maxRecDepth 100000 in
set_option maxHeartbeats 8000000 in
theorem kL_law_3171 {d : Nat} {L : Nat} {xs : Nat → Int32} {h : Hp} {v1 : Nat} {v2 : Nat} {v3 : Nat} {v4 : Int32} {r : Int32} {h9 : Hp} {x : ((Int32 × Hp) ⊕ (Int32 × Hp))} (H : ML_law_3171 L xs h v1 v2 v3 v4 = some x) (hb0 : ∀ s : Int32 × Hp, x = .inl s → JP (PL L xs) (d + 65) YL_law 23 [.retAddr 3000, .ref v1, .ref v2, .ref v3, .int s.1, Value.null, Value.null] [] s.2 (oI r) h9) (hx : ∀ z : (Int32 × Hp), x = .inr (z) → z = (r, h9)) : JP (PL L xs) (d + 65) YL_law 3171 [.retAddr 3000, .ref v1, .ref v2, .ref v3, .int v4, Value.null, Value.null] [] h (oI r) h9 := by
  unfold ML_law_3171 at H
  refine J_aload_n 1 dL_law_3171 rfl rfl ?_
  obtain ⟨g833, H⟩ := gd H
  obtain ⟨t835, h834, e832, H⟩ := b2_el H
  refine J_cV (as := []) 10 YX11_back 0 dL_law_3172 moX11_back mvX11_back mlL_305 g833 rfl rfl (okX11_back (d := d + 60) e832) rfl rfl [] rfl rfl (st2 := [.int t835]) rfl ?_
  refine J_aload_n 2 dL_law_3175 rfl rfl ?_
  obtain ⟨g837, H⟩ := gd H
  obtain ⟨t839, h838, e836, H⟩ := b2_el H
  refine J_cV (as := []) 11 YX12_back 0 dL_law_3176 moX12_back mvX12_back mlL_309 g837 rfl rfl (okX12_back (d := d + 64) e836) rfl rfl [.int t835] rfl rfl (st2 := [.int t839, .int t835]) rfl ?_
  refine J_icmp_eq 3209 dL_law_3179 rfl (fun q840 => ?_) (fun q840 => ?_)
  · replace H := br1 q840 H
    refine J_iinc (v4 + (6 : Int32)) dL_law_3209 rfl (congrArg (HAdd.hAdd v4) kc_6) (by decide) (ls' := [.retAddr 3000, .ref v1, .ref v2, .ref v3, .int (v4 + (6 : Int32)), Value.null, Value.null]) rfl ?_
    refine J_goto 23 dL_law_3212 rfl ?_
    cases H
    exact J_dr (hb0 _ rfl) ⟨rfl, ⟨rfl, ⟨rfl, ⟨rfl, ⟨rfl, trivial⟩⟩⟩⟩⟩
  · replace H := br0 q840 H
    refine J_iconst (0 : Int32) dL_law_3182 kc_0 ?_
    cases H
noncomputable def ML_law_3184 (L : Nat) (xs : Nat → Int32) (h : Hp) (v1 : Nat) (v2 : Nat) (v3 : Nat) (v4 : Int32) : Option ((Int32 × Hp) ⊕ (Int32 × Hp)) :=
  gg (β := ((Int32 × Hp) ⊕ (Int32 × Hp))) (inB (v4 + (1 : Int32)) L = true) <|
  gg (β := ((Int32 × Hp) ⊕ (Int32 × Hp))) (kd h v1 = 10) <|
  b2 (α := Int32) (β := Hp) (γ := ((Int32 × Hp) ⊕ (Int32 × Hp))) (MX11_count h v1 (xs (v4 + (1 : Int32)).toNatClampNeg)) fun (t845 : Int32) (h844 : Hp) =>
  gg (β := ((Int32 × Hp) ⊕ (Int32 × Hp))) (inB (v4 + (1 : Int32)) L = true) <|
  gg (β := ((Int32 × Hp) ⊕ (Int32 × Hp))) (kd h844 v2 = 11) <|
  b2 (α := Int32) (β := Hp) (γ := ((Int32 × Hp) ⊕ (Int32 × Hp))) (MX12_count h844 v2 (xs (v4 + (1 : Int32)).toNatClampNeg)) fun (t850 : Int32) (h849 : Hp) =>
  if t845 = t850 then
    some (.inl ((v4 + (6 : Int32)), h849))
  else
    none
set_option maxRecDepth 100000 in
set_option maxHeartbeats 8000000 in
theorem kL_law_3184 {d : Nat} {L : Nat} {xs : Nat → Int32} {h : Hp} {v1 : Nat} {v2 : Nat} {v3 : Nat} {v4 : Int32} {r : Int32} {h9 : Hp} {x : ((Int32 × Hp) ⊕ (Int32 × Hp))} (H : ML_law_3184 L xs h v1 v2 v3 v4 = some x) (hb0 : ∀ s : Int32 × Hp, x = .inl s → JP (PL L xs) (d + 65) YL_law 23 [.retAddr 3000, .ref v1, .ref v2, .ref v3, .int s.1, Value.null, Value.null] [] s.2 (oI r) h9) (hx : ∀ z : (Int32 × Hp), x = .inr (z) → z = (r, h9)) : JP (PL L xs) (d + 65) YL_law 3184 [.retAddr 3000, .ref v1, .ref v2, .ref v3, .int v4, Value.null, Value.null] [] h (oI r) h9 := by
  unfold ML_law_3184 at H
  refine J_aload_n 1 dL_law_3184 rfl rfl ?_
  refine J_aload_nT 0 dL_law_3185 rfl rfl ?_
  refine J_iload dL_law_3186 rfl ?_
  refine J_iconst (1 : Int32) dL_law_3188 kc_1 ?_
  refine J_iadd dL_law_3189 ?_
  obtain ⟨g841, H⟩ := gd H
  refine J_sld dL_law_3190 (inB_ok g841) ?_
  obtain ⟨g843, H⟩ := gd H
  obtain ⟨t845, h844, e842, H⟩ := b2_el H
  refine J_cV (as := [.int (xs (v4 + (1 : Int32)).toNatClampNeg)]) 10 YX11_count 1 dL_law_3191 moX11_count mvX11_count mlL_310 g843 rfl rfl (okX11_count (d := d + 60) e842) rfl rfl [] rfl rfl (st2 := [.int t845]) rfl ?_
  refine J_aload_n 2 dL_law_3194 rfl rfl ?_
  refine J_aload_nT 0 dL_law_3195 rfl rfl ?_
  refine J_iload dL_law_3196 rfl ?_
  refine J_iconst (1 : Int32) dL_law_3198 kc_1 ?_
  refine J_iadd dL_law_3199 ?_
  obtain ⟨g846, H⟩ := gd H
  refine J_sld dL_law_3200 (inB_ok g846) ?_
  obtain ⟨g848, H⟩ := gd H
  obtain ⟨t850, h849, e847, H⟩ := b2_el H
  refine J_cV (as := [.int (xs (v4 + (1 : Int32)).toNatClampNeg)]) 11 YX12_count 1 dL_law_3201 moX12_count mvX12_count mlL_313 g848 rfl rfl (okX12_count (d := d + 62) e847) rfl rfl [.int t845] rfl rfl (st2 := [.int t850, .int t845]) rfl ?_
  refine J_icmp_eq 3209 dL_law_3204 rfl (fun q851 => ?_) (fun q851 => ?_)
  · replace H := br1 q851 H
    refine J_iinc (v4 + (6 : Int32)) dL_law_3209 rfl (congrArg (HAdd.hAdd v4) kc_6) (by decide) (ls' := [.retAddr 3000, .ref v1, .ref v2, .ref v3, .int (v4 + (6 : Int32)), Value.null, Value.null]) rfl ?_
    refine J_goto 23 dL_law_3212 rfl ?_
    cases H
    exact J_dr (hb0 _ rfl) ⟨rfl, ⟨rfl, ⟨rfl, ⟨rfl, ⟨rfl, trivial⟩⟩⟩⟩⟩
  · replace H := br0 q851 H
    refine J_iconst (0 : Int32) dL_law_3207 kc_0 ?_
    cases H
noncomputable def BL_law_23 (L : Nat) (xs : Nat → Int32) (h : Hp) (v1 : Nat) (v2 : Nat) (v3 : Nat) (v4 : Int32) : Option ((Int32 × Hp) ⊕ (Int32 × Hp)) :=
  if ((nI L) - (6 : Int32)) < v4 then
    gg (β := ((Int32 × Hp) ⊕ (Int32 × Hp))) ((nc h).ble room_1.cells = true) <|
    gg (β := ((Int32 × Hp) ⊕ (Int32 × Hp))) ((ns h).ble room_1.slots = true) <|
    some (.inr (((1 : Int32), bmp h (room_1.cells - nc h) (room_1.slots - ns h))))
  else
    gg (β := ((Int32 × Hp) ⊕ (Int32 × Hp))) (inB v4 L = true) <|
    if ((xs v4.toNatClampNeg) &&& (63 : Int32)) = (0 : Int32) then
      ML_law_244 L xs h v1 v2 v3 v4
    else
    if ((xs v4.toNatClampNeg) &&& (63 : Int32)) = (1 : Int32) then
      ML_law_317 L xs h v1 v2 v3 v4
    else
    if ((xs v4.toNatClampNeg) &&& (63 : Int32)) = (2 : Int32) then
      ML_law_342 L xs h v1 v2 v3 v4
    else
    if ((xs v4.toNatClampNeg) &&& (63 : Int32)) = (3 : Int32) then
      ML_law_402 L xs h v1 v2 v3 v4
    else
    if ((xs v4.toNatClampNeg) &&& (63 : Int32)) = (4 : Int32) then
      ML_law_470 L xs h v1 v2 v3 v4
    else
    if ((xs v4.toNatClampNeg) &&& (63 : Int32)) = (5 : Int32) then
      ML_law_526 L xs h v1 v2 v3 v4
    else
    if ((xs v4.toNatClampNeg) &&& (63 : Int32)) = (6 : Int32) then
      ML_law_539 L xs h v1 v2 v3 v4
    else
    if ((xs v4.toNatClampNeg) &&& (63 : Int32)) = (7 : Int32) then
      ML_law_607 L xs h v1 v2 v3 v4
    else
    if ((xs v4.toNatClampNeg) &&& (63 : Int32)) = (8 : Int32) then
      ML_law_687 L xs h v1 v2 v3 v4
    else
    if ((xs v4.toNatClampNeg) &&& (63 : Int32)) = (9 : Int32) then
      ML_law_755 L xs h v1 v2 v3 v4
    else
    if ((xs v4.toNatClampNeg) &&& (63 : Int32)) = (10 : Int32) then
      ML_law_823 L xs h v1 v2 v3 v4
    else
    if ((xs v4.toNatClampNeg) &&& (63 : Int32)) = (11 : Int32) then
      ML_law_907 L xs h v1 v2 v3 v4
    else
    if ((xs v4.toNatClampNeg) &&& (63 : Int32)) = (12 : Int32) then
      ML_law_975 L xs h v1 v2 v3 v4
    else
    if ((xs v4.toNatClampNeg) &&& (63 : Int32)) = (13 : Int32) then
      ML_law_1055 L xs h v1 v2 v3 v4
    else
    if ((xs v4.toNatClampNeg) &&& (63 : Int32)) = (14 : Int32) then
      ML_law_1146 L xs h v1 v2 v3 v4
    else
    if ((xs v4.toNatClampNeg) &&& (63 : Int32)) = (15 : Int32) then
      ML_law_1214 L xs h v1 v2 v3 v4
    else
    if ((xs v4.toNatClampNeg) &&& (63 : Int32)) = (16 : Int32) then
      ML_law_1270 L xs h v1 v2 v3 v4
    else
    if ((xs v4.toNatClampNeg) &&& (63 : Int32)) = (17 : Int32) then
      ML_law_1338 L xs h v1 v2 v3 v4
    else
    if ((xs v4.toNatClampNeg) &&& (63 : Int32)) = (18 : Int32) then
      ML_law_1406 L xs h v1 v2 v3 v4
    else
    if ((xs v4.toNatClampNeg) &&& (63 : Int32)) = (19 : Int32) then
      ML_law_1474 L xs h v1 v2 v3 v4
    else
    if ((xs v4.toNatClampNeg) &&& (63 : Int32)) = (20 : Int32) then
      ML_law_1542 L xs h v1 v2 v3 v4
    else
    if ((xs v4.toNatClampNeg) &&& (63 : Int32)) = (21 : Int32) then
      ML_law_1598 L xs h v1 v2 v3 v4
    else
    if ((xs v4.toNatClampNeg) &&& (63 : Int32)) = (22 : Int32) then
      ML_law_1661 L xs h v1 v2 v3 v4
    else
    if ((xs v4.toNatClampNeg) &&& (63 : Int32)) = (23 : Int32) then
      ML_law_1736 L xs h v1 v2 v3 v4
    else
    if ((xs v4.toNatClampNeg) &&& (63 : Int32)) = (24 : Int32) then
      ML_law_1816 L xs h v1 v2 v3 v4
    else
    if ((xs v4.toNatClampNeg) &&& (63 : Int32)) = (25 : Int32) then
      ML_law_1896 L xs h v1 v2 v3 v4
    else
    if ((xs v4.toNatClampNeg) &&& (63 : Int32)) = (26 : Int32) then
      ML_law_1983 L xs h v1 v2 v3 v4
    else
    if ((xs v4.toNatClampNeg) &&& (63 : Int32)) = (27 : Int32) then
      ML_law_2058 L xs h v1 v2 v3 v4
    else
    if ((xs v4.toNatClampNeg) &&& (63 : Int32)) = (28 : Int32) then
      ML_law_2114 L xs h v1 v2 v3 v4
    else
    if ((xs v4.toNatClampNeg) &&& (63 : Int32)) = (29 : Int32) then
      ML_law_2194 L xs h v1 v2 v3 v4
    else
    if ((xs v4.toNatClampNeg) &&& (63 : Int32)) = (30 : Int32) then
      ML_law_2274 L xs h v1 v2 v3 v4
    else
    if ((xs v4.toNatClampNeg) &&& (63 : Int32)) = (31 : Int32) then
      ML_law_2334 L xs h v1 v2 v3 v4
    else
    if ((xs v4.toNatClampNeg) &&& (63 : Int32)) = (32 : Int32) then
      ML_law_2402 L xs h v1 v2 v3 v4
    else
    if ((xs v4.toNatClampNeg) &&& (63 : Int32)) = (33 : Int32) then
      ML_law_2510 L xs h v1 v2 v3 v4
    else
    if ((xs v4.toNatClampNeg) &&& (63 : Int32)) = (34 : Int32) then
      ML_law_2578 L xs h v1 v2 v3 v4
    else
    if ((xs v4.toNatClampNeg) &&& (63 : Int32)) = (35 : Int32) then
      ML_law_2646 L xs h v1 v2 v3 v4
    else
    if ((xs v4.toNatClampNeg) &&& (63 : Int32)) = (36 : Int32) then
      ML_law_2726 L xs h v1 v2 v3 v4
    else
    if ((xs v4.toNatClampNeg) &&& (63 : Int32)) = (37 : Int32) then
      ML_law_2770 L xs h v1 v2 v3 v4
    else
    if ((xs v4.toNatClampNeg) &&& (63 : Int32)) = (38 : Int32) then
      ML_law_2850 L xs h v1 v2 v3 v4
    else
    if ((xs v4.toNatClampNeg) &&& (63 : Int32)) = (39 : Int32) then
      ML_law_2863 L xs h v1 v2 v3 v4
    else
    if ((xs v4.toNatClampNeg) &&& (63 : Int32)) = (40 : Int32) then
      ML_law_2919 L xs h v1 v2 v3 v4
    else
    if ((xs v4.toNatClampNeg) &&& (63 : Int32)) = (41 : Int32) then
      ML_law_2999 L xs h v1 v2 v3 v4
    else
    if ((xs v4.toNatClampNeg) &&& (63 : Int32)) = (42 : Int32) then
      ML_law_3067 L xs h v1 v2 v3 v4
    else
    if ((xs v4.toNatClampNeg) &&& (63 : Int32)) = (43 : Int32) then
      ML_law_3147 L xs h v1 v2 v3 v4
    else
    if ((xs v4.toNatClampNeg) &&& (63 : Int32)) = (44 : Int32) then
      ML_law_3160 L xs h v1 v2 v3 v4
    else
    if ((xs v4.toNatClampNeg) &&& (63 : Int32)) = (45 : Int32) then
      ML_law_3171 L xs h v1 v2 v3 v4
    else
    if ((xs v4.toNatClampNeg) &&& (63 : Int32)) = (46 : Int32) then
      ML_law_3184 L xs h v1 v2 v3 v4
    else
      some (.inl ((v4 + (6 : Int32)), h))
set_option maxRecDepth 100000 in
set_option maxHeartbeats 8000000 in
theorem bL_law_23 {d : Nat} {L : Nat} {xs : Nat → Int32} {h : Hp} {v1 : Nat} {v2 : Nat} {v3 : Nat} {v4 : Int32} {r : Int32} {h9 : Hp} {x : ((Int32 × Hp) ⊕ (Int32 × Hp))} (H : BL_law_23 L xs h v1 v2 v3 v4 = some x) (hb0 : ∀ s : Int32 × Hp, x = .inl s → JP (PL L xs) (d + 65) YL_law 23 [.retAddr 3000, .ref v1, .ref v2, .ref v3, .int s.1, Value.null, Value.null] [] s.2 (oI r) h9) (hx : ∀ z : (Int32 × Hp), x = .inr (z) → z = (r, h9)) : JP (PL L xs) (d + 65) YL_law 23 [.retAddr 3000, .ref v1, .ref v2, .ref v3, .int v4, Value.null, Value.null] [] h (oI r) h9 := by
  unfold BL_law_23 at H
  refine J_iload dL_law_23 rfl ?_
  refine J_aload_nT 0 dL_law_25 rfl rfl ?_
  refine J_slen dL_law_26 ?_
  refine J_bipush (6 : Int32) dL_law_27 kb_6 ?_
  refine J_isub dL_law_29 ?_
  refine J_icmp_gt 3215 dL_law_30 rfl (fun q11 => ?_) (fun q11 => ?_)
  · replace H := br1 q11 H
    refine J_iconst (1 : Int32) dL_law_3215 kc_1 ?_
    obtain ⟨g12, H⟩ := gd H
    obtain ⟨g13, H⟩ := gd H
    cases H
    cases hx _ rfl
    exact J_lretZ dL_law_3216 rfl rfl
  · replace H := br0 q11 H
    refine J_aload_nT 0 dL_law_33 rfl rfl ?_
    refine J_iload dL_law_34 rfl ?_
    obtain ⟨g14, H⟩ := gd H
    refine J_sld dL_law_36 (inB_ok g14) ?_
    refine J_bipush (63 : Int32) dL_law_37 kb_63 ?_
    refine J_iand dL_law_39 ?_
    by_cases q1000 : ((xs v4.toNatClampNeg) &&& (63 : Int32)) = (0 : Int32)
    · replace H := br1 q1000 H
      refine J_tab 244 dL_law_40 q1000 (by decide) rfl rfl ?_
      exact J_dr (kL_law_244 H hb0 hx) ⟨rfl, ⟨rfl, ⟨rfl, ⟨rfl, ⟨rfl, trivial⟩⟩⟩⟩⟩
    replace H := br0 q1000 H
    by_cases q1001 : ((xs v4.toNatClampNeg) &&& (63 : Int32)) = (1 : Int32)
    · replace H := br1 q1001 H
      refine J_tab 317 dL_law_40 q1001 (by decide) rfl rfl ?_
      exact J_dr (kL_law_317 H hb0 hx) ⟨rfl, ⟨rfl, ⟨rfl, ⟨rfl, ⟨rfl, trivial⟩⟩⟩⟩⟩
    replace H := br0 q1001 H
    by_cases q1002 : ((xs v4.toNatClampNeg) &&& (63 : Int32)) = (2 : Int32)
    · replace H := br1 q1002 H
      refine J_tab 342 dL_law_40 q1002 (by decide) rfl rfl ?_
      exact J_dr (kL_law_342 H hb0 hx) ⟨rfl, ⟨rfl, ⟨rfl, ⟨rfl, ⟨rfl, trivial⟩⟩⟩⟩⟩
    replace H := br0 q1002 H
    by_cases q1003 : ((xs v4.toNatClampNeg) &&& (63 : Int32)) = (3 : Int32)
    · replace H := br1 q1003 H
      refine J_tab 402 dL_law_40 q1003 (by decide) rfl rfl ?_
      exact J_dr (kL_law_402 H hb0 hx) ⟨rfl, ⟨rfl, ⟨rfl, ⟨rfl, ⟨rfl, trivial⟩⟩⟩⟩⟩
    replace H := br0 q1003 H
    by_cases q1004 : ((xs v4.toNatClampNeg) &&& (63 : Int32)) = (4 : Int32)
    · replace H := br1 q1004 H
      refine J_tab 470 dL_law_40 q1004 (by decide) rfl rfl ?_
      exact J_dr (kL_law_470 H hb0 hx) ⟨rfl, ⟨rfl, ⟨rfl, ⟨rfl, ⟨rfl, trivial⟩⟩⟩⟩⟩
    replace H := br0 q1004 H
    by_cases q1005 : ((xs v4.toNatClampNeg) &&& (63 : Int32)) = (5 : Int32)
    · replace H := br1 q1005 H
      refine J_tab 526 dL_law_40 q1005 (by decide) rfl rfl ?_
      exact J_dr (kL_law_526 H hb0 hx) ⟨rfl, ⟨rfl, ⟨rfl, ⟨rfl, ⟨rfl, trivial⟩⟩⟩⟩⟩
    replace H := br0 q1005 H
    by_cases q1006 : ((xs v4.toNatClampNeg) &&& (63 : Int32)) = (6 : Int32)
    · replace H := br1 q1006 H
      refine J_tab 539 dL_law_40 q1006 (by decide) rfl rfl ?_
      exact J_dr (kL_law_539 H hb0 hx) ⟨rfl, ⟨rfl, ⟨rfl, ⟨rfl, ⟨rfl, trivial⟩⟩⟩⟩⟩
    replace H := br0 q1006 H
    by_cases q1007 : ((xs v4.toNatClampNeg) &&& (63 : Int32)) = (7 : Int32)
    · replace H := br1 q1007 H
      refine J_tab 607 dL_law_40 q1007 (by decide) rfl rfl ?_
      exact J_dr (kL_law_607 H hb0 hx) ⟨rfl, ⟨rfl, ⟨rfl, ⟨rfl, ⟨rfl, trivial⟩⟩⟩⟩⟩
    replace H := br0 q1007 H
    by_cases q1008 : ((xs v4.toNatClampNeg) &&& (63 : Int32)) = (8 : Int32)
    · replace H := br1 q1008 H
      refine J_tab 687 dL_law_40 q1008 (by decide) rfl rfl ?_
      exact J_dr (kL_law_687 H hb0 hx) ⟨rfl, ⟨rfl, ⟨rfl, ⟨rfl, ⟨rfl, trivial⟩⟩⟩⟩⟩
    replace H := br0 q1008 H
    by_cases q1009 : ((xs v4.toNatClampNeg) &&& (63 : Int32)) = (9 : Int32)
    · replace H := br1 q1009 H
      refine J_tab 755 dL_law_40 q1009 (by decide) rfl rfl ?_
      exact J_dr (kL_law_755 H hb0 hx) ⟨rfl, ⟨rfl, ⟨rfl, ⟨rfl, ⟨rfl, trivial⟩⟩⟩⟩⟩
    replace H := br0 q1009 H
    by_cases q1010 : ((xs v4.toNatClampNeg) &&& (63 : Int32)) = (10 : Int32)
    · replace H := br1 q1010 H
      refine J_tab 823 dL_law_40 q1010 (by decide) rfl rfl ?_
      exact J_dr (kL_law_823 H hb0 hx) ⟨rfl, ⟨rfl, ⟨rfl, ⟨rfl, ⟨rfl, trivial⟩⟩⟩⟩⟩
    replace H := br0 q1010 H
    by_cases q1011 : ((xs v4.toNatClampNeg) &&& (63 : Int32)) = (11 : Int32)
    · replace H := br1 q1011 H
      refine J_tab 907 dL_law_40 q1011 (by decide) rfl rfl ?_
      exact J_dr (kL_law_907 H hb0 hx) ⟨rfl, ⟨rfl, ⟨rfl, ⟨rfl, ⟨rfl, trivial⟩⟩⟩⟩⟩
    replace H := br0 q1011 H
    by_cases q1012 : ((xs v4.toNatClampNeg) &&& (63 : Int32)) = (12 : Int32)
    · replace H := br1 q1012 H
      refine J_tab 975 dL_law_40 q1012 (by decide) rfl rfl ?_
      exact J_dr (kL_law_975 H hb0 hx) ⟨rfl, ⟨rfl, ⟨rfl, ⟨rfl, ⟨rfl, trivial⟩⟩⟩⟩⟩
    replace H := br0 q1012 H
    by_cases q1013 : ((xs v4.toNatClampNeg) &&& (63 : Int32)) = (13 : Int32)
    · replace H := br1 q1013 H
      refine J_tab 1055 dL_law_40 q1013 (by decide) rfl rfl ?_
      exact J_dr (kL_law_1055 H hb0 hx) ⟨rfl, ⟨rfl, ⟨rfl, ⟨rfl, ⟨rfl, trivial⟩⟩⟩⟩⟩
    replace H := br0 q1013 H
    by_cases q1014 : ((xs v4.toNatClampNeg) &&& (63 : Int32)) = (14 : Int32)
    · replace H := br1 q1014 H
      refine J_tab 1146 dL_law_40 q1014 (by decide) rfl rfl ?_
      exact J_dr (kL_law_1146 H hb0 hx) ⟨rfl, ⟨rfl, ⟨rfl, ⟨rfl, ⟨rfl, trivial⟩⟩⟩⟩⟩
    replace H := br0 q1014 H
    by_cases q1015 : ((xs v4.toNatClampNeg) &&& (63 : Int32)) = (15 : Int32)
    · replace H := br1 q1015 H
      refine J_tab 1214 dL_law_40 q1015 (by decide) rfl rfl ?_
      exact J_dr (kL_law_1214 H hb0 hx) ⟨rfl, ⟨rfl, ⟨rfl, ⟨rfl, ⟨rfl, trivial⟩⟩⟩⟩⟩
    replace H := br0 q1015 H
    by_cases q1016 : ((xs v4.toNatClampNeg) &&& (63 : Int32)) = (16 : Int32)
    · replace H := br1 q1016 H
      refine J_tab 1270 dL_law_40 q1016 (by decide) rfl rfl ?_
      exact J_dr (kL_law_1270 H hb0 hx) ⟨rfl, ⟨rfl, ⟨rfl, ⟨rfl, ⟨rfl, trivial⟩⟩⟩⟩⟩
    replace H := br0 q1016 H
    by_cases q1017 : ((xs v4.toNatClampNeg) &&& (63 : Int32)) = (17 : Int32)
    · replace H := br1 q1017 H
      refine J_tab 1338 dL_law_40 q1017 (by decide) rfl rfl ?_
      exact J_dr (kL_law_1338 H hb0 hx) ⟨rfl, ⟨rfl, ⟨rfl, ⟨rfl, ⟨rfl, trivial⟩⟩⟩⟩⟩
    replace H := br0 q1017 H
    by_cases q1018 : ((xs v4.toNatClampNeg) &&& (63 : Int32)) = (18 : Int32)
    · replace H := br1 q1018 H
      refine J_tab 1406 dL_law_40 q1018 (by decide) rfl rfl ?_
      exact J_dr (kL_law_1406 H hb0 hx) ⟨rfl, ⟨rfl, ⟨rfl, ⟨rfl, ⟨rfl, trivial⟩⟩⟩⟩⟩
    replace H := br0 q1018 H
    by_cases q1019 : ((xs v4.toNatClampNeg) &&& (63 : Int32)) = (19 : Int32)
    · replace H := br1 q1019 H
      refine J_tab 1474 dL_law_40 q1019 (by decide) rfl rfl ?_
      exact J_dr (kL_law_1474 H hb0 hx) ⟨rfl, ⟨rfl, ⟨rfl, ⟨rfl, ⟨rfl, trivial⟩⟩⟩⟩⟩
    replace H := br0 q1019 H
    by_cases q1020 : ((xs v4.toNatClampNeg) &&& (63 : Int32)) = (20 : Int32)
    · replace H := br1 q1020 H
      refine J_tab 1542 dL_law_40 q1020 (by decide) rfl rfl ?_
      exact J_dr (kL_law_1542 H hb0 hx) ⟨rfl, ⟨rfl, ⟨rfl, ⟨rfl, ⟨rfl, trivial⟩⟩⟩⟩⟩
    replace H := br0 q1020 H
    by_cases q1021 : ((xs v4.toNatClampNeg) &&& (63 : Int32)) = (21 : Int32)
    · replace H := br1 q1021 H
      refine J_tab 1598 dL_law_40 q1021 (by decide) rfl rfl ?_
      exact J_dr (kL_law_1598 H hb0 hx) ⟨rfl, ⟨rfl, ⟨rfl, ⟨rfl, ⟨rfl, trivial⟩⟩⟩⟩⟩
    replace H := br0 q1021 H
    by_cases q1022 : ((xs v4.toNatClampNeg) &&& (63 : Int32)) = (22 : Int32)
    · replace H := br1 q1022 H
      refine J_tab 1661 dL_law_40 q1022 (by decide) rfl rfl ?_
      exact J_dr (kL_law_1661 H hb0 hx) ⟨rfl, ⟨rfl, ⟨rfl, ⟨rfl, ⟨rfl, trivial⟩⟩⟩⟩⟩
    replace H := br0 q1022 H
    by_cases q1023 : ((xs v4.toNatClampNeg) &&& (63 : Int32)) = (23 : Int32)
    · replace H := br1 q1023 H
      refine J_tab 1736 dL_law_40 q1023 (by decide) rfl rfl ?_
      exact J_dr (kL_law_1736 H hb0 hx) ⟨rfl, ⟨rfl, ⟨rfl, ⟨rfl, ⟨rfl, trivial⟩⟩⟩⟩⟩
    replace H := br0 q1023 H
    by_cases q1024 : ((xs v4.toNatClampNeg) &&& (63 : Int32)) = (24 : Int32)
    · replace H := br1 q1024 H
      refine J_tab 1816 dL_law_40 q1024 (by decide) rfl rfl ?_
      exact J_dr (kL_law_1816 H hb0 hx) ⟨rfl, ⟨rfl, ⟨rfl, ⟨rfl, ⟨rfl, trivial⟩⟩⟩⟩⟩
    replace H := br0 q1024 H
    by_cases q1025 : ((xs v4.toNatClampNeg) &&& (63 : Int32)) = (25 : Int32)
    · replace H := br1 q1025 H
      refine J_tab 1896 dL_law_40 q1025 (by decide) rfl rfl ?_
      exact J_dr (kL_law_1896 H hb0 hx) ⟨rfl, ⟨rfl, ⟨rfl, ⟨rfl, ⟨rfl, trivial⟩⟩⟩⟩⟩
    replace H := br0 q1025 H
    by_cases q1026 : ((xs v4.toNatClampNeg) &&& (63 : Int32)) = (26 : Int32)
    · replace H := br1 q1026 H
      refine J_tab 1983 dL_law_40 q1026 (by decide) rfl rfl ?_
      exact J_dr (kL_law_1983 H hb0 hx) ⟨rfl, ⟨rfl, ⟨rfl, ⟨rfl, ⟨rfl, trivial⟩⟩⟩⟩⟩
    replace H := br0 q1026 H
    by_cases q1027 : ((xs v4.toNatClampNeg) &&& (63 : Int32)) = (27 : Int32)
    · replace H := br1 q1027 H
      refine J_tab 2058 dL_law_40 q1027 (by decide) rfl rfl ?_
      exact J_dr (kL_law_2058 H hb0 hx) ⟨rfl, ⟨rfl, ⟨rfl, ⟨rfl, ⟨rfl, trivial⟩⟩⟩⟩⟩
    replace H := br0 q1027 H
    by_cases q1028 : ((xs v4.toNatClampNeg) &&& (63 : Int32)) = (28 : Int32)
    · replace H := br1 q1028 H
      refine J_tab 2114 dL_law_40 q1028 (by decide) rfl rfl ?_
      exact J_dr (kL_law_2114 H hb0 hx) ⟨rfl, ⟨rfl, ⟨rfl, ⟨rfl, ⟨rfl, trivial⟩⟩⟩⟩⟩
    replace H := br0 q1028 H
    by_cases q1029 : ((xs v4.toNatClampNeg) &&& (63 : Int32)) = (29 : Int32)
    · replace H := br1 q1029 H
      refine J_tab 2194 dL_law_40 q1029 (by decide) rfl rfl ?_
      exact J_dr (kL_law_2194 H hb0 hx) ⟨rfl, ⟨rfl, ⟨rfl, ⟨rfl, ⟨rfl, trivial⟩⟩⟩⟩⟩
    replace H := br0 q1029 H
    by_cases q1030 : ((xs v4.toNatClampNeg) &&& (63 : Int32)) = (30 : Int32)
    · replace H := br1 q1030 H
      refine J_tab 2274 dL_law_40 q1030 (by decide) rfl rfl ?_
      exact J_dr (kL_law_2274 H hb0 hx) ⟨rfl, ⟨rfl, ⟨rfl, ⟨rfl, ⟨rfl, trivial⟩⟩⟩⟩⟩
    replace H := br0 q1030 H
    by_cases q1031 : ((xs v4.toNatClampNeg) &&& (63 : Int32)) = (31 : Int32)
    · replace H := br1 q1031 H
      refine J_tab 2334 dL_law_40 q1031 (by decide) rfl rfl ?_
      exact J_dr (kL_law_2334 H hb0 hx) ⟨rfl, ⟨rfl, ⟨rfl, ⟨rfl, ⟨rfl, trivial⟩⟩⟩⟩⟩
    replace H := br0 q1031 H
    by_cases q1032 : ((xs v4.toNatClampNeg) &&& (63 : Int32)) = (32 : Int32)
    · replace H := br1 q1032 H
      refine J_tab 2402 dL_law_40 q1032 (by decide) rfl rfl ?_
      exact J_dr (kL_law_2402 H hb0 hx) ⟨rfl, ⟨rfl, ⟨rfl, ⟨rfl, ⟨rfl, trivial⟩⟩⟩⟩⟩
    replace H := br0 q1032 H
    by_cases q1033 : ((xs v4.toNatClampNeg) &&& (63 : Int32)) = (33 : Int32)
    · replace H := br1 q1033 H
      refine J_tab 2510 dL_law_40 q1033 (by decide) rfl rfl ?_
      exact J_dr (kL_law_2510 H hb0 hx) ⟨rfl, ⟨rfl, ⟨rfl, ⟨rfl, ⟨rfl, trivial⟩⟩⟩⟩⟩
    replace H := br0 q1033 H
    by_cases q1034 : ((xs v4.toNatClampNeg) &&& (63 : Int32)) = (34 : Int32)
    · replace H := br1 q1034 H
      refine J_tab 2578 dL_law_40 q1034 (by decide) rfl rfl ?_
      exact J_dr (kL_law_2578 H hb0 hx) ⟨rfl, ⟨rfl, ⟨rfl, ⟨rfl, ⟨rfl, trivial⟩⟩⟩⟩⟩
    replace H := br0 q1034 H
    by_cases q1035 : ((xs v4.toNatClampNeg) &&& (63 : Int32)) = (35 : Int32)
    · replace H := br1 q1035 H
      refine J_tab 2646 dL_law_40 q1035 (by decide) rfl rfl ?_
      exact J_dr (kL_law_2646 H hb0 hx) ⟨rfl, ⟨rfl, ⟨rfl, ⟨rfl, ⟨rfl, trivial⟩⟩⟩⟩⟩
    replace H := br0 q1035 H
    by_cases q1036 : ((xs v4.toNatClampNeg) &&& (63 : Int32)) = (36 : Int32)
    · replace H := br1 q1036 H
      refine J_tab 2726 dL_law_40 q1036 (by decide) rfl rfl ?_
      exact J_dr (kL_law_2726 H hb0 hx) ⟨rfl, ⟨rfl, ⟨rfl, ⟨rfl, ⟨rfl, trivial⟩⟩⟩⟩⟩
    replace H := br0 q1036 H
    by_cases q1037 : ((xs v4.toNatClampNeg) &&& (63 : Int32)) = (37 : Int32)
    · replace H := br1 q1037 H
      refine J_tab 2770 dL_law_40 q1037 (by decide) rfl rfl ?_
      exact J_dr (kL_law_2770 H hb0 hx) ⟨rfl, ⟨rfl, ⟨rfl, ⟨rfl, ⟨rfl, trivial⟩⟩⟩⟩⟩
    replace H := br0 q1037 H
    by_cases q1038 : ((xs v4.toNatClampNeg) &&& (63 : Int32)) = (38 : Int32)
    · replace H := br1 q1038 H
      refine J_tab 2850 dL_law_40 q1038 (by decide) rfl rfl ?_
      exact J_dr (kL_law_2850 H hb0 hx) ⟨rfl, ⟨rfl, ⟨rfl, ⟨rfl, ⟨rfl, trivial⟩⟩⟩⟩⟩
    replace H := br0 q1038 H
    by_cases q1039 : ((xs v4.toNatClampNeg) &&& (63 : Int32)) = (39 : Int32)
    · replace H := br1 q1039 H
      refine J_tab 2863 dL_law_40 q1039 (by decide) rfl rfl ?_
      exact J_dr (kL_law_2863 H hb0 hx) ⟨rfl, ⟨rfl, ⟨rfl, ⟨rfl, ⟨rfl, trivial⟩⟩⟩⟩⟩
    replace H := br0 q1039 H
    by_cases q1040 : ((xs v4.toNatClampNeg) &&& (63 : Int32)) = (40 : Int32)
    · replace H := br1 q1040 H
      refine J_tab 2919 dL_law_40 q1040 (by decide) rfl rfl ?_
      exact J_dr (kL_law_2919 H hb0 hx) ⟨rfl, ⟨rfl, ⟨rfl, ⟨rfl, ⟨rfl, trivial⟩⟩⟩⟩⟩
    replace H := br0 q1040 H
    by_cases q1041 : ((xs v4.toNatClampNeg) &&& (63 : Int32)) = (41 : Int32)
    · replace H := br1 q1041 H
      refine J_tab 2999 dL_law_40 q1041 (by decide) rfl rfl ?_
      exact J_dr (kL_law_2999 H hb0 hx) ⟨rfl, ⟨rfl, ⟨rfl, ⟨rfl, ⟨rfl, trivial⟩⟩⟩⟩⟩
    replace H := br0 q1041 H
    by_cases q1042 : ((xs v4.toNatClampNeg) &&& (63 : Int32)) = (42 : Int32)
    · replace H := br1 q1042 H
      refine J_tab 3067 dL_law_40 q1042 (by decide) rfl rfl ?_
      exact J_dr (kL_law_3067 H hb0 hx) ⟨rfl, ⟨rfl, ⟨rfl, ⟨rfl, ⟨rfl, trivial⟩⟩⟩⟩⟩
    replace H := br0 q1042 H
    by_cases q1043 : ((xs v4.toNatClampNeg) &&& (63 : Int32)) = (43 : Int32)
    · replace H := br1 q1043 H
      refine J_tab 3147 dL_law_40 q1043 (by decide) rfl rfl ?_
      exact J_dr (kL_law_3147 H hb0 hx) ⟨rfl, ⟨rfl, ⟨rfl, ⟨rfl, ⟨rfl, trivial⟩⟩⟩⟩⟩
    replace H := br0 q1043 H
    by_cases q1044 : ((xs v4.toNatClampNeg) &&& (63 : Int32)) = (44 : Int32)
    · replace H := br1 q1044 H
      refine J_tab 3160 dL_law_40 q1044 (by decide) rfl rfl ?_
      exact J_dr (kL_law_3160 H hb0 hx) ⟨rfl, ⟨rfl, ⟨rfl, ⟨rfl, ⟨rfl, trivial⟩⟩⟩⟩⟩
    replace H := br0 q1044 H
    by_cases q1045 : ((xs v4.toNatClampNeg) &&& (63 : Int32)) = (45 : Int32)
    · replace H := br1 q1045 H
      refine J_tab 3171 dL_law_40 q1045 (by decide) rfl rfl ?_
      exact J_dr (kL_law_3171 H hb0 hx) ⟨rfl, ⟨rfl, ⟨rfl, ⟨rfl, ⟨rfl, trivial⟩⟩⟩⟩⟩
    replace H := br0 q1045 H
    by_cases q1046 : ((xs v4.toNatClampNeg) &&& (63 : Int32)) = (46 : Int32)
    · replace H := br1 q1046 H
      refine J_tab 3184 dL_law_40 q1046 (by decide) rfl rfl ?_
      exact J_dr (kL_law_3184 H hb0 hx) ⟨rfl, ⟨rfl, ⟨rfl, ⟨rfl, ⟨rfl, trivial⟩⟩⟩⟩⟩
    replace H := br0 q1046 H
    refine J_tab0 47 3209 dL_law_40 rfl (fun k hk => ?_) rfl rfl ?_
    · match k, hk with
      | 0, _ => exact q1000
      | 1, _ => exact q1001
      | 2, _ => exact q1002
      | 3, _ => exact q1003
      | 4, _ => exact q1004
      | 5, _ => exact q1005
      | 6, _ => exact q1006
      | 7, _ => exact q1007
      | 8, _ => exact q1008
      | 9, _ => exact q1009
      | 10, _ => exact q1010
      | 11, _ => exact q1011
      | 12, _ => exact q1012
      | 13, _ => exact q1013
      | 14, _ => exact q1014
      | 15, _ => exact q1015
      | 16, _ => exact q1016
      | 17, _ => exact q1017
      | 18, _ => exact q1018
      | 19, _ => exact q1019
      | 20, _ => exact q1020
      | 21, _ => exact q1021
      | 22, _ => exact q1022
      | 23, _ => exact q1023
      | 24, _ => exact q1024
      | 25, _ => exact q1025
      | 26, _ => exact q1026
      | 27, _ => exact q1027
      | 28, _ => exact q1028
      | 29, _ => exact q1029
      | 30, _ => exact q1030
      | 31, _ => exact q1031
      | 32, _ => exact q1032
      | 33, _ => exact q1033
      | 34, _ => exact q1034
      | 35, _ => exact q1035
      | 36, _ => exact q1036
      | 37, _ => exact q1037
      | 38, _ => exact q1038
      | 39, _ => exact q1039
      | 40, _ => exact q1040
      | 41, _ => exact q1041
      | 42, _ => exact q1042
      | 43, _ => exact q1043
      | 44, _ => exact q1044
      | 45, _ => exact q1045
      | 46, _ => exact q1046
      | k + 47, hk => exact absurd hk (by omega)
    · refine J_iinc (v4 + (6 : Int32)) dL_law_3209 rfl (congrArg (HAdd.hAdd v4) kc_6) (by decide) (ls' := [.retAddr 3000, .ref v1, .ref v2, .ref v3, .int (v4 + (6 : Int32)), Value.null, Value.null]) rfl ?_
      refine J_goto 23 dL_law_3212 rfl ?_
      cases H
      exact J_dr (hb0 _ rfl) ⟨rfl, ⟨rfl, ⟨rfl, ⟨rfl, ⟨rfl, trivial⟩⟩⟩⟩⟩
noncomputable def ML_law_23 (L : Nat) (xs : Nat → Int32) (h : Hp) (v1 : Nat) (v2 : Nat) (v3 : Nat) (v4 : Int32) : Option (Int32 × Hp) := it (fun q : Int32 × Hp => BL_law_23 L xs q.2 v1 v2 v3 q.1) (v4, h)
set_option maxRecDepth 100000 in
set_option maxHeartbeats 8000000 in
theorem kL_law_23 {d : Nat} {L : Nat} {xs : Nat → Int32} {h : Hp} {v1 : Nat} {v2 : Nat} {v3 : Nat} {v4 : Int32} {r : Int32} {h9 : Hp} (H : ML_law_23 L xs h v1 v2 v3 v4 = some (r, h9)) : JP (PL L xs) (d + 65) YL_law 23 [.retAddr 3000, .ref v1, .ref v2, .ref v3, .int v4, Value.null, Value.null] [] h (oI r) h9 := by
  unfold ML_law_23 at H
  refine it_J (G := (fun q : Int32 × Hp => JP (PL L xs) (d + 65) YL_law 23 [.retAddr 3000, .ref v1, .ref v2, .ref v3, .int q.1, Value.null, Value.null] [] q.2 (oI r) h9)) (Q := (fun y : (Int32 × Hp) => y = (r, h9))) (fun q x Hq hm => ?_) H rfl
  exact bL_law_23 Hq (fun s hs => by subst hs; exact hm) (fun z hz => by subst hz; exact hm)
noncomputable def ML_law (L : Nat) (xs : Nat → Int32) (h : Hp) : Option (Int32 × Hp) :=
  lt (α := Hp) (β := Option (Int32 × Hp)) (alc h 10 12) fun (h1 : Hp) =>
  Option.bind (α := Hp) (β := (Int32 × Hp)) (MX11_init h1 (sz h + 1)) fun (h4 : Hp) =>
  lt (α := Hp) (β := Option (Int32 × Hp)) (alc h4 11 58) fun (h5 : Hp) =>
  Option.bind (α := Hp) (β := (Int32 × Hp)) (MX12_init h5 (sz h4 + 1)) fun (h8 : Hp) =>
  lt (α := Hp) (β := Option (Int32 × Hp)) (alc h8 23 (1)) fun (h9 : Hp) =>
  ML_law_23 L xs h9 (sz h + 1) (sz h4 + 1) (sz h8 + 1) (0 : Int32)
set_option maxRecDepth 100000 in
set_option maxHeartbeats 8000000 in
theorem eL_law {d : Nat} {L : Nat} {xs : Nat → Int32} {h : Hp} {r : Int32} {h9 : Hp} (H : ML_law L xs h = some (r, h9)) : JP (PL L xs) (d + 65) YL_law 0 [.retAddr 3000, Value.null, Value.null, Value.null, Value.null, Value.null, Value.null] [] h (oI r) h9 := by
  unfold ML_law at H
  obtain ⟨h1, e2, H⟩ := lt_el H
  refine J_nO 10 12 dL_law_0 rfl rfl clL_8 in10 ini10 e2 ?_
  refine J_dup dL_law_3 rfl ?_
  obtain ⟨h4, e3, H⟩ := bd H
  refine J_cI (as := []) YX11_init 0 dL_law_4 moX11_init miX11_init mlL_147 rfl rfl (kn99 (ekN e2) rfl) (okX11_init (d := d + 62) e3) rfl rfl [.ref (sz h + 1)] rfl rfl ?_
  refine J_astore_n 1 dL_law_7 rfl (by decide) (ls' := [.retAddr 3000, .ref (sz h + 1), Value.null, Value.null, Value.null, Value.null, Value.null]) rfl ?_
  obtain ⟨h5, e6, H⟩ := lt_el H
  refine J_nO 11 58 dL_law_8 rfl rfl clL_148 in11 ini11 e6 ?_
  refine J_dup dL_law_11 rfl ?_
  obtain ⟨h8, e7, H⟩ := bd H
  refine J_cI (as := []) YX12_init 0 dL_law_12 moX12_init miX12_init mlL_150 rfl rfl (kn99 (ekN e6) rfl) (okX12_init (d := d + 64) e7) rfl rfl [.ref (sz h4 + 1)] rfl rfl ?_
  refine J_astore_n 2 dL_law_15 rfl (by decide) (ls' := [.retAddr 3000, .ref (sz h + 1), .ref (sz h4 + 1), Value.null, Value.null, Value.null, Value.null]) rfl ?_
  refine J_iconst (1 : Int32) dL_law_16 kc_1 ?_
  obtain ⟨h9, e10, H⟩ := lt_el H
  refine J_nL (1) dL_law_17 (by decide) (by decide) (by decide) e10 ?_
  refine J_astore_n 3 dL_law_19 rfl (by decide) (ls' := [.retAddr 3000, .ref (sz h + 1), .ref (sz h4 + 1), .ref (sz h8 + 1), Value.null, Value.null, Value.null]) rfl ?_
  refine J_iconst (0 : Int32) dL_law_20 kc_0 ?_
  refine J_istore dL_law_21 (by decide) (ls' := [.retAddr 3000, .ref (sz h + 1), .ref (sz h4 + 1), .ref (sz h8 + 1), .int (0 : Int32), Value.null, Value.null]) rfl ?_
  exact J_dr (kL_law_23 H ) ⟨rfl, ⟨rfl, ⟨rfl, ⟨rfl, ⟨rfl, trivial⟩⟩⟩⟩⟩
