noncomputable def MX12_changes_346 (h : Hp) (v0 : Nat) (v1 : Int32) (v5 : Int32) (v6 : Int32) : Option Hp :=
  gg (β := Hp) (kd h v0 = 11) <|
  gg (β := Hp) (kd h (gP h v0 1) = 20) <|
  gg (β := Hp) (inB (v1 + (1 : Int32)) (ln h (gP h v0 1)) = true) <|
  lt (α := Hp) (β := Option Hp) (sI h (gP h v0 1) (v1 + (1 : Int32)).toNatClampNeg (v5 + v6)) fun (h15 : Hp) =>
  some h15
set_option maxRecDepth 100000 in
set_option maxHeartbeats 8000000 in
theorem kX12_changes_346 {d : Nat} {h : Hp} {v0 : Nat} {v1 : Int32} {v5 : Int32} {v6 : Int32} {h9 : Hp} (H : MX12_changes_346 h v0 v1 v5 v6 = some h9) : J (d) YX12_changes 346 [.ref v0, .int v1, Value.null, Value.null, Value.null, .int v5, .int v6, Value.null, Value.null] [] h oV h9 := by
  unfold MX12_changes_346 at H
  refine J_aload_n 0 dX12_changes_346 rfl rfl ?_
  obtain ⟨g12, H⟩ := gd H
  refine J_gP 11 1 dX12_changes_347 g12 flX12_8 rfl rfl ?_
  refine J_iload_n 1 dX12_changes_350 rfl rfl ?_
  refine J_iconst (1 : Int32) dX12_changes_351 kc_1 ?_
  refine J_iadd dX12_changes_352 ?_
  refine J_iload dX12_changes_353 rfl ?_
  refine J_iload dX12_changes_355 rfl ?_
  refine J_iadd dX12_changes_357 ?_
  obtain ⟨g13, H⟩ := gd H
  obtain ⟨g14, H⟩ := gd H
  obtain ⟨h15, e16, H⟩ := lt_el H
  refine J_sI dX12_changes_358 g13 (inB_ok g14) e16 ?_
  have c17 := ekI e16
  have c18 := elI e16
  have c19 := epI e16
  cases H
  exact J_ret dX12_changes_359 rfl
noncomputable def BX12_changes_293 (h : Hp) (v0 : Nat) (v1 : Int32) (v2 : Int32) (v3 : Int32) (v5 : Int32) (v6 : Int32) (v7 : Int32) (v8 : Int32) : Option ((Int32 × Hp) ⊕ ((Int32 × Hp) ⊕ Hp)) :=
  if (12 : Int32) ≤ v8 then
    some (.inr (.inl ((v7 + (1 : Int32)), h)))
  else
    gg (β := ((Int32 × Hp) ⊕ ((Int32 × Hp) ⊕ Hp))) (kd h v0 = 11) <|
    gg (β := ((Int32 × Hp) ⊕ ((Int32 × Hp) ⊕ Hp))) (kd h (gP h v0 14) = 20) <|
    gg (β := ((Int32 × Hp) ⊕ ((Int32 × Hp) ⊕ Hp))) (inB (((12 : Int32) * v7) + v8) (ln h (gP h v0 14)) = true) <|
    gg (β := ((Int32 × Hp) ⊕ ((Int32 × Hp) ⊕ Hp))) (kd h (gP h v0 1) = 20) <|
    gg (β := ((Int32 × Hp) ⊕ ((Int32 × Hp) ⊕ Hp))) (inB (((v1 + (165 : Int32)) + ((12 : Int32) * (v3 + v7))) + v8) (ln h (gP h v0 1)) = true) <|
    lt (α := Hp) (β := Option ((Int32 × Hp) ⊕ ((Int32 × Hp) ⊕ Hp))) (sI h (gP h v0 1) (((v1 + (165 : Int32)) + ((12 : Int32) * (v3 + v7))) + v8).toNatClampNeg (gI h (gP h v0 14) (((12 : Int32) * v7) + v8).toNatClampNeg)) fun (h41 : Hp) =>
    some (.inl ((v8 + (1 : Int32)), h41))
set_option maxRecDepth 100000 in
set_option maxHeartbeats 8000000 in
theorem bX12_changes_293 {d : Nat} {h : Hp} {v0 : Nat} {v1 : Int32} {v2 : Int32} {v3 : Int32} {v5 : Int32} {v6 : Int32} {v7 : Int32} {v8 : Int32} {h9 : Hp} {x : ((Int32 × Hp) ⊕ ((Int32 × Hp) ⊕ Hp))} (H : BX12_changes_293 h v0 v1 v2 v3 v5 v6 v7 v8 = some x) (hb0 : ∀ s : Int32 × Hp, x = .inl s → J (d) YX12_changes 293 [.ref v0, .int v1, .int v2, .int v3, Value.null, .int v5, .int v6, .int v7, .int s.1] [] s.2 oV h9) (hb1 : ∀ s : Int32 × Hp, x = .inr (.inl s) → J (d) YX12_changes 243 [.ref v0, .int v1, .int v2, .int v3, Value.null, .int v5, .int v6, .int s.1, Value.null] [] s.2 oV h9) (hx : ∀ z : Hp, x = .inr (.inr (z)) → z = h9) : J (d) YX12_changes 293 [.ref v0, .int v1, .int v2, .int v3, Value.null, .int v5, .int v6, .int v7, .int v8] [] h oV h9 := by
  unfold BX12_changes_293 at H
  refine J_iload dX12_changes_293 rfl ?_
  refine J_bipush (12 : Int32) dX12_changes_295 kb_12 ?_
  refine J_icmp_ge 340 dX12_changes_297 rfl (fun q35 => ?_) (fun q35 => ?_)
  · replace H := br1 q35 H
    refine J_iinc (v7 + (1 : Int32)) dX12_changes_340 rfl (congrArg (HAdd.hAdd v7) kc_1) (by decide) (ls' := [.ref v0, .int v1, .int v2, .int v3, Value.null, .int v5, .int v6, .int (v7 + (1 : Int32)), .int v8]) rfl ?_
    refine J_goto 243 dX12_changes_343 rfl ?_
    cases H
    exact J_dr (hb1 _ rfl) ⟨rfl, ⟨rfl, ⟨rfl, ⟨rfl, ⟨rfl, ⟨rfl, ⟨rfl, trivial⟩⟩⟩⟩⟩⟩⟩
  · replace H := br0 q35 H
    refine J_aload_n 0 dX12_changes_300 rfl rfl ?_
    obtain ⟨g36, H⟩ := gd H
    refine J_gP 11 1 dX12_changes_301 g36 flX12_8 rfl rfl ?_
    refine J_iload_n 1 dX12_changes_304 rfl rfl ?_
    refine J_sipush (165 : Int32) dX12_changes_305 ks_165 ?_
    refine J_iadd dX12_changes_308 ?_
    refine J_bipush (12 : Int32) dX12_changes_309 kb_12 ?_
    refine J_iload_n 3 dX12_changes_311 rfl rfl ?_
    refine J_iload dX12_changes_312 rfl ?_
    refine J_iadd dX12_changes_314 ?_
    refine J_imul dX12_changes_315 ?_
    refine J_iadd dX12_changes_316 ?_
    refine J_iload dX12_changes_317 rfl ?_
    refine J_iadd dX12_changes_319 ?_
    refine J_aload_n 0 dX12_changes_320 rfl rfl ?_
    refine J_gP 11 14 dX12_changes_321 g36 flX12_33 rfl rfl ?_
    refine J_bipush (12 : Int32) dX12_changes_324 kb_12 ?_
    refine J_iload dX12_changes_326 rfl ?_
    refine J_imul dX12_changes_328 ?_
    refine J_iload dX12_changes_329 rfl ?_
    refine J_iadd dX12_changes_331 ?_
    obtain ⟨g37, H⟩ := gd H
    obtain ⟨g38, H⟩ := gd H
    refine J_iald dX12_changes_332 g37 (inB_ok g38) ?_
    obtain ⟨g39, H⟩ := gd H
    obtain ⟨g40, H⟩ := gd H
    obtain ⟨h41, e42, H⟩ := lt_el H
    refine J_sI dX12_changes_333 g39 (inB_ok g40) e42 ?_
    have c43 := ekI e42
    have c44 := elI e42
    have c45 := epI e42
    refine J_iinc (v8 + (1 : Int32)) dX12_changes_334 rfl (congrArg (HAdd.hAdd v8) kc_1) (by decide) (ls' := [.ref v0, .int v1, .int v2, .int v3, Value.null, .int v5, .int v6, .int v7, .int (v8 + (1 : Int32))]) rfl ?_
    refine J_goto 293 dX12_changes_337 rfl ?_
    cases H
    exact J_dr (hb0 _ rfl) ⟨rfl, ⟨rfl, ⟨rfl, ⟨rfl, ⟨rfl, ⟨rfl, ⟨rfl, ⟨rfl, trivial⟩⟩⟩⟩⟩⟩⟩⟩
noncomputable def MX12_changes_293 (h : Hp) (v0 : Nat) (v1 : Int32) (v2 : Int32) (v3 : Int32) (v5 : Int32) (v6 : Int32) (v7 : Int32) (v8 : Int32) : Option ((Int32 × Hp) ⊕ Hp) := it (fun q : Int32 × Hp => BX12_changes_293 q.2 v0 v1 v2 v3 v5 v6 v7 q.1) (v8, h)
set_option maxRecDepth 100000 in
set_option maxHeartbeats 8000000 in
theorem kX12_changes_293 {d : Nat} {h : Hp} {v0 : Nat} {v1 : Int32} {v2 : Int32} {v3 : Int32} {v5 : Int32} {v6 : Int32} {v7 : Int32} {v8 : Int32} {h9 : Hp} {x : ((Int32 × Hp) ⊕ Hp)} (H : MX12_changes_293 h v0 v1 v2 v3 v5 v6 v7 v8 = some x) (hb0 : ∀ s : Int32 × Hp, x = .inl s → J (d) YX12_changes 243 [.ref v0, .int v1, .int v2, .int v3, Value.null, .int v5, .int v6, .int s.1, Value.null] [] s.2 oV h9) (hx : ∀ z : Hp, x = .inr (z) → z = h9) : J (d) YX12_changes 293 [.ref v0, .int v1, .int v2, .int v3, Value.null, .int v5, .int v6, .int v7, .int v8] [] h oV h9 := by
  unfold MX12_changes_293 at H
  refine it_J (G := (fun q : Int32 × Hp => J (d) YX12_changes 293 [.ref v0, .int v1, .int v2, .int v3, Value.null, .int v5, .int v6, .int v7, .int q.1] [] q.2 oV h9)) (Q := (fun y : ((Int32 × Hp) ⊕ Hp) => (∀ s : Int32 × Hp, y = .inl s → J (d) YX12_changes 243 [.ref v0, .int v1, .int v2, .int v3, Value.null, .int v5, .int v6, .int s.1, Value.null] [] s.2 oV h9) ∧ (∀ z : Hp, y = .inr (z) → z = h9))) (fun q x Hq hm => ?_) H ⟨hb0, hx⟩
  exact bX12_changes_293 Hq (fun s hs => by subst hs; exact hm) (fun s hs => by subst hs; exact (hm.1) s rfl) (fun z hz => by subst hz; exact (hm.2) z rfl)
noncomputable def BX12_changes_243 (h : Hp) (v0 : Nat) (v1 : Int32) (v2 : Int32) (v3 : Int32) (v5 : Int32) (v6 : Int32) (v7 : Int32) : Option ((Int32 × Hp) ⊕ Hp) :=
  gg (β := ((Int32 × Hp) ⊕ Hp)) (kd h v0 = 11) <|
  gg (β := ((Int32 × Hp) ⊕ Hp)) (kd h (gP h v0 15) = 20) <|
  gg (β := ((Int32 × Hp) ⊕ Hp)) (inB (0 : Int32) (ln h (gP h v0 15)) = true) <|
  if (gI h (gP h v0 15) (0 : Int32).toNatClampNeg) ≤ v7 then
    up1 (MX12_changes_346 h v0 v1 v5 v6)
  else
    gg (β := ((Int32 × Hp) ⊕ Hp)) (kd h (gP h v0 1) = 20) <|
    gg (β := ((Int32 × Hp) ⊕ Hp)) (inB (((v1 + (85 : Int32)) + v3) + v7) (ln h (gP h v0 1)) = true) <|
    lt (α := Hp) (β := Option ((Int32 × Hp) ⊕ Hp)) (sI h (gP h v0 1) (((v1 + (85 : Int32)) + v3) + v7).toNatClampNeg v2) fun (h22 : Hp) =>
    gg (β := ((Int32 × Hp) ⊕ Hp)) (kd h (gP h v0 13) = 20) <|
    gg (β := ((Int32 × Hp) ⊕ Hp)) (inB v7 (ln h (gP h v0 13)) = true) <|
    gg (β := ((Int32 × Hp) ⊕ Hp)) (inB (((v1 + (125 : Int32)) + v3) + v7) (ln h (gP h v0 1)) = true) <|
    lt (α := Hp) (β := Option ((Int32 × Hp) ⊕ Hp)) (sI h22 (gP h v0 1) (((v1 + (125 : Int32)) + v3) + v7).toNatClampNeg (gI h22 (gP h v0 13) v7.toNatClampNeg)) fun (h30 : Hp) =>
    MX12_changes_293 h30 v0 v1 v2 v3 v5 v6 v7 (0 : Int32)
set_option maxRecDepth 100000 in
set_option maxHeartbeats 8000000 in
theorem bX12_changes_243 {d : Nat} {h : Hp} {v0 : Nat} {v1 : Int32} {v2 : Int32} {v3 : Int32} {v5 : Int32} {v6 : Int32} {v7 : Int32} {h9 : Hp} {x : ((Int32 × Hp) ⊕ Hp)} (H : BX12_changes_243 h v0 v1 v2 v3 v5 v6 v7 = some x) (hb0 : ∀ s : Int32 × Hp, x = .inl s → J (d) YX12_changes 243 [.ref v0, .int v1, .int v2, .int v3, Value.null, .int v5, .int v6, .int s.1, Value.null] [] s.2 oV h9) (hx : ∀ z : Hp, x = .inr (z) → z = h9) : J (d) YX12_changes 243 [.ref v0, .int v1, .int v2, .int v3, Value.null, .int v5, .int v6, .int v7, Value.null] [] h oV h9 := by
  unfold BX12_changes_243 at H
  refine J_iload dX12_changes_243 rfl ?_
  refine J_aload_n 0 dX12_changes_245 rfl rfl ?_
  obtain ⟨g8, H⟩ := gd H
  refine J_gP 11 15 dX12_changes_246 g8 flX12_36 rfl rfl ?_
  refine J_iconst (0 : Int32) dX12_changes_249 kc_0 ?_
  obtain ⟨g9, H⟩ := gd H
  obtain ⟨g10, H⟩ := gd H
  refine J_iald dX12_changes_250 g9 (inB_ok g10) ?_
  refine J_icmp_ge 346 dX12_changes_251 rfl (fun q11 => ?_) (fun q11 => ?_)
  · replace H := br1 q11 H
    obtain ⟨y0, H90, rfl⟩ := up1_el H
    replace H := H90
    obtain rfl := hx _ rfl
    exact J_dr (kX12_changes_346 H ) ⟨rfl, ⟨rfl, ⟨rfl, ⟨rfl, trivial⟩⟩⟩⟩
  · replace H := br0 q11 H
    refine J_aload_n 0 dX12_changes_254 rfl rfl ?_
    refine J_gP 11 1 dX12_changes_255 g8 flX12_8 rfl rfl ?_
    refine J_iload_n 1 dX12_changes_258 rfl rfl ?_
    refine J_bipush (85 : Int32) dX12_changes_259 kb_85 ?_
    refine J_iadd dX12_changes_261 ?_
    refine J_iload_n 3 dX12_changes_262 rfl rfl ?_
    refine J_iadd dX12_changes_263 ?_
    refine J_iload dX12_changes_264 rfl ?_
    refine J_iadd dX12_changes_266 ?_
    refine J_iload_n 2 dX12_changes_267 rfl rfl ?_
    obtain ⟨g20, H⟩ := gd H
    obtain ⟨g21, H⟩ := gd H
    obtain ⟨h22, e23, H⟩ := lt_el H
    refine J_sI dX12_changes_268 g20 (inB_ok g21) e23 ?_
    have c24 := ekI e23
    have c25 := elI e23
    have c26 := epI e23
    refine J_aload_n 0 dX12_changes_269 rfl rfl ?_
    refine J_gP 11 1 dX12_changes_270 (kq c24 g8) flX12_8 rfl (congrFun (congrFun c26 v0) 1) ?_
    refine J_iload_n 1 dX12_changes_273 rfl rfl ?_
    refine J_bipush (125 : Int32) dX12_changes_274 kb_125 ?_
    refine J_iadd dX12_changes_276 ?_
    refine J_iload_n 3 dX12_changes_277 rfl rfl ?_
    refine J_iadd dX12_changes_278 ?_
    refine J_iload dX12_changes_279 rfl ?_
    refine J_iadd dX12_changes_281 ?_
    refine J_aload_n 0 dX12_changes_282 rfl rfl ?_
    refine J_gP 11 13 dX12_changes_283 (kq c24 g8) flX12_30 rfl (congrFun (congrFun c26 v0) 13) ?_
    refine J_iload dX12_changes_286 rfl ?_
    obtain ⟨g27, H⟩ := gd H
    obtain ⟨g28, H⟩ := gd H
    refine J_iald dX12_changes_288 (kq c24 g27) (lq c25 g28) ?_
    obtain ⟨g29, H⟩ := gd H
    obtain ⟨h30, e31, H⟩ := lt_el H
    refine J_sI dX12_changes_289 (kq c24 g20) (lq c25 g29) e31 ?_
    have c32 := (ekI e31).trans c24
    have c33 := (elI e31).trans c25
    have c34 := (epI e31).trans c26
    refine J_iconst (0 : Int32) dX12_changes_290 kc_0 ?_
    refine J_istore dX12_changes_291 (by decide) (ls' := [.ref v0, .int v1, .int v2, .int v3, Value.null, .int v5, .int v6, .int v7, .int (0 : Int32)]) rfl ?_
    exact J_dr (kX12_changes_293 H hb0 hx) ⟨rfl, ⟨rfl, ⟨rfl, ⟨rfl, ⟨rfl, ⟨rfl, ⟨rfl, ⟨rfl, trivial⟩⟩⟩⟩⟩⟩⟩⟩
noncomputable def MX12_changes_243 (h : Hp) (v0 : Nat) (v1 : Int32) (v2 : Int32) (v3 : Int32) (v5 : Int32) (v6 : Int32) (v7 : Int32) : Option Hp := it (fun q : Int32 × Hp => BX12_changes_243 q.2 v0 v1 v2 v3 v5 v6 q.1) (v7, h)
set_option maxRecDepth 100000 in
set_option maxHeartbeats 8000000 in
theorem kX12_changes_243 {d : Nat} {h : Hp} {v0 : Nat} {v1 : Int32} {v2 : Int32} {v3 : Int32} {v5 : Int32} {v6 : Int32} {v7 : Int32} {h9 : Hp} (H : MX12_changes_243 h v0 v1 v2 v3 v5 v6 v7 = some h9) : J (d) YX12_changes 243 [.ref v0, .int v1, .int v2, .int v3, Value.null, .int v5, .int v6, .int v7, Value.null] [] h oV h9 := by
  unfold MX12_changes_243 at H
  refine it_J (G := (fun q : Int32 × Hp => J (d) YX12_changes 243 [.ref v0, .int v1, .int v2, .int v3, Value.null, .int v5, .int v6, .int q.1, Value.null] [] q.2 oV h9)) (Q := (fun y : Hp => y = h9)) (fun q x Hq hm => ?_) H rfl
  exact bX12_changes_243 Hq (fun s hs => by subst hs; exact hm) (fun z hz => by subst hz; exact hm)
noncomputable def MX12_changes_240 (h : Hp) (v0 : Nat) (v1 : Int32) (v2 : Int32) (v3 : Int32) (v5 : Int32) (v6 : Int32) : Option Hp :=
  MX12_changes_243 h v0 v1 v2 v3 v5 v6 (0 : Int32)
set_option maxRecDepth 100000 in
set_option maxHeartbeats 8000000 in
theorem kX12_changes_240 {d : Nat} {h : Hp} {v0 : Nat} {v1 : Int32} {v2 : Int32} {v3 : Int32} {v5 : Int32} {v6 : Int32} {h9 : Hp} (H : MX12_changes_240 h v0 v1 v2 v3 v5 v6 = some h9) : J (d) YX12_changes 240 [.ref v0, .int v1, .int v2, .int v3, Value.null, .int v5, .int v6, Value.null, Value.null] [] h oV h9 := by
  unfold MX12_changes_240 at H
  refine J_iconst (0 : Int32) dX12_changes_240 kc_0 ?_
  refine J_istore dX12_changes_241 (by decide) (ls' := [.ref v0, .int v1, .int v2, .int v3, Value.null, .int v5, .int v6, .int (0 : Int32), Value.null]) rfl ?_
  exact J_dr (kX12_changes_243 H ) ⟨rfl, ⟨rfl, ⟨rfl, ⟨rfl, ⟨rfl, ⟨rfl, ⟨rfl, trivial⟩⟩⟩⟩⟩⟩⟩
noncomputable def BX12_changes_186 (h : Hp) (v0 : Nat) (v1 : Int32) (v2 : Int32) (v3 : Int32) (v5 : Int32) (v6 : Int32) (v7 : Int32) (v8 : Int32) : Option ((Int32 × Hp) ⊕ ((Int32 × Hp) ⊕ Hp)) :=
  if (12 : Int32) ≤ v8 then
    some (.inr (.inl ((v7 + (1 : Int32)), h)))
  else
    gg (β := ((Int32 × Hp) ⊕ ((Int32 × Hp) ⊕ Hp))) (kd h v0 = 11) <|
    gg (β := ((Int32 × Hp) ⊕ ((Int32 × Hp) ⊕ Hp))) (kd h (gP h v0 44) = 20) <|
    gg (β := ((Int32 × Hp) ⊕ ((Int32 × Hp) ⊕ Hp))) (inB (((12 : Int32) * v7) + v8) (ln h (gP h v0 44)) = true) <|
    gg (β := ((Int32 × Hp) ⊕ ((Int32 × Hp) ⊕ Hp))) (kd h (gP h v0 1) = 20) <|
    gg (β := ((Int32 × Hp) ⊕ ((Int32 × Hp) ⊕ Hp))) (inB (((v1 + (165 : Int32)) + ((12 : Int32) * (v7 + v6))) + v8) (ln h (gP h v0 1)) = true) <|
    lt (α := Hp) (β := Option ((Int32 × Hp) ⊕ ((Int32 × Hp) ⊕ Hp))) (sI h (gP h v0 1) (((v1 + (165 : Int32)) + ((12 : Int32) * (v7 + v6))) + v8).toNatClampNeg (gI h (gP h v0 44) (((12 : Int32) * v7) + v8).toNatClampNeg)) fun (h70 : Hp) =>
    some (.inl ((v8 + (1 : Int32)), h70))
set_option maxRecDepth 100000 in
set_option maxHeartbeats 8000000 in
theorem bX12_changes_186 {d : Nat} {h : Hp} {v0 : Nat} {v1 : Int32} {v2 : Int32} {v3 : Int32} {v5 : Int32} {v6 : Int32} {v7 : Int32} {v8 : Int32} {h9 : Hp} {x : ((Int32 × Hp) ⊕ ((Int32 × Hp) ⊕ Hp))} (H : BX12_changes_186 h v0 v1 v2 v3 v5 v6 v7 v8 = some x) (hb0 : ∀ s : Int32 × Hp, x = .inl s → J (d) YX12_changes 186 [.ref v0, .int v1, .int v2, .int v3, Value.null, .int v5, .int v6, .int v7, .int s.1] [] s.2 oV h9) (hb1 : ∀ s : Int32 × Hp, x = .inr (.inl s) → J (d) YX12_changes 132 [.ref v0, .int v1, .int v2, .int v3, Value.null, .int v5, .int v6, .int s.1, Value.null] [] s.2 oV h9) (hx : ∀ z : Hp, x = .inr (.inr (z)) → z = h9) : J (d) YX12_changes 186 [.ref v0, .int v1, .int v2, .int v3, Value.null, .int v5, .int v6, .int v7, .int v8] [] h oV h9 := by
  unfold BX12_changes_186 at H
  refine J_iload dX12_changes_186 rfl ?_
  refine J_bipush (12 : Int32) dX12_changes_188 kb_12 ?_
  refine J_icmp_ge 234 dX12_changes_190 rfl (fun q64 => ?_) (fun q64 => ?_)
  · replace H := br1 q64 H
    refine J_iinc (v7 + (1 : Int32)) dX12_changes_234 rfl (congrArg (HAdd.hAdd v7) kc_1) (by decide) (ls' := [.ref v0, .int v1, .int v2, .int v3, Value.null, .int v5, .int v6, .int (v7 + (1 : Int32)), .int v8]) rfl ?_
    refine J_goto 132 dX12_changes_237 rfl ?_
    cases H
    exact J_dr (hb1 _ rfl) ⟨rfl, ⟨rfl, ⟨rfl, ⟨rfl, ⟨rfl, ⟨rfl, ⟨rfl, trivial⟩⟩⟩⟩⟩⟩⟩
  · replace H := br0 q64 H
    refine J_aload_n 0 dX12_changes_193 rfl rfl ?_
    obtain ⟨g65, H⟩ := gd H
    refine J_gP 11 1 dX12_changes_194 g65 flX12_8 rfl rfl ?_
    refine J_iload_n 1 dX12_changes_197 rfl rfl ?_
    refine J_sipush (165 : Int32) dX12_changes_198 ks_165 ?_
    refine J_iadd dX12_changes_201 ?_
    refine J_bipush (12 : Int32) dX12_changes_202 kb_12 ?_
    refine J_iload dX12_changes_204 rfl ?_
    refine J_iload dX12_changes_206 rfl ?_
    refine J_iadd dX12_changes_208 ?_
    refine J_imul dX12_changes_209 ?_
    refine J_iadd dX12_changes_210 ?_
    refine J_iload dX12_changes_211 rfl ?_
    refine J_iadd dX12_changes_213 ?_
    refine J_aload_n 0 dX12_changes_214 rfl rfl ?_
    refine J_gP 11 44 dX12_changes_215 g65 flX12_91 rfl rfl ?_
    refine J_bipush (12 : Int32) dX12_changes_218 kb_12 ?_
    refine J_iload dX12_changes_220 rfl ?_
    refine J_imul dX12_changes_222 ?_
    refine J_iload dX12_changes_223 rfl ?_
    refine J_iadd dX12_changes_225 ?_
    obtain ⟨g66, H⟩ := gd H
    obtain ⟨g67, H⟩ := gd H
    refine J_iald dX12_changes_226 g66 (inB_ok g67) ?_
    obtain ⟨g68, H⟩ := gd H
    obtain ⟨g69, H⟩ := gd H
    obtain ⟨h70, e71, H⟩ := lt_el H
    refine J_sI dX12_changes_227 g68 (inB_ok g69) e71 ?_
    have c72 := ekI e71
    have c73 := elI e71
    have c74 := epI e71
    refine J_iinc (v8 + (1 : Int32)) dX12_changes_228 rfl (congrArg (HAdd.hAdd v8) kc_1) (by decide) (ls' := [.ref v0, .int v1, .int v2, .int v3, Value.null, .int v5, .int v6, .int v7, .int (v8 + (1 : Int32))]) rfl ?_
    refine J_goto 186 dX12_changes_231 rfl ?_
    cases H
    exact J_dr (hb0 _ rfl) ⟨rfl, ⟨rfl, ⟨rfl, ⟨rfl, ⟨rfl, ⟨rfl, ⟨rfl, ⟨rfl, trivial⟩⟩⟩⟩⟩⟩⟩⟩
noncomputable def MX12_changes_186 (h : Hp) (v0 : Nat) (v1 : Int32) (v2 : Int32) (v3 : Int32) (v5 : Int32) (v6 : Int32) (v7 : Int32) (v8 : Int32) : Option ((Int32 × Hp) ⊕ Hp) := it (fun q : Int32 × Hp => BX12_changes_186 q.2 v0 v1 v2 v3 v5 v6 v7 q.1) (v8, h)
set_option maxRecDepth 100000 in
set_option maxHeartbeats 8000000 in
theorem kX12_changes_186 {d : Nat} {h : Hp} {v0 : Nat} {v1 : Int32} {v2 : Int32} {v3 : Int32} {v5 : Int32} {v6 : Int32} {v7 : Int32} {v8 : Int32} {h9 : Hp} {x : ((Int32 × Hp) ⊕ Hp)} (H : MX12_changes_186 h v0 v1 v2 v3 v5 v6 v7 v8 = some x) (hb0 : ∀ s : Int32 × Hp, x = .inl s → J (d) YX12_changes 132 [.ref v0, .int v1, .int v2, .int v3, Value.null, .int v5, .int v6, .int s.1, Value.null] [] s.2 oV h9) (hx : ∀ z : Hp, x = .inr (z) → z = h9) : J (d) YX12_changes 186 [.ref v0, .int v1, .int v2, .int v3, Value.null, .int v5, .int v6, .int v7, .int v8] [] h oV h9 := by
  unfold MX12_changes_186 at H
  refine it_J (G := (fun q : Int32 × Hp => J (d) YX12_changes 186 [.ref v0, .int v1, .int v2, .int v3, Value.null, .int v5, .int v6, .int v7, .int q.1] [] q.2 oV h9)) (Q := (fun y : ((Int32 × Hp) ⊕ Hp) => (∀ s : Int32 × Hp, y = .inl s → J (d) YX12_changes 132 [.ref v0, .int v1, .int v2, .int v3, Value.null, .int v5, .int v6, .int s.1, Value.null] [] s.2 oV h9) ∧ (∀ z : Hp, y = .inr (z) → z = h9))) (fun q x Hq hm => ?_) H ⟨hb0, hx⟩
  exact bX12_changes_186 Hq (fun s hs => by subst hs; exact hm) (fun s hs => by subst hs; exact (hm.1) s rfl) (fun z hz => by subst hz; exact (hm.2) z rfl)
noncomputable def BX12_changes_132 (h : Hp) (v0 : Nat) (v1 : Int32) (v2 : Int32) (v3 : Int32) (v5 : Int32) (v6 : Int32) (v7 : Int32) : Option ((Int32 × Hp) ⊕ Hp) :=
  if v5 ≤ v7 then
    up1 (MX12_changes_240 h v0 v1 v2 v3 v5 v6)
  else
    gg (β := ((Int32 × Hp) ⊕ Hp)) (kd h v0 = 11) <|
    gg (β := ((Int32 × Hp) ⊕ Hp)) (kd h (gP h v0 42) = 20) <|
    gg (β := ((Int32 × Hp) ⊕ Hp)) (inB v7 (ln h (gP h v0 42)) = true) <|
    gg (β := ((Int32 × Hp) ⊕ Hp)) (kd h (gP h v0 1) = 20) <|
    gg (β := ((Int32 × Hp) ⊕ Hp)) (inB (((v1 + (85 : Int32)) + v7) + v6) (ln h (gP h v0 1)) = true) <|
    lt (α := Hp) (β := Option ((Int32 × Hp) ⊕ Hp)) (sI h (gP h v0 1) (((v1 + (85 : Int32)) + v7) + v6).toNatClampNeg (gI h (gP h v0 42) v7.toNatClampNeg)) fun (h51 : Hp) =>
    gg (β := ((Int32 × Hp) ⊕ Hp)) (kd h (gP h v0 43) = 20) <|
    gg (β := ((Int32 × Hp) ⊕ Hp)) (inB v7 (ln h (gP h v0 43)) = true) <|
    gg (β := ((Int32 × Hp) ⊕ Hp)) (inB (((v1 + (125 : Int32)) + v7) + v6) (ln h (gP h v0 1)) = true) <|
    lt (α := Hp) (β := Option ((Int32 × Hp) ⊕ Hp)) (sI h51 (gP h v0 1) (((v1 + (125 : Int32)) + v7) + v6).toNatClampNeg (gI h51 (gP h v0 43) v7.toNatClampNeg)) fun (h59 : Hp) =>
    MX12_changes_186 h59 v0 v1 v2 v3 v5 v6 v7 (0 : Int32)
set_option maxRecDepth 100000 in
set_option maxHeartbeats 8000000 in
theorem bX12_changes_132 {d : Nat} {h : Hp} {v0 : Nat} {v1 : Int32} {v2 : Int32} {v3 : Int32} {v5 : Int32} {v6 : Int32} {v7 : Int32} {h9 : Hp} {x : ((Int32 × Hp) ⊕ Hp)} (H : BX12_changes_132 h v0 v1 v2 v3 v5 v6 v7 = some x) (hb0 : ∀ s : Int32 × Hp, x = .inl s → J (d) YX12_changes 132 [.ref v0, .int v1, .int v2, .int v3, Value.null, .int v5, .int v6, .int s.1, Value.null] [] s.2 oV h9) (hx : ∀ z : Hp, x = .inr (z) → z = h9) : J (d) YX12_changes 132 [.ref v0, .int v1, .int v2, .int v3, Value.null, .int v5, .int v6, .int v7, Value.null] [] h oV h9 := by
  unfold BX12_changes_132 at H
  refine J_iload dX12_changes_132 rfl ?_
  refine J_iload dX12_changes_134 rfl ?_
  refine J_icmp_ge 240 dX12_changes_136 rfl (fun q7 => ?_) (fun q7 => ?_)
  · replace H := br1 q7 H
    obtain ⟨y0, H90, rfl⟩ := up1_el H
    replace H := H90
    obtain rfl := hx _ rfl
    exact J_dr (kX12_changes_240 H ) ⟨rfl, ⟨rfl, ⟨rfl, ⟨rfl, ⟨rfl, ⟨rfl, trivial⟩⟩⟩⟩⟩⟩
  · replace H := br0 q7 H
    refine J_aload_n 0 dX12_changes_139 rfl rfl ?_
    obtain ⟨g46, H⟩ := gd H
    refine J_gP 11 1 dX12_changes_140 g46 flX12_8 rfl rfl ?_
    refine J_iload_n 1 dX12_changes_143 rfl rfl ?_
    refine J_bipush (85 : Int32) dX12_changes_144 kb_85 ?_
    refine J_iadd dX12_changes_146 ?_
    refine J_iload dX12_changes_147 rfl ?_
    refine J_iadd dX12_changes_149 ?_
    refine J_iload dX12_changes_150 rfl ?_
    refine J_iadd dX12_changes_152 ?_
    refine J_aload_n 0 dX12_changes_153 rfl rfl ?_
    refine J_gP 11 42 dX12_changes_154 g46 flX12_85 rfl rfl ?_
    refine J_iload dX12_changes_157 rfl ?_
    obtain ⟨g47, H⟩ := gd H
    obtain ⟨g48, H⟩ := gd H
    refine J_iald dX12_changes_159 g47 (inB_ok g48) ?_
    obtain ⟨g49, H⟩ := gd H
    obtain ⟨g50, H⟩ := gd H
    obtain ⟨h51, e52, H⟩ := lt_el H
    refine J_sI dX12_changes_160 g49 (inB_ok g50) e52 ?_
    have c53 := ekI e52
    have c54 := elI e52
    have c55 := epI e52
    refine J_aload_n 0 dX12_changes_161 rfl rfl ?_
    refine J_gP 11 1 dX12_changes_162 (kq c53 g46) flX12_8 rfl (congrFun (congrFun c55 v0) 1) ?_
    refine J_iload_n 1 dX12_changes_165 rfl rfl ?_
    refine J_bipush (125 : Int32) dX12_changes_166 kb_125 ?_
    refine J_iadd dX12_changes_168 ?_
    refine J_iload dX12_changes_169 rfl ?_
    refine J_iadd dX12_changes_171 ?_
    refine J_iload dX12_changes_172 rfl ?_
    refine J_iadd dX12_changes_174 ?_
    refine J_aload_n 0 dX12_changes_175 rfl rfl ?_
    refine J_gP 11 43 dX12_changes_176 (kq c53 g46) flX12_88 rfl (congrFun (congrFun c55 v0) 43) ?_
    refine J_iload dX12_changes_179 rfl ?_
    obtain ⟨g56, H⟩ := gd H
    obtain ⟨g57, H⟩ := gd H
    refine J_iald dX12_changes_181 (kq c53 g56) (lq c54 g57) ?_
    obtain ⟨g58, H⟩ := gd H
    obtain ⟨h59, e60, H⟩ := lt_el H
    refine J_sI dX12_changes_182 (kq c53 g49) (lq c54 g58) e60 ?_
    have c61 := (ekI e60).trans c53
    have c62 := (elI e60).trans c54
    have c63 := (epI e60).trans c55
    refine J_iconst (0 : Int32) dX12_changes_183 kc_0 ?_
    refine J_istore dX12_changes_184 (by decide) (ls' := [.ref v0, .int v1, .int v2, .int v3, Value.null, .int v5, .int v6, .int v7, .int (0 : Int32)]) rfl ?_
    exact J_dr (kX12_changes_186 H hb0 hx) ⟨rfl, ⟨rfl, ⟨rfl, ⟨rfl, ⟨rfl, ⟨rfl, ⟨rfl, ⟨rfl, trivial⟩⟩⟩⟩⟩⟩⟩⟩
noncomputable def MX12_changes_132 (h : Hp) (v0 : Nat) (v1 : Int32) (v2 : Int32) (v3 : Int32) (v5 : Int32) (v6 : Int32) (v7 : Int32) : Option Hp := it (fun q : Int32 × Hp => BX12_changes_132 q.2 v0 v1 v2 v3 v5 v6 q.1) (v7, h)
set_option maxRecDepth 100000 in
set_option maxHeartbeats 8000000 in
theorem kX12_changes_132 {d : Nat} {h : Hp} {v0 : Nat} {v1 : Int32} {v2 : Int32} {v3 : Int32} {v5 : Int32} {v6 : Int32} {v7 : Int32} {h9 : Hp} (H : MX12_changes_132 h v0 v1 v2 v3 v5 v6 v7 = some h9) : J (d) YX12_changes 132 [.ref v0, .int v1, .int v2, .int v3, Value.null, .int v5, .int v6, .int v7, Value.null] [] h oV h9 := by
  unfold MX12_changes_132 at H
  refine it_J (G := (fun q : Int32 × Hp => J (d) YX12_changes 132 [.ref v0, .int v1, .int v2, .int v3, Value.null, .int v5, .int v6, .int q.1, Value.null] [] q.2 oV h9)) (Q := (fun y : Hp => y = h9)) (fun q x Hq hm => ?_) H rfl
  exact bX12_changes_132 Hq (fun s hs => by subst hs; exact hm) (fun z hz => by subst hz; exact hm)
noncomputable def MX12_changes_126 (h : Hp) (v0 : Nat) (v1 : Int32) (v2 : Int32) (v3 : Int32) (v4 : Int32) (v5 : Int32) (v6 : Int32) : Option Hp :=
  MX12_changes_132 h v0 v1 v2 v3 v5 v6 (v3 + v4)
set_option maxRecDepth 100000 in
set_option maxHeartbeats 8000000 in
theorem kX12_changes_126 {d : Nat} {h : Hp} {v0 : Nat} {v1 : Int32} {v2 : Int32} {v3 : Int32} {v4 : Int32} {v5 : Int32} {v6 : Int32} {h9 : Hp} (H : MX12_changes_126 h v0 v1 v2 v3 v4 v5 v6 = some h9) : J (d) YX12_changes 126 [.ref v0, .int v1, .int v2, .int v3, .int v4, .int v5, .int v6, Value.null, Value.null] [] h oV h9 := by
  unfold MX12_changes_126 at H
  refine J_iload_n 3 dX12_changes_126 rfl rfl ?_
  refine J_iload dX12_changes_127 rfl ?_
  refine J_iadd dX12_changes_129 ?_
  refine J_istore dX12_changes_130 (by decide) (ls' := [.ref v0, .int v1, .int v2, .int v3, .int v4, .int v5, .int v6, .int (v3 + v4), Value.null]) rfl ?_
  exact J_dr (kX12_changes_132 H ) ⟨rfl, ⟨rfl, ⟨rfl, ⟨rfl, ⟨rfl, ⟨rfl, ⟨rfl, trivial⟩⟩⟩⟩⟩⟩⟩
noncomputable def BX12_changes_75 (h : Hp) (v0 : Nat) (v1 : Int32) (v2 : Int32) (v3 : Int32) (v4 : Int32) (v5 : Int32) (v6 : Int32) (v7 : Int32) (v8 : Int32) : Option ((Int32 × Hp) ⊕ ((Int32 × Hp) ⊕ Hp)) :=
  if (12 : Int32) ≤ v8 then
    some (.inr (.inl ((v7 + (1 : Int32)), h)))
  else
    gg (β := ((Int32 × Hp) ⊕ ((Int32 × Hp) ⊕ Hp))) (kd h v0 = 11) <|
    gg (β := ((Int32 × Hp) ⊕ ((Int32 × Hp) ⊕ Hp))) (kd h (gP h v0 1) = 20) <|
    gg (β := ((Int32 × Hp) ⊕ ((Int32 × Hp) ⊕ Hp))) (inB (((v1 + (165 : Int32)) + ((12 : Int32) * v7)) + v8) (ln h (gP h v0 1)) = true) <|
    gg (β := ((Int32 × Hp) ⊕ ((Int32 × Hp) ⊕ Hp))) (kd h (gP h v0 44) = 20) <|
    gg (β := ((Int32 × Hp) ⊕ ((Int32 × Hp) ⊕ Hp))) (inB (((12 : Int32) * v7) + v8) (ln h (gP h v0 44)) = true) <|
    lt (α := Hp) (β := Option ((Int32 × Hp) ⊕ ((Int32 × Hp) ⊕ Hp))) (sI h (gP h v0 44) (((12 : Int32) * v7) + v8).toNatClampNeg (gI h (gP h v0 1) (((v1 + (165 : Int32)) + ((12 : Int32) * v7)) + v8).toNatClampNeg)) fun (h99 : Hp) =>
    some (.inl ((v8 + (1 : Int32)), h99))
set_option maxRecDepth 100000 in
set_option maxHeartbeats 8000000 in
theorem bX12_changes_75 {d : Nat} {h : Hp} {v0 : Nat} {v1 : Int32} {v2 : Int32} {v3 : Int32} {v4 : Int32} {v5 : Int32} {v6 : Int32} {v7 : Int32} {v8 : Int32} {h9 : Hp} {x : ((Int32 × Hp) ⊕ ((Int32 × Hp) ⊕ Hp))} (H : BX12_changes_75 h v0 v1 v2 v3 v4 v5 v6 v7 v8 = some x) (hb0 : ∀ s : Int32 × Hp, x = .inl s → J (d) YX12_changes 75 [.ref v0, .int v1, .int v2, .int v3, .int v4, .int v5, .int v6, .int v7, .int s.1] [] s.2 oV h9) (hb1 : ∀ s : Int32 × Hp, x = .inr (.inl s) → J (d) YX12_changes 27 [.ref v0, .int v1, .int v2, .int v3, .int v4, .int v5, .int v6, .int s.1, Value.null] [] s.2 oV h9) (hx : ∀ z : Hp, x = .inr (.inr (z)) → z = h9) : J (d) YX12_changes 75 [.ref v0, .int v1, .int v2, .int v3, .int v4, .int v5, .int v6, .int v7, .int v8] [] h oV h9 := by
  unfold BX12_changes_75 at H
  refine J_iload dX12_changes_75 rfl ?_
  refine J_bipush (12 : Int32) dX12_changes_77 kb_12 ?_
  refine J_icmp_ge 120 dX12_changes_79 rfl (fun q93 => ?_) (fun q93 => ?_)
  · replace H := br1 q93 H
    refine J_iinc (v7 + (1 : Int32)) dX12_changes_120 rfl (congrArg (HAdd.hAdd v7) kc_1) (by decide) (ls' := [.ref v0, .int v1, .int v2, .int v3, .int v4, .int v5, .int v6, .int (v7 + (1 : Int32)), .int v8]) rfl ?_
    refine J_goto 27 dX12_changes_123 rfl ?_
    cases H
    exact J_dr (hb1 _ rfl) ⟨rfl, ⟨rfl, ⟨rfl, ⟨rfl, ⟨rfl, ⟨rfl, ⟨rfl, ⟨rfl, trivial⟩⟩⟩⟩⟩⟩⟩⟩
  · replace H := br0 q93 H
    refine J_aload_n 0 dX12_changes_82 rfl rfl ?_
    obtain ⟨g94, H⟩ := gd H
    refine J_gP 11 44 dX12_changes_83 g94 flX12_91 rfl rfl ?_
    refine J_bipush (12 : Int32) dX12_changes_86 kb_12 ?_
    refine J_iload dX12_changes_88 rfl ?_
    refine J_imul dX12_changes_90 ?_
    refine J_iload dX12_changes_91 rfl ?_
    refine J_iadd dX12_changes_93 ?_
    refine J_aload_n 0 dX12_changes_94 rfl rfl ?_
    refine J_gP 11 1 dX12_changes_95 g94 flX12_8 rfl rfl ?_
    refine J_iload_n 1 dX12_changes_98 rfl rfl ?_
    refine J_sipush (165 : Int32) dX12_changes_99 ks_165 ?_
    refine J_iadd dX12_changes_102 ?_
    refine J_bipush (12 : Int32) dX12_changes_103 kb_12 ?_
    refine J_iload dX12_changes_105 rfl ?_
    refine J_imul dX12_changes_107 ?_
    refine J_iadd dX12_changes_108 ?_
    refine J_iload dX12_changes_109 rfl ?_
    refine J_iadd dX12_changes_111 ?_
    obtain ⟨g95, H⟩ := gd H
    obtain ⟨g96, H⟩ := gd H
    refine J_iald dX12_changes_112 g95 (inB_ok g96) ?_
    obtain ⟨g97, H⟩ := gd H
    obtain ⟨g98, H⟩ := gd H
    obtain ⟨h99, e100, H⟩ := lt_el H
    refine J_sI dX12_changes_113 g97 (inB_ok g98) e100 ?_
    have c101 := ekI e100
    have c102 := elI e100
    have c103 := epI e100
    refine J_iinc (v8 + (1 : Int32)) dX12_changes_114 rfl (congrArg (HAdd.hAdd v8) kc_1) (by decide) (ls' := [.ref v0, .int v1, .int v2, .int v3, .int v4, .int v5, .int v6, .int v7, .int (v8 + (1 : Int32))]) rfl ?_
    refine J_goto 75 dX12_changes_117 rfl ?_
    cases H
    exact J_dr (hb0 _ rfl) ⟨rfl, ⟨rfl, ⟨rfl, ⟨rfl, ⟨rfl, ⟨rfl, ⟨rfl, ⟨rfl, ⟨rfl, trivial⟩⟩⟩⟩⟩⟩⟩⟩⟩
noncomputable def MX12_changes_75 (h : Hp) (v0 : Nat) (v1 : Int32) (v2 : Int32) (v3 : Int32) (v4 : Int32) (v5 : Int32) (v6 : Int32) (v7 : Int32) (v8 : Int32) : Option ((Int32 × Hp) ⊕ Hp) := it (fun q : Int32 × Hp => BX12_changes_75 q.2 v0 v1 v2 v3 v4 v5 v6 v7 q.1) (v8, h)
set_option maxRecDepth 100000 in
set_option maxHeartbeats 8000000 in
theorem kX12_changes_75 {d : Nat} {h : Hp} {v0 : Nat} {v1 : Int32} {v2 : Int32} {v3 : Int32} {v4 : Int32} {v5 : Int32} {v6 : Int32} {v7 : Int32} {v8 : Int32} {h9 : Hp} {x : ((Int32 × Hp) ⊕ Hp)} (H : MX12_changes_75 h v0 v1 v2 v3 v4 v5 v6 v7 v8 = some x) (hb0 : ∀ s : Int32 × Hp, x = .inl s → J (d) YX12_changes 27 [.ref v0, .int v1, .int v2, .int v3, .int v4, .int v5, .int v6, .int s.1, Value.null] [] s.2 oV h9) (hx : ∀ z : Hp, x = .inr (z) → z = h9) : J (d) YX12_changes 75 [.ref v0, .int v1, .int v2, .int v3, .int v4, .int v5, .int v6, .int v7, .int v8] [] h oV h9 := by
  unfold MX12_changes_75 at H
  refine it_J (G := (fun q : Int32 × Hp => J (d) YX12_changes 75 [.ref v0, .int v1, .int v2, .int v3, .int v4, .int v5, .int v6, .int v7, .int q.1] [] q.2 oV h9)) (Q := (fun y : ((Int32 × Hp) ⊕ Hp) => (∀ s : Int32 × Hp, y = .inl s → J (d) YX12_changes 27 [.ref v0, .int v1, .int v2, .int v3, .int v4, .int v5, .int v6, .int s.1, Value.null] [] s.2 oV h9) ∧ (∀ z : Hp, y = .inr (z) → z = h9))) (fun q x Hq hm => ?_) H ⟨hb0, hx⟩
  exact bX12_changes_75 Hq (fun s hs => by subst hs; exact hm) (fun s hs => by subst hs; exact (hm.1) s rfl) (fun z hz => by subst hz; exact (hm.2) z rfl)
noncomputable def BX12_changes_27 (h : Hp) (v0 : Nat) (v1 : Int32) (v2 : Int32) (v3 : Int32) (v4 : Int32) (v5 : Int32) (v6 : Int32) (v7 : Int32) : Option ((Int32 × Hp) ⊕ Hp) :=
  if v5 ≤ v7 then
    up1 (MX12_changes_126 h v0 v1 v2 v3 v4 v5 v6)
  else
    gg (β := ((Int32 × Hp) ⊕ Hp)) (kd h v0 = 11) <|
    gg (β := ((Int32 × Hp) ⊕ Hp)) (kd h (gP h v0 1) = 20) <|
    gg (β := ((Int32 × Hp) ⊕ Hp)) (inB ((v1 + (85 : Int32)) + v7) (ln h (gP h v0 1)) = true) <|
    gg (β := ((Int32 × Hp) ⊕ Hp)) (kd h (gP h v0 42) = 20) <|
    gg (β := ((Int32 × Hp) ⊕ Hp)) (inB v7 (ln h (gP h v0 42)) = true) <|
    lt (α := Hp) (β := Option ((Int32 × Hp) ⊕ Hp)) (sI h (gP h v0 42) v7.toNatClampNeg (gI h (gP h v0 1) ((v1 + (85 : Int32)) + v7).toNatClampNeg)) fun (h80 : Hp) =>
    gg (β := ((Int32 × Hp) ⊕ Hp)) (inB ((v1 + (125 : Int32)) + v7) (ln h (gP h v0 1)) = true) <|
    gg (β := ((Int32 × Hp) ⊕ Hp)) (kd h (gP h v0 43) = 20) <|
    gg (β := ((Int32 × Hp) ⊕ Hp)) (inB v7 (ln h (gP h v0 43)) = true) <|
    lt (α := Hp) (β := Option ((Int32 × Hp) ⊕ Hp)) (sI h80 (gP h v0 43) v7.toNatClampNeg (gI h80 (gP h v0 1) ((v1 + (125 : Int32)) + v7).toNatClampNeg)) fun (h88 : Hp) =>
    MX12_changes_75 h88 v0 v1 v2 v3 v4 v5 v6 v7 (0 : Int32)
set_option maxRecDepth 100000 in
set_option maxHeartbeats 8000000 in
theorem bX12_changes_27 {d : Nat} {h : Hp} {v0 : Nat} {v1 : Int32} {v2 : Int32} {v3 : Int32} {v4 : Int32} {v5 : Int32} {v6 : Int32} {v7 : Int32} {h9 : Hp} {x : ((Int32 × Hp) ⊕ Hp)} (H : BX12_changes_27 h v0 v1 v2 v3 v4 v5 v6 v7 = some x) (hb0 : ∀ s : Int32 × Hp, x = .inl s → J (d) YX12_changes 27 [.ref v0, .int v1, .int v2, .int v3, .int v4, .int v5, .int v6, .int s.1, Value.null] [] s.2 oV h9) (hx : ∀ z : Hp, x = .inr (z) → z = h9) : J (d) YX12_changes 27 [.ref v0, .int v1, .int v2, .int v3, .int v4, .int v5, .int v6, .int v7, Value.null] [] h oV h9 := by
  unfold BX12_changes_27 at H
  refine J_iload dX12_changes_27 rfl ?_
  refine J_iload dX12_changes_29 rfl ?_
  refine J_icmp_ge 126 dX12_changes_31 rfl (fun q6 => ?_) (fun q6 => ?_)
  · replace H := br1 q6 H
    obtain ⟨y0, H90, rfl⟩ := up1_el H
    replace H := H90
    obtain rfl := hx _ rfl
    exact J_dr (kX12_changes_126 H ) ⟨rfl, ⟨rfl, ⟨rfl, ⟨rfl, ⟨rfl, ⟨rfl, ⟨rfl, trivial⟩⟩⟩⟩⟩⟩⟩
  · replace H := br0 q6 H
    refine J_aload_n 0 dX12_changes_34 rfl rfl ?_
    obtain ⟨g75, H⟩ := gd H
    refine J_gP 11 42 dX12_changes_35 g75 flX12_85 rfl rfl ?_
    refine J_iload dX12_changes_38 rfl ?_
    refine J_aload_n 0 dX12_changes_40 rfl rfl ?_
    refine J_gP 11 1 dX12_changes_41 g75 flX12_8 rfl rfl ?_
    refine J_iload_n 1 dX12_changes_44 rfl rfl ?_
    refine J_bipush (85 : Int32) dX12_changes_45 kb_85 ?_
    refine J_iadd dX12_changes_47 ?_
    refine J_iload dX12_changes_48 rfl ?_
    refine J_iadd dX12_changes_50 ?_
    obtain ⟨g76, H⟩ := gd H
    obtain ⟨g77, H⟩ := gd H
    refine J_iald dX12_changes_51 g76 (inB_ok g77) ?_
    obtain ⟨g78, H⟩ := gd H
    obtain ⟨g79, H⟩ := gd H
    obtain ⟨h80, e81, H⟩ := lt_el H
    refine J_sI dX12_changes_52 g78 (inB_ok g79) e81 ?_
    have c82 := ekI e81
    have c83 := elI e81
    have c84 := epI e81
    refine J_aload_n 0 dX12_changes_53 rfl rfl ?_
    refine J_gP 11 43 dX12_changes_54 (kq c82 g75) flX12_88 rfl (congrFun (congrFun c84 v0) 43) ?_
    refine J_iload dX12_changes_57 rfl ?_
    refine J_aload_n 0 dX12_changes_59 rfl rfl ?_
    refine J_gP 11 1 dX12_changes_60 (kq c82 g75) flX12_8 rfl (congrFun (congrFun c84 v0) 1) ?_
    refine J_iload_n 1 dX12_changes_63 rfl rfl ?_
    refine J_bipush (125 : Int32) dX12_changes_64 kb_125 ?_
    refine J_iadd dX12_changes_66 ?_
    refine J_iload dX12_changes_67 rfl ?_
    refine J_iadd dX12_changes_69 ?_
    obtain ⟨g85, H⟩ := gd H
    refine J_iald dX12_changes_70 (kq c82 g76) (lq c83 g85) ?_
    obtain ⟨g86, H⟩ := gd H
    obtain ⟨g87, H⟩ := gd H
    obtain ⟨h88, e89, H⟩ := lt_el H
    refine J_sI dX12_changes_71 (kq c82 g86) (lq c83 g87) e89 ?_
    have c90 := (ekI e89).trans c82
    have c91 := (elI e89).trans c83
    have c92 := (epI e89).trans c84
    refine J_iconst (0 : Int32) dX12_changes_72 kc_0 ?_
    refine J_istore dX12_changes_73 (by decide) (ls' := [.ref v0, .int v1, .int v2, .int v3, .int v4, .int v5, .int v6, .int v7, .int (0 : Int32)]) rfl ?_
    exact J_dr (kX12_changes_75 H hb0 hx) ⟨rfl, ⟨rfl, ⟨rfl, ⟨rfl, ⟨rfl, ⟨rfl, ⟨rfl, ⟨rfl, ⟨rfl, trivial⟩⟩⟩⟩⟩⟩⟩⟩⟩
noncomputable def MX12_changes_27 (h : Hp) (v0 : Nat) (v1 : Int32) (v2 : Int32) (v3 : Int32) (v4 : Int32) (v5 : Int32) (v6 : Int32) (v7 : Int32) : Option Hp := it (fun q : Int32 × Hp => BX12_changes_27 q.2 v0 v1 v2 v3 v4 v5 v6 q.1) (v7, h)
set_option maxRecDepth 100000 in
set_option maxHeartbeats 8000000 in
theorem kX12_changes_27 {d : Nat} {h : Hp} {v0 : Nat} {v1 : Int32} {v2 : Int32} {v3 : Int32} {v4 : Int32} {v5 : Int32} {v6 : Int32} {v7 : Int32} {h9 : Hp} (H : MX12_changes_27 h v0 v1 v2 v3 v4 v5 v6 v7 = some h9) : J (d) YX12_changes 27 [.ref v0, .int v1, .int v2, .int v3, .int v4, .int v5, .int v6, .int v7, Value.null] [] h oV h9 := by
  unfold MX12_changes_27 at H
  refine it_J (G := (fun q : Int32 × Hp => J (d) YX12_changes 27 [.ref v0, .int v1, .int v2, .int v3, .int v4, .int v5, .int v6, .int q.1, Value.null] [] q.2 oV h9)) (Q := (fun y : Hp => y = h9)) (fun q x Hq hm => ?_) H rfl
  exact bX12_changes_27 Hq (fun s hs => by subst hs; exact hm) (fun z hz => by subst hz; exact hm)
noncomputable def MX12_changes (h : Hp) (v0 : Nat) (v1 : Int32) (v2 : Int32) (v3 : Int32) (v4 : Int32) : Option Hp :=
  gg (β := Hp) (kd h v0 = 11) <|
  gg (β := Hp) (kd h (gP h v0 1) = 20) <|
  gg (β := Hp) (inB (v1 + (1 : Int32)) (ln h (gP h v0 1)) = true) <|
  gg (β := Hp) (kd h (gP h v0 15) = 20) <|
  gg (β := Hp) (inB (0 : Int32) (ln h (gP h v0 15)) = true) <|
  MX12_changes_27 h v0 v1 v2 v3 v4 (gI h (gP h v0 1) (v1 + (1 : Int32)).toNatClampNeg) ((gI h (gP h v0 15) (0 : Int32).toNatClampNeg) - v4) (v3 + v4)
set_option maxRecDepth 100000 in
set_option maxHeartbeats 8000000 in
theorem eX12_changes {d : Nat} {h : Hp} {v0 : Nat} {v1 : Int32} {v2 : Int32} {v3 : Int32} {v4 : Int32} {h9 : Hp} (H : MX12_changes h v0 v1 v2 v3 v4 = some h9) : J (d) YX12_changes 0 [.ref v0, .int v1, .int v2, .int v3, .int v4, Value.null, Value.null, Value.null, Value.null] [] h oV h9 := by
  unfold MX12_changes at H
  refine J_aload_n 0 dX12_changes_0 rfl rfl ?_
  obtain ⟨g1, H⟩ := gd H
  refine J_gP 11 1 dX12_changes_1 g1 flX12_8 rfl rfl ?_
  refine J_iload_n 1 dX12_changes_4 rfl rfl ?_
  refine J_iconst (1 : Int32) dX12_changes_5 kc_1 ?_
  refine J_iadd dX12_changes_6 ?_
  obtain ⟨g2, H⟩ := gd H
  obtain ⟨g3, H⟩ := gd H
  refine J_iald dX12_changes_7 g2 (inB_ok g3) ?_
  refine J_istore dX12_changes_8 (by decide) (ls' := [.ref v0, .int v1, .int v2, .int v3, .int v4, .int (gI h (gP h v0 1) (v1 + (1 : Int32)).toNatClampNeg), Value.null, Value.null, Value.null]) rfl ?_
  refine J_aload_n 0 dX12_changes_10 rfl rfl ?_
  refine J_gP 11 15 dX12_changes_11 g1 flX12_36 rfl rfl ?_
  refine J_iconst (0 : Int32) dX12_changes_14 kc_0 ?_
  obtain ⟨g4, H⟩ := gd H
  obtain ⟨g5, H⟩ := gd H
  refine J_iald dX12_changes_15 g4 (inB_ok g5) ?_
  refine J_iload dX12_changes_16 rfl ?_
  refine J_isub dX12_changes_18 ?_
  refine J_istore dX12_changes_19 (by decide) (ls' := [.ref v0, .int v1, .int v2, .int v3, .int v4, .int (gI h (gP h v0 1) (v1 + (1 : Int32)).toNatClampNeg), .int ((gI h (gP h v0 15) (0 : Int32).toNatClampNeg) - v4), Value.null, Value.null]) rfl ?_
  refine J_iload_n 3 dX12_changes_21 rfl rfl ?_
  refine J_iload dX12_changes_22 rfl ?_
  refine J_iadd dX12_changes_24 ?_
  refine J_istore dX12_changes_25 (by decide) (ls' := [.ref v0, .int v1, .int v2, .int v3, .int v4, .int (gI h (gP h v0 1) (v1 + (1 : Int32)).toNatClampNeg), .int ((gI h (gP h v0 15) (0 : Int32).toNatClampNeg) - v4), .int (v3 + v4), Value.null]) rfl ?_
  exact J_dr (kX12_changes_27 H ) ⟨rfl, ⟨rfl, ⟨rfl, ⟨rfl, ⟨rfl, ⟨rfl, ⟨rfl, ⟨rfl, trivial⟩⟩⟩⟩⟩⟩⟩⟩
theorem okX12_changes {d : Nat} {h : Hp} {v0 : Nat} {v1 : Int32} {v2 : Int32} {v3 : Int32} {v4 : Int32} {h9 : Hp} (H : MX12_changes h v0 v1 v2 v3 v4 = some h9) : CT (d) YX12_changes [.ref v0, .int v1, .int v2, .int v3, .int v4] h oV h9 := CT_of (by decide +kernel) (Nat.le_of_ble_eq_true rfl) (eX12_changes H)
noncomputable def MX12_check_113 (h : Hp) (v1 : Int32) (v2 : Int32) : Option (Int32 × Hp) :=
  some ((((4 : Int32) * v1) + v2), h)
set_option maxRecDepth 100000 in
set_option maxHeartbeats 8000000 in
theorem kX12_check_113 {d : Nat} {h : Hp} {v1 : Int32} {v2 : Int32} {r : Int32} {h9 : Hp} (H : MX12_check_113 h v1 v2 = some (r, h9)) : J (d + 1) YX12_check 113 [Value.null, .int v1, .int v2, Value.null, Value.null] [] h (oI r) h9 := by
  unfold MX12_check_113 at H
  refine J_iconst (4 : Int32) dX12_check_113 kc_4 ?_
  refine J_iload_n 1 dX12_check_114 rfl rfl ?_
  refine J_imul dX12_check_115 ?_
  refine J_iload_n 2 dX12_check_116 rfl rfl ?_
  refine J_iadd dX12_check_117 ?_
  cases H
  exact J_iretI dX12_check_118 rfl
noncomputable def MX12_check_93 (h : Hp) (v0 : Nat) (v1 : Int32) (v2 : Int32) (v3 : Int32) : Option ((Int32) ⊕ ((Int32) ⊕ (Int32 × Hp))) :=
  gg (β := ((Int32) ⊕ ((Int32) ⊕ (Int32 × Hp)))) (kd h v0 = 11) <|
  gg (β := ((Int32) ⊕ ((Int32) ⊕ (Int32 × Hp)))) (kd h (gP h v0 1) = 20) <|
  gg (β := ((Int32) ⊕ ((Int32) ⊕ (Int32 × Hp)))) (inB ((((337180 : Int32) + ((5 : Int32) * v1)) + (1 : Int32)) + v2) (ln h (gP h v0 1)) = true) <|
  if (gI h (gP h v0 1) ((((337180 : Int32) + ((5 : Int32) * v1)) + (1 : Int32)) + v2).toNatClampNeg) = v3 then
    some (.inl (v2 + (1 : Int32)))
  else
    up1 (up1 (MX12_check_113 h v1 v2))
set_option maxRecDepth 100000 in
set_option maxHeartbeats 8000000 in
theorem kX12_check_93 {d : Nat} {h : Hp} {v0 : Nat} {v1 : Int32} {v2 : Int32} {v3 : Int32} {r : Int32} {h9 : Hp} {x : ((Int32) ⊕ ((Int32) ⊕ (Int32 × Hp)))} (H : MX12_check_93 h v0 v1 v2 v3 = some x) (hb0 : ∀ s : Int32, x = .inl s → J (d + 1) YX12_check 20 [.ref v0, .int v1, .int s, Value.null, Value.null] [] h (oI r) h9) (hb1 : ∀ s : Int32, x = .inr (.inl s) → J (d + 1) YX12_check 7 [.ref v0, .int s, Value.null, Value.null, Value.null] [] h (oI r) h9) (hx : ∀ z : (Int32 × Hp), x = .inr (.inr (z)) → z = (r, h9)) : J (d + 1) YX12_check 93 [.ref v0, .int v1, .int v2, .int v3, Value.null] [] h (oI r) h9 := by
  unfold MX12_check_93 at H
  refine J_aload_n 0 dX12_check_93 rfl rfl ?_
  obtain ⟨g16, H⟩ := gd H
  refine J_gP 11 1 dX12_check_94 g16 flX12_8 rfl rfl ?_
  refine J_ldcw (337180 : Int32) coX12_390 dX12_check_97 ?_
  refine J_iconst (5 : Int32) dX12_check_100 kc_5 ?_
  refine J_iload_n 1 dX12_check_101 rfl rfl ?_
  refine J_imul dX12_check_102 ?_
  refine J_iadd dX12_check_103 ?_
  refine J_iconst (1 : Int32) dX12_check_104 kc_1 ?_
  refine J_iadd dX12_check_105 ?_
  refine J_iload_n 2 dX12_check_106 rfl rfl ?_
  refine J_iadd dX12_check_107 ?_
  obtain ⟨g17, H⟩ := gd H
  obtain ⟨g18, H⟩ := gd H
  refine J_iald dX12_check_108 g17 (inB_ok g18) ?_
  refine J_iload_n 3 dX12_check_109 rfl rfl ?_
  refine J_icmp_eq 119 dX12_check_110 rfl (fun q19 => ?_) (fun q19 => ?_)
  · replace H := br1 q19 H
    refine J_iinc (v2 + (1 : Int32)) dX12_check_119 rfl (congrArg (HAdd.hAdd v2) kc_1) (by decide) (ls' := [.ref v0, .int v1, .int (v2 + (1 : Int32)), .int v3, Value.null]) rfl ?_
    refine J_goto 20 dX12_check_122 rfl ?_
    cases H
    exact J_dr (hb0 _ rfl) ⟨rfl, ⟨rfl, ⟨rfl, trivial⟩⟩⟩
  · replace H := br0 q19 H
    obtain ⟨y0, H90, rfl⟩ := up1_el H
    replace H := H90
    obtain ⟨y1, H91, rfl⟩ := up1_el H
    replace H := H91
    obtain rfl := hx _ rfl
    exact J_dr (kX12_check_113 H ) ⟨rfl, ⟨rfl, trivial⟩⟩
noncomputable def BX12_check_30 (h : Hp) (v0 : Nat) (v1 : Int32) (v2 : Int32) (v3 : Int32) (v4 : Int32) : Option ((Int32 × Int32) ⊕ ((Int32) ⊕ ((Int32) ⊕ (Int32 × Hp)))) :=
  gg (β := ((Int32 × Int32) ⊕ ((Int32) ⊕ ((Int32) ⊕ (Int32 × Hp))))) (kd h v0 = 11) <|
  gg (β := ((Int32 × Int32) ⊕ ((Int32) ⊕ ((Int32) ⊕ (Int32 × Hp))))) (kd h (gP h v0 1) = 20) <|
  gg (β := ((Int32 × Int32) ⊕ ((Int32) ⊕ ((Int32) ⊕ (Int32 × Hp))))) (inB (4 : Int32) (ln h (gP h v0 1)) = true) <|
  if (gI h (gP h v0 1) (4 : Int32).toNatClampNeg) ≤ v4 then
    up1 (MX12_check_93 h v0 v1 v2 v3)
  else
    Option.bind (α := Int32) (β := ((Int32 × Int32) ⊕ ((Int32) ⊕ ((Int32) ⊕ (Int32 × Hp))))) (MX12_slug0 h v4) fun (t21 : Int32) =>
    gg (β := ((Int32 × Int32) ⊕ ((Int32) ⊕ ((Int32) ⊕ (Int32 × Hp))))) (inB (t21 + (1 : Int32)) (ln h (gP h v0 1)) = true) <|
    if (gI h (gP h v0 1) (t21 + (1 : Int32)).toNatClampNeg) = v2 then
      Option.bind (α := Int32) (β := ((Int32 × Int32) ⊕ ((Int32) ⊕ ((Int32) ⊕ (Int32 × Hp))))) (MX12_slug0 h v4) fun (t25 : Int32) =>
      gg (β := ((Int32 × Int32) ⊕ ((Int32) ⊕ ((Int32) ⊕ (Int32 × Hp))))) (inB (t25 + (2 : Int32)) (ln h (gP h v0 1)) = true) <|
      gg (β := ((Int32 × Int32) ⊕ ((Int32) ⊕ ((Int32) ⊕ (Int32 × Hp))))) (inB ((337180 : Int32) + ((5 : Int32) * v1)) (ln h (gP h v0 1)) = true) <|
      if (gI h (gP h v0 1) (t25 + (2 : Int32)).toNatClampNeg) = (gI h (gP h v0 1) ((337180 : Int32) + ((5 : Int32) * v1)).toNatClampNeg) then
        some (.inl (v4, (v4 + (1 : Int32))))
      else
        some (.inl (v3, (v4 + (1 : Int32))))
    else
      some (.inl (v3, (v4 + (1 : Int32))))
set_option maxRecDepth 100000 in
set_option maxHeartbeats 8000000 in
theorem bX12_check_30 {d : Nat} {h : Hp} {v0 : Nat} {v1 : Int32} {v2 : Int32} {v3 : Int32} {v4 : Int32} {r : Int32} {h9 : Hp} {x : ((Int32 × Int32) ⊕ ((Int32) ⊕ ((Int32) ⊕ (Int32 × Hp))))} (H : BX12_check_30 h v0 v1 v2 v3 v4 = some x) (hb0 : ∀ s : Int32 × Int32, x = .inl s → J (d + 1) YX12_check 30 [.ref v0, .int v1, .int v2, .int s.1, .int s.2] [] h (oI r) h9) (hb1 : ∀ s : Int32, x = .inr (.inl s) → J (d + 1) YX12_check 20 [.ref v0, .int v1, .int s, Value.null, Value.null] [] h (oI r) h9) (hb2 : ∀ s : Int32, x = .inr (.inr (.inl s)) → J (d + 1) YX12_check 7 [.ref v0, .int s, Value.null, Value.null, Value.null] [] h (oI r) h9) (hx : ∀ z : (Int32 × Hp), x = .inr (.inr (.inr (z))) → z = (r, h9)) : J (d + 1) YX12_check 30 [.ref v0, .int v1, .int v2, .int v3, .int v4] [] h (oI r) h9 := by
  unfold BX12_check_30 at H
  refine J_iload dX12_check_30 rfl ?_
  refine J_aload_n 0 dX12_check_32 rfl rfl ?_
  obtain ⟨g12, H⟩ := gd H
  refine J_gP 11 1 dX12_check_33 g12 flX12_8 rfl rfl ?_
  refine J_iconst (4 : Int32) dX12_check_36 kc_4 ?_
  obtain ⟨g13, H⟩ := gd H
  obtain ⟨g14, H⟩ := gd H
  refine J_iald dX12_check_37 g13 (inB_ok g14) ?_
  refine J_icmp_ge 93 dX12_check_38 rfl (fun q15 => ?_) (fun q15 => ?_)
  · replace H := br1 q15 H
    obtain ⟨y0, H90, rfl⟩ := up1_el H
    replace H := H90
    exact J_dr (kX12_check_93 H (fun s hs => hb1 s (congrArg Sum.inr hs)) (fun s hs => hb2 s (congrArg Sum.inr hs)) (fun s hs => hx s (congrArg Sum.inr hs))) ⟨rfl, ⟨rfl, ⟨rfl, ⟨rfl, trivial⟩⟩⟩⟩
  · replace H := br0 q15 H
    refine J_aload_n 0 dX12_check_41 rfl rfl ?_
    refine J_gP 11 1 dX12_check_42 g12 flX12_8 rfl rfl ?_
    refine J_iload dX12_check_45 rfl ?_
    obtain ⟨t21, e20, H⟩ := bd H
    refine J_cS (as := [.int v4]) YX12_slug0 1 dX12_check_47 moX12_slug0 msX12_slug0 mlX12_342 (okX12_slug0 (d := d) e20) rfl rfl [.ref (gP h v0 1)] rfl rfl (st2 := [.int t21, .ref (gP h v0 1)]) rfl ?_
    refine J_iconst (1 : Int32) dX12_check_50 kc_1 ?_
    refine J_iadd dX12_check_51 ?_
    obtain ⟨g22, H⟩ := gd H
    refine J_iald dX12_check_52 g13 (inB_ok g22) ?_
    refine J_iload_n 2 dX12_check_53 rfl rfl ?_
    refine J_icmp_ne 87 dX12_check_54 rfl (fun q23 => ?_) (fun q23 => ?_)
    · replace H := br0 q23 H
      refine J_iinc (v4 + (1 : Int32)) dX12_check_87 rfl (congrArg (HAdd.hAdd v4) kc_1) (by decide) (ls' := [.ref v0, .int v1, .int v2, .int v3, .int (v4 + (1 : Int32))]) rfl ?_
      refine J_goto 30 dX12_check_90 rfl ?_
      cases H
      exact J_dr (hb0 _ rfl) ⟨rfl, ⟨rfl, ⟨rfl, ⟨rfl, ⟨rfl, trivial⟩⟩⟩⟩⟩
    · replace H := br1 q23 H
      refine J_aload_n 0 dX12_check_57 rfl rfl ?_
      refine J_gP 11 1 dX12_check_58 g12 flX12_8 rfl rfl ?_
      refine J_iload dX12_check_61 rfl ?_
      obtain ⟨t25, e24, H⟩ := bd H
      refine J_cS (as := [.int v4]) YX12_slug0 1 dX12_check_63 moX12_slug0 msX12_slug0 mlX12_342 (okX12_slug0 (d := d) e24) rfl rfl [.ref (gP h v0 1)] rfl rfl (st2 := [.int t25, .ref (gP h v0 1)]) rfl ?_
      refine J_iconst (2 : Int32) dX12_check_66 kc_2 ?_
      refine J_iadd dX12_check_67 ?_
      obtain ⟨g26, H⟩ := gd H
      refine J_iald dX12_check_68 g13 (inB_ok g26) ?_
      refine J_aload_n 0 dX12_check_69 rfl rfl ?_
      refine J_gP 11 1 dX12_check_70 g12 flX12_8 rfl rfl ?_
      refine J_ldcw (337180 : Int32) coX12_390 dX12_check_73 ?_
      refine J_iconst (5 : Int32) dX12_check_76 kc_5 ?_
      refine J_iload_n 1 dX12_check_77 rfl rfl ?_
      refine J_imul dX12_check_78 ?_
      refine J_iadd dX12_check_79 ?_
      obtain ⟨g27, H⟩ := gd H
      refine J_iald dX12_check_80 g13 (inB_ok g27) ?_
      refine J_icmp_ne 87 dX12_check_81 rfl (fun q28 => ?_) (fun q28 => ?_)
      · replace H := br0 q28 H
        refine J_iinc (v4 + (1 : Int32)) dX12_check_87 rfl (congrArg (HAdd.hAdd v4) kc_1) (by decide) (ls' := [.ref v0, .int v1, .int v2, .int v3, .int (v4 + (1 : Int32))]) rfl ?_
        refine J_goto 30 dX12_check_90 rfl ?_
        cases H
        exact J_dr (hb0 _ rfl) ⟨rfl, ⟨rfl, ⟨rfl, ⟨rfl, ⟨rfl, trivial⟩⟩⟩⟩⟩
      · replace H := br1 q28 H
        refine J_iload dX12_check_84 rfl ?_
        refine J_istore_n 3 dX12_check_86 rfl (by decide) (ls' := [.ref v0, .int v1, .int v2, .int v4, .int v4]) rfl ?_
        refine J_iinc (v4 + (1 : Int32)) dX12_check_87 rfl (congrArg (HAdd.hAdd v4) kc_1) (by decide) (ls' := [.ref v0, .int v1, .int v2, .int v4, .int (v4 + (1 : Int32))]) rfl ?_
        refine J_goto 30 dX12_check_90 rfl ?_
        cases H
        exact J_dr (hb0 _ rfl) ⟨rfl, ⟨rfl, ⟨rfl, ⟨rfl, ⟨rfl, trivial⟩⟩⟩⟩⟩
noncomputable def MX12_check_30 (h : Hp) (v0 : Nat) (v1 : Int32) (v2 : Int32) (v3 : Int32) (v4 : Int32) : Option ((Int32) ⊕ ((Int32) ⊕ (Int32 × Hp))) := it (fun q : Int32 × Int32 => BX12_check_30 h v0 v1 v2 q.1 q.2) (v3, v4)
set_option maxRecDepth 100000 in
set_option maxHeartbeats 8000000 in
theorem kX12_check_30 {d : Nat} {h : Hp} {v0 : Nat} {v1 : Int32} {v2 : Int32} {v3 : Int32} {v4 : Int32} {r : Int32} {h9 : Hp} {x : ((Int32) ⊕ ((Int32) ⊕ (Int32 × Hp)))} (H : MX12_check_30 h v0 v1 v2 v3 v4 = some x) (hb0 : ∀ s : Int32, x = .inl s → J (d + 1) YX12_check 20 [.ref v0, .int v1, .int s, Value.null, Value.null] [] h (oI r) h9) (hb1 : ∀ s : Int32, x = .inr (.inl s) → J (d + 1) YX12_check 7 [.ref v0, .int s, Value.null, Value.null, Value.null] [] h (oI r) h9) (hx : ∀ z : (Int32 × Hp), x = .inr (.inr (z)) → z = (r, h9)) : J (d + 1) YX12_check 30 [.ref v0, .int v1, .int v2, .int v3, .int v4] [] h (oI r) h9 := by
  unfold MX12_check_30 at H
  refine it_J (G := (fun q : Int32 × Int32 => J (d + 1) YX12_check 30 [.ref v0, .int v1, .int v2, .int q.1, .int q.2] [] h (oI r) h9)) (Q := (fun y : ((Int32) ⊕ ((Int32) ⊕ (Int32 × Hp))) => (∀ s : Int32, y = .inl s → J (d + 1) YX12_check 20 [.ref v0, .int v1, .int s, Value.null, Value.null] [] h (oI r) h9) ∧ (∀ s : Int32, y = .inr (.inl s) → J (d + 1) YX12_check 7 [.ref v0, .int s, Value.null, Value.null, Value.null] [] h (oI r) h9) ∧ (∀ z : (Int32 × Hp), y = .inr (.inr (z)) → z = (r, h9)))) (fun q x Hq hm => ?_) H ⟨hb0, hb1, hx⟩
  exact bX12_check_30 Hq (fun s hs => by subst hs; exact hm) (fun s hs => by subst hs; exact (hm.1) s rfl) (fun s hs => by subst hs; exact (hm.2.1) s rfl) (fun z hz => by subst hz; exact (hm.2.2) z rfl)
noncomputable def BX12_check_20 (h : Hp) (v0 : Nat) (v1 : Int32) (v2 : Int32) : Option ((Int32) ⊕ ((Int32) ⊕ (Int32 × Hp))) :=
  if (4 : Int32) ≤ v2 then
    some (.inr (.inl (v1 + (1 : Int32))))
  else
    MX12_check_30 h v0 v1 v2 (-1 : Int32) (0 : Int32)
set_option maxRecDepth 100000 in
set_option maxHeartbeats 8000000 in
theorem bX12_check_20 {d : Nat} {h : Hp} {v0 : Nat} {v1 : Int32} {v2 : Int32} {r : Int32} {h9 : Hp} {x : ((Int32) ⊕ ((Int32) ⊕ (Int32 × Hp)))} (H : BX12_check_20 h v0 v1 v2 = some x) (hb0 : ∀ s : Int32, x = .inl s → J (d + 1) YX12_check 20 [.ref v0, .int v1, .int s, Value.null, Value.null] [] h (oI r) h9) (hb1 : ∀ s : Int32, x = .inr (.inl s) → J (d + 1) YX12_check 7 [.ref v0, .int s, Value.null, Value.null, Value.null] [] h (oI r) h9) (hx : ∀ z : (Int32 × Hp), x = .inr (.inr (z)) → z = (r, h9)) : J (d + 1) YX12_check 20 [.ref v0, .int v1, .int v2, Value.null, Value.null] [] h (oI r) h9 := by
  unfold BX12_check_20 at H
  refine J_iload_n 2 dX12_check_20 rfl rfl ?_
  refine J_iconst (4 : Int32) dX12_check_21 kc_4 ?_
  refine J_icmp_ge 125 dX12_check_22 rfl (fun q11 => ?_) (fun q11 => ?_)
  · replace H := br1 q11 H
    refine J_iinc (v1 + (1 : Int32)) dX12_check_125 rfl (congrArg (HAdd.hAdd v1) kc_1) (by decide) (ls' := [.ref v0, .int (v1 + (1 : Int32)), .int v2, Value.null, Value.null]) rfl ?_
    refine J_goto 7 dX12_check_128 rfl ?_
    cases H
    exact J_dr (hb1 _ rfl) ⟨rfl, ⟨rfl, trivial⟩⟩
  · replace H := br0 q11 H
    refine J_iconst (-1 : Int32) dX12_check_25 kc_m1 ?_
    refine J_istore_n 3 dX12_check_26 rfl (by decide) (ls' := [.ref v0, .int v1, .int v2, .int (-1 : Int32), Value.null]) rfl ?_
    refine J_iconst (0 : Int32) dX12_check_27 kc_0 ?_
    refine J_istore dX12_check_28 (by decide) (ls' := [.ref v0, .int v1, .int v2, .int (-1 : Int32), .int (0 : Int32)]) rfl ?_
    exact J_dr (kX12_check_30 H hb0 hb1 hx) ⟨rfl, ⟨rfl, ⟨rfl, ⟨rfl, ⟨rfl, trivial⟩⟩⟩⟩⟩
noncomputable def MX12_check_20 (h : Hp) (v0 : Nat) (v1 : Int32) (v2 : Int32) : Option ((Int32) ⊕ (Int32 × Hp)) := it (fun q : Int32 => BX12_check_20 h v0 v1 q) (v2)
set_option maxRecDepth 100000 in
set_option maxHeartbeats 8000000 in
theorem kX12_check_20 {d : Nat} {h : Hp} {v0 : Nat} {v1 : Int32} {v2 : Int32} {r : Int32} {h9 : Hp} {x : ((Int32) ⊕ (Int32 × Hp))} (H : MX12_check_20 h v0 v1 v2 = some x) (hb0 : ∀ s : Int32, x = .inl s → J (d + 1) YX12_check 7 [.ref v0, .int s, Value.null, Value.null, Value.null] [] h (oI r) h9) (hx : ∀ z : (Int32 × Hp), x = .inr (z) → z = (r, h9)) : J (d + 1) YX12_check 20 [.ref v0, .int v1, .int v2, Value.null, Value.null] [] h (oI r) h9 := by
  unfold MX12_check_20 at H
  refine it_J (G := (fun q : Int32 => J (d + 1) YX12_check 20 [.ref v0, .int v1, .int q, Value.null, Value.null] [] h (oI r) h9)) (Q := (fun y : ((Int32) ⊕ (Int32 × Hp)) => (∀ s : Int32, y = .inl s → J (d + 1) YX12_check 7 [.ref v0, .int s, Value.null, Value.null, Value.null] [] h (oI r) h9) ∧ (∀ z : (Int32 × Hp), y = .inr (z) → z = (r, h9)))) (fun q x Hq hm => ?_) H ⟨hb0, hx⟩
  exact bX12_check_20 Hq (fun s hs => by subst hs; exact hm) (fun s hs => by subst hs; exact (hm.1) s rfl) (fun z hz => by subst hz; exact (hm.2) z rfl)
noncomputable def BX12_check_7 (h : Hp) (v0 : Nat) (v1 : Int32) : Option ((Int32) ⊕ (Int32 × Hp)) :=
  gg (β := ((Int32) ⊕ (Int32 × Hp))) (kd h v0 = 11) <|
  gg (β := ((Int32) ⊕ (Int32 × Hp))) (kd h (gP h v0 1) = 20) <|
  gg (β := ((Int32) ⊕ (Int32 × Hp))) (inB (7 : Int32) (ln h (gP h v0 1)) = true) <|
  if (gI h (gP h v0 1) (7 : Int32).toNatClampNeg) ≤ v1 then
    some (.inr (((-1 : Int32), h)))
  else
    MX12_check_20 h v0 v1 (0 : Int32)
set_option maxRecDepth 100000 in
set_option maxHeartbeats 8000000 in
theorem bX12_check_7 {d : Nat} {h : Hp} {v0 : Nat} {v1 : Int32} {r : Int32} {h9 : Hp} {x : ((Int32) ⊕ (Int32 × Hp))} (H : BX12_check_7 h v0 v1 = some x) (hb0 : ∀ s : Int32, x = .inl s → J (d + 1) YX12_check 7 [.ref v0, .int s, Value.null, Value.null, Value.null] [] h (oI r) h9) (hx : ∀ z : (Int32 × Hp), x = .inr (z) → z = (r, h9)) : J (d + 1) YX12_check 7 [.ref v0, .int v1, Value.null, Value.null, Value.null] [] h (oI r) h9 := by
  unfold BX12_check_7 at H
  refine J_iload_n 1 dX12_check_7 rfl rfl ?_
  refine J_aload_n 0 dX12_check_8 rfl rfl ?_
  obtain ⟨g7, H⟩ := gd H
  refine J_gP 11 1 dX12_check_9 g7 flX12_8 rfl rfl ?_
  refine J_bipush (7 : Int32) dX12_check_12 kb_7 ?_
  obtain ⟨g8, H⟩ := gd H
  obtain ⟨g9, H⟩ := gd H
  refine J_iald dX12_check_14 g8 (inB_ok g9) ?_
  refine J_icmp_ge 131 dX12_check_15 rfl (fun q10 => ?_) (fun q10 => ?_)
  · replace H := br1 q10 H
    refine J_iconst (-1 : Int32) dX12_check_131 kc_m1 ?_
    cases H
    cases hx _ rfl
    exact J_iretI dX12_check_132 rfl
  · replace H := br0 q10 H
    refine J_iconst (0 : Int32) dX12_check_18 kc_0 ?_
    refine J_istore_n 2 dX12_check_19 rfl (by decide) (ls' := [.ref v0, .int v1, .int (0 : Int32), Value.null, Value.null]) rfl ?_
    exact J_dr (kX12_check_20 H hb0 hx) ⟨rfl, ⟨rfl, ⟨rfl, trivial⟩⟩⟩
noncomputable def MX12_check_7 (h : Hp) (v0 : Nat) (v1 : Int32) : Option (Int32 × Hp) := it (fun q : Int32 => BX12_check_7 h v0 q) (v1)
set_option maxRecDepth 100000 in
set_option maxHeartbeats 8000000 in
theorem kX12_check_7 {d : Nat} {h : Hp} {v0 : Nat} {v1 : Int32} {r : Int32} {h9 : Hp} (H : MX12_check_7 h v0 v1 = some (r, h9)) : J (d + 1) YX12_check 7 [.ref v0, .int v1, Value.null, Value.null, Value.null] [] h (oI r) h9 := by
  unfold MX12_check_7 at H
  refine it_J (G := (fun q : Int32 => J (d + 1) YX12_check 7 [.ref v0, .int q, Value.null, Value.null, Value.null] [] h (oI r) h9)) (Q := (fun y : (Int32 × Hp) => y = (r, h9))) (fun q x Hq hm => ?_) H rfl
  exact bX12_check_7 Hq (fun s hs => by subst hs; exact hm) (fun z hz => by subst hz; exact hm)
noncomputable def MX12_check (h : Hp) (v0 : Nat) : Option (Int32 × Hp) :=
  gg (β := (Int32 × Hp)) (kd h v0 = 11) <|
  lt (α := Hp) (β := Option (Int32 × Hp)) (sI h v0 0 (0 : Int32)) fun (h2 : Hp) =>
  MX12_check_7 h2 v0 (0 : Int32)
set_option maxRecDepth 100000 in
set_option maxHeartbeats 8000000 in
theorem eX12_check {d : Nat} {h : Hp} {v0 : Nat} {r : Int32} {h9 : Hp} (H : MX12_check h v0 = some (r, h9)) : J (d + 1) YX12_check 0 [.ref v0, Value.null, Value.null, Value.null, Value.null] [] h (oI r) h9 := by
  unfold MX12_check at H
  refine J_aload_n 0 dX12_check_0 rfl rfl ?_
  refine J_iconst (0 : Int32) dX12_check_1 kc_0 ?_
  obtain ⟨g1, H⟩ := gd H
  obtain ⟨h2, e3, H⟩ := lt_el H
  refine J_pI 11 0 dX12_check_2 g1 flX12_122 rfl rfl e3 ?_
  have c4 := ekI e3
  have c5 := elI e3
  have c6 := epI e3
  refine J_iconst (0 : Int32) dX12_check_5 kc_0 ?_
  refine J_istore_n 1 dX12_check_6 rfl (by decide) (ls' := [.ref v0, .int (0 : Int32), Value.null, Value.null, Value.null]) rfl ?_
  exact J_dr (kX12_check_7 H ) ⟨rfl, ⟨rfl, trivial⟩⟩
theorem okX12_check {d : Nat} {h : Hp} {v0 : Nat} {r : Int32} {h9 : Hp} (H : MX12_check h v0 = some (r, h9)) : CT (d + 1) YX12_check [.ref v0] h (oI r) h9 := CT_of (by decide +kernel) (Nat.le_of_ble_eq_true rfl) (eX12_check H)
noncomputable def BX12_linesOf_5 (h : Hp) (v0 : Nat) (v1 : Int32) (v2 : Int32) (v3 : Int32) (v4 : Int32) : Option ((Int32 × Int32) ⊕ Int32) :=
  if v2 ≤ v4 then
    some (.inr (v3))
  else
    gg (β := ((Int32 × Int32) ⊕ Int32)) (kd h v0 = 11) <|
    Option.bind (α := Int32) (β := ((Int32 × Int32) ⊕ Int32)) (MX12_part0 h (((5 : Int32) * v1) + v4)) fun (t4 : Int32) =>
    gg (β := ((Int32 × Int32) ⊕ Int32)) (kd h (gP h v0 1) = 20) <|
    gg (β := ((Int32 × Int32) ⊕ Int32)) (inB (t4 + (4 : Int32)) (ln h (gP h v0 1)) = true) <|
    some (.inl ((v3 + (gI h (gP h v0 1) (t4 + (4 : Int32)).toNatClampNeg)), (v4 + (1 : Int32))))
set_option maxRecDepth 100000 in
set_option maxHeartbeats 8000000 in
theorem bX12_linesOf_5 {d : Nat} {h : Hp} {v0 : Nat} {v1 : Int32} {v2 : Int32} {v3 : Int32} {v4 : Int32} {r : Int32} {x : ((Int32 × Int32) ⊕ Int32)} (H : BX12_linesOf_5 h v0 v1 v2 v3 v4 = some x) (hb0 : ∀ s : Int32 × Int32, x = .inl s → J (d + 1) YX12_linesOf 5 [.ref v0, .int v1, .int v2, .int s.1, .int s.2] [] h (oI r) h) (hx : ∀ z : Int32, x = .inr (z) → z = r) : J (d + 1) YX12_linesOf 5 [.ref v0, .int v1, .int v2, .int v3, .int v4] [] h (oI r) h := by
  unfold BX12_linesOf_5 at H
  refine J_iload dX12_linesOf_5 rfl ?_
  refine J_iload_n 2 dX12_linesOf_7 rfl rfl ?_
  refine J_icmp_ge 36 dX12_linesOf_8 rfl (fun q1 => ?_) (fun q1 => ?_)
  · replace H := br1 q1 H
    refine J_iload_n 3 dX12_linesOf_36 rfl rfl ?_
    cases H
    cases hx _ rfl
    exact J_iretI dX12_linesOf_37 rfl
  · replace H := br0 q1 H
    refine J_iload_n 3 dX12_linesOf_11 rfl rfl ?_
    refine J_aload_n 0 dX12_linesOf_12 rfl rfl ?_
    obtain ⟨g2, H⟩ := gd H
    refine J_gP 11 1 dX12_linesOf_13 g2 flX12_8 rfl rfl ?_
    refine J_iconst (5 : Int32) dX12_linesOf_16 kc_5 ?_
    refine J_iload_n 1 dX12_linesOf_17 rfl rfl ?_
    refine J_imul dX12_linesOf_18 ?_
    refine J_iload dX12_linesOf_19 rfl ?_
    refine J_iadd dX12_linesOf_21 ?_
    obtain ⟨t4, e3, H⟩ := bd H
    refine J_cS (as := [.int (((5 : Int32) * v1) + v4)]) YX12_part0 1 dX12_linesOf_22 moX12_part0 msX12_part0 mlX12_164 (okX12_part0 (d := d) e3) rfl rfl [.ref (gP h v0 1), .int v3] rfl rfl (st2 := [.int t4, .ref (gP h v0 1), .int v3]) rfl ?_
    refine J_iconst (4 : Int32) dX12_linesOf_25 kc_4 ?_
    refine J_iadd dX12_linesOf_26 ?_
    obtain ⟨g5, H⟩ := gd H
    obtain ⟨g6, H⟩ := gd H
    refine J_iald dX12_linesOf_27 g5 (inB_ok g6) ?_
    refine J_iadd dX12_linesOf_28 ?_
    refine J_istore_n 3 dX12_linesOf_29 rfl (by decide) (ls' := [.ref v0, .int v1, .int v2, .int (v3 + (gI h (gP h v0 1) (t4 + (4 : Int32)).toNatClampNeg)), .int v4]) rfl ?_
    refine J_iinc (v4 + (1 : Int32)) dX12_linesOf_30 rfl (congrArg (HAdd.hAdd v4) kc_1) (by decide) (ls' := [.ref v0, .int v1, .int v2, .int (v3 + (gI h (gP h v0 1) (t4 + (4 : Int32)).toNatClampNeg)), .int (v4 + (1 : Int32))]) rfl ?_
    refine J_goto 5 dX12_linesOf_33 rfl ?_
    cases H
    exact J_dr (hb0 _ rfl) ⟨rfl, ⟨rfl, ⟨rfl, ⟨rfl, ⟨rfl, trivial⟩⟩⟩⟩⟩
noncomputable def MX12_linesOf_5 (h : Hp) (v0 : Nat) (v1 : Int32) (v2 : Int32) (v3 : Int32) (v4 : Int32) : Option Int32 := it (fun q : Int32 × Int32 => BX12_linesOf_5 h v0 v1 v2 q.1 q.2) (v3, v4)
set_option maxRecDepth 100000 in
set_option maxHeartbeats 8000000 in
theorem kX12_linesOf_5 {d : Nat} {h : Hp} {v0 : Nat} {v1 : Int32} {v2 : Int32} {v3 : Int32} {v4 : Int32} {r : Int32} (H : MX12_linesOf_5 h v0 v1 v2 v3 v4 = some r) : J (d + 1) YX12_linesOf 5 [.ref v0, .int v1, .int v2, .int v3, .int v4] [] h (oI r) h := by
  unfold MX12_linesOf_5 at H
  refine it_J (G := (fun q : Int32 × Int32 => J (d + 1) YX12_linesOf 5 [.ref v0, .int v1, .int v2, .int q.1, .int q.2] [] h (oI r) h)) (Q := (fun y : Int32 => y = r)) (fun q x Hq hm => ?_) H rfl
  exact bX12_linesOf_5 Hq (fun s hs => by subst hs; exact hm) (fun z hz => by subst hz; exact hm)
noncomputable def MX12_linesOf (h : Hp) (v0 : Nat) (v1 : Int32) (v2 : Int32) : Option Int32 :=
  MX12_linesOf_5 h v0 v1 v2 (0 : Int32) (0 : Int32)
set_option maxRecDepth 100000 in
set_option maxHeartbeats 8000000 in
theorem eX12_linesOf {d : Nat} {h : Hp} {v0 : Nat} {v1 : Int32} {v2 : Int32} {r : Int32} (H : MX12_linesOf h v0 v1 v2 = some r) : J (d + 1) YX12_linesOf 0 [.ref v0, .int v1, .int v2, Value.null, Value.null] [] h (oI r) h := by
  unfold MX12_linesOf at H
  refine J_iconst (0 : Int32) dX12_linesOf_0 kc_0 ?_
  refine J_istore_n 3 dX12_linesOf_1 rfl (by decide) (ls' := [.ref v0, .int v1, .int v2, .int (0 : Int32), Value.null]) rfl ?_
  refine J_iconst (0 : Int32) dX12_linesOf_2 kc_0 ?_
  refine J_istore dX12_linesOf_3 (by decide) (ls' := [.ref v0, .int v1, .int v2, .int (0 : Int32), .int (0 : Int32)]) rfl ?_
  exact J_dr (kX12_linesOf_5 H ) ⟨rfl, ⟨rfl, ⟨rfl, ⟨rfl, ⟨rfl, trivial⟩⟩⟩⟩⟩
theorem okX12_linesOf {d : Nat} {h : Hp} {v0 : Nat} {v1 : Int32} {v2 : Int32} {r : Int32} (H : MX12_linesOf h v0 v1 v2 = some r) : CT (d + 1) YX12_linesOf [.ref v0, .int v1, .int v2] h (oI r) h := CT_of (by decide +kernel) (Nat.le_of_ble_eq_true rfl) (eX12_linesOf H)
noncomputable def BX12_keeps_93 (rc : Nat → Hp → Nat → Int32 → Int32 → Int32 → Option Hp) (h : Hp) (v0 : Nat) (v1 : Int32) (v2 : Int32) (v3 : Int32) (v4 : Int32) (v5 : Int32) : Option ((Int32 × Hp) ⊕ Hp) :=
  if v5 ≤ 0 then
    some (.inr (h))
  else
    gg (β := ((Int32 × Hp) ⊕ Hp)) (kd h v0 = 11) <|
    gg (β := ((Int32 × Hp) ⊕ Hp)) (kd h (gP h v0 45) = 20) <|
    gg (β := ((Int32 × Hp) ⊕ Hp)) (inB v2 (ln h (gP h v0 45)) = true) <|
    Option.bind (α := Int32) (β := ((Int32 × Hp) ⊕ Hp)) (MX12_linesOf h v0 (gI h (gP h v0 45) v2.toNatClampNeg) v5) fun (t16 : Int32) =>
    gg (β := ((Int32 × Hp) ⊕ Hp)) (kd h (gP h v0 50) = 20) <|
    gg (β := ((Int32 × Hp) ⊕ Hp)) (inB v4 (ln h (gP h v0 50)) = true) <|
    gg (β := ((Int32 × Hp) ⊕ Hp)) (kd h (gP h v0 1) = 20) <|
    gg (β := ((Int32 × Hp) ⊕ Hp)) (inB (((327382 : Int32) + ((185 : Int32) * v1)) + (1 : Int32)) (ln h (gP h v0 1)) = true) <|
    if ((gI h (gP h v0 50) v4.toNatClampNeg) + t16) ≤ (gI h (gP h v0 1) (((327382 : Int32) + ((185 : Int32) * v1)) + (1 : Int32)).toNatClampNeg) then
      lt (α := Hp) (β := Option ((Int32 × Hp) ⊕ Hp)) (sI h (gP h v0 50) v4.toNatClampNeg ((gI h (gP h v0 50) v4.toNatClampNeg) + t16)) fun (h22 : Hp) =>
      gg (β := ((Int32 × Hp) ⊕ Hp)) (kd h (gP h v0 47) = 20) <|
      gg (β := ((Int32 × Hp) ⊕ Hp)) (inB v2 (ln h (gP h v0 47)) = true) <|
      lt (α := Hp) (β := Option ((Int32 × Hp) ⊕ Hp)) (sI h22 (gP h v0 47) v2.toNatClampNeg v5) fun (h29 : Hp) =>
      Option.bind (α := Hp) (β := ((Int32 × Hp) ⊕ Hp)) (rc 0 h29 v0 v1 (v2 + (1 : Int32)) (v3 + t16)) fun (h35 : Hp) =>
      gg (β := ((Int32 × Hp) ⊕ Hp)) (kd h35 v0 = 11) <|
      gg (β := ((Int32 × Hp) ⊕ Hp)) (kd h35 (gP h35 v0 50) = 20) <|
      gg (β := ((Int32 × Hp) ⊕ Hp)) (inB v4 (ln h35 (gP h35 v0 50)) = true) <|
      lt (α := Hp) (β := Option ((Int32 × Hp) ⊕ Hp)) (sI h35 (gP h35 v0 50) v4.toNatClampNeg ((gI h35 (gP h35 v0 50) v4.toNatClampNeg) - t16)) fun (h39 : Hp) =>
      some (.inl ((v5 + (-1 : Int32)), h39))
    else
      some (.inl ((v5 + (-1 : Int32)), h))
set_option maxRecDepth 100000 in
set_option maxHeartbeats 8000000 in
theorem bX12_keeps_93 {d u : Nat} {rc : Nat → Hp → Nat → Int32 → Int32 → Int32 → Option Hp} {h : Hp} {v0 : Nat} {v1 : Int32} {v2 : Int32} {v3 : Int32} {v4 : Int32} {v5 : Int32} {h9 : Hp} {x : ((Int32 × Hp) ⊕ Hp)} (hrc : ∀ (t : Nat) (h : Hp) (a0 : Nat) (a1 : Int32) (a2 : Int32) (a3 : Int32) (h1 : Hp), rc t h a0 a1 a2 a3 = some h1 → CT (d + u + 1) ((fun _ => YX12_keeps) t) [.ref a0, .int a1, .int a2, .int a3] h (oV) h1) (H : BX12_keeps_93 rc h v0 v1 v2 v3 v4 v5 = some x) (hb0 : ∀ s : Int32 × Hp, x = .inl s → J (d + u + 1 + 1) YX12_keeps 93 [.ref v0, .int v1, .int v2, .int v3, .int v4, .int s.1, Value.null] [] s.2 oV h9) (hx : ∀ z : Hp, x = .inr (z) → z = h9) : J (d + u + 1 + 1) YX12_keeps 93 [.ref v0, .int v1, .int v2, .int v3, .int v4, .int v5, Value.null] [] h oV h9 := by
  unfold BX12_keeps_93 at H
  refine J_iload dX12_keeps_93 rfl ?_
  refine J_if_le 193 dX12_keeps_95 rfl (fun q11 => ?_) (fun q11 => ?_)
  · replace H := br1 q11 H
    cases H
    cases hx _ rfl
    exact J_ret dX12_keeps_193 rfl
  · replace H := br0 q11 H
    refine J_aload_n 0 dX12_keeps_98 rfl rfl ?_
    refine J_aload_n 0 dX12_keeps_99 rfl rfl ?_
    obtain ⟨g12, H⟩ := gd H
    refine J_gP 11 45 dX12_keeps_100 g12 flX12_94 rfl rfl ?_
    refine J_iload_n 2 dX12_keeps_103 rfl rfl ?_
    obtain ⟨g13, H⟩ := gd H
    obtain ⟨g14, H⟩ := gd H
    refine J_iald dX12_keeps_104 g13 (inB_ok g14) ?_
    refine J_iload dX12_keeps_105 rfl ?_
    obtain ⟨t16, e15, H⟩ := bd H
    refine J_cV (as := [.int (gI h (gP h v0 45) v2.toNatClampNeg), .int v5]) 11 YX12_linesOf 2 dX12_keeps_107 moX12_linesOf mvX12_linesOf mlX12_433 g12 rfl rfl (okX12_linesOf (d := d + u) e15) rfl rfl [] rfl rfl (st2 := [.int t16]) rfl ?_
    refine J_istore dX12_keeps_110 (by decide) (ls' := [.ref v0, .int v1, .int v2, .int v3, .int v4, .int v5, .int t16]) rfl ?_
    refine J_aload_n 0 dX12_keeps_112 rfl rfl ?_
    refine J_gP 11 50 dX12_keeps_113 g12 flX12_109 rfl rfl ?_
    refine J_iload dX12_keeps_116 rfl ?_
    obtain ⟨g17, H⟩ := gd H
    obtain ⟨g18, H⟩ := gd H
    refine J_iald dX12_keeps_118 g17 (inB_ok g18) ?_
    refine J_iload dX12_keeps_119 rfl ?_
    refine J_iadd dX12_keeps_121 ?_
    refine J_aload_n 0 dX12_keeps_122 rfl rfl ?_
    refine J_gP 11 1 dX12_keeps_123 g12 flX12_8 rfl rfl ?_
    refine J_ldc (327382 : Int32) coX12_121 dX12_keeps_126 ?_
    refine J_sipush (185 : Int32) dX12_keeps_128 ks_185 ?_
    refine J_iload_n 1 dX12_keeps_131 rfl rfl ?_
    refine J_imul dX12_keeps_132 ?_
    refine J_iadd dX12_keeps_133 ?_
    refine J_iconst (1 : Int32) dX12_keeps_134 kc_1 ?_
    refine J_iadd dX12_keeps_135 ?_
    obtain ⟨g19, H⟩ := gd H
    obtain ⟨g20, H⟩ := gd H
    refine J_iald dX12_keeps_136 g19 (inB_ok g20) ?_
    refine J_icmp_le 143 dX12_keeps_137 rfl (fun q21 => ?_) (fun q21 => ?_)
    · replace H := br1 q21 H
      refine J_aload_n 0 dX12_keeps_143 rfl rfl ?_
      refine J_gP 11 50 dX12_keeps_144 g12 flX12_109 rfl rfl ?_
      refine J_iload dX12_keeps_147 rfl ?_
      refine J_dup2 dX12_keeps_149 rfl rfl ?_
      refine J_iald dX12_keeps_150 g17 (inB_ok g18) ?_
      refine J_iload dX12_keeps_151 rfl ?_
      refine J_iadd dX12_keeps_153 ?_
      obtain ⟨h22, e23, H⟩ := lt_el H
      refine J_sI dX12_keeps_154 g17 (inB_ok g18) e23 ?_
      have c24 := ekI e23
      have c25 := elI e23
      have c26 := epI e23
      refine J_aload_n 0 dX12_keeps_155 rfl rfl ?_
      refine J_gP 11 47 dX12_keeps_156 (kq c24 g12) flX12_100 rfl (congrFun (congrFun c26 v0) 47) ?_
      refine J_iload_n 2 dX12_keeps_159 rfl rfl ?_
      refine J_iload dX12_keeps_160 rfl ?_
      obtain ⟨g27, H⟩ := gd H
      obtain ⟨g28, H⟩ := gd H
      obtain ⟨h29, e30, H⟩ := lt_el H
      refine J_sI dX12_keeps_162 (kq c24 g27) (lq c25 g28) e30 ?_
      have c31 := (ekI e30).trans c24
      have c32 := (elI e30).trans c25
      have c33 := (epI e30).trans c26
      refine J_aload_n 0 dX12_keeps_163 rfl rfl ?_
      refine J_iload_n 1 dX12_keeps_164 rfl rfl ?_
      refine J_iload_n 2 dX12_keeps_165 rfl rfl ?_
      refine J_iconst (1 : Int32) dX12_keeps_166 kc_1 ?_
      refine J_iadd dX12_keeps_167 ?_
      refine J_iload_n 3 dX12_keeps_168 rfl rfl ?_
      refine J_iload dX12_keeps_169 rfl ?_
      refine J_iadd dX12_keeps_171 ?_
      obtain ⟨h35, e34, H⟩ := bd H
      refine J_cV (as := [.int v1, .int (v2 + (1 : Int32)), .int (v3 + t16)]) 11 YX12_keeps 3 dX12_keeps_172 moX12_keeps mvX12_keeps mlX12_430 (kq c31 g12) rfl rfl (hrc 0 _ _ _ _ _ _ e34) rfl rfl [] rfl rfl (st2 := []) rfl ?_
      refine J_aload_n 0 dX12_keeps_175 rfl rfl ?_
      obtain ⟨g36, H⟩ := gd H
      refine J_gP 11 50 dX12_keeps_176 g36 flX12_109 rfl rfl ?_
      refine J_iload dX12_keeps_179 rfl ?_
      refine J_dup2 dX12_keeps_181 rfl rfl ?_
      obtain ⟨g37, H⟩ := gd H
      obtain ⟨g38, H⟩ := gd H
      refine J_iald dX12_keeps_182 g37 (inB_ok g38) ?_
      refine J_iload dX12_keeps_183 rfl ?_
      refine J_isub dX12_keeps_185 ?_
      obtain ⟨h39, e40, H⟩ := lt_el H
      refine J_sI dX12_keeps_186 g37 (inB_ok g38) e40 ?_
      have c41 := ekI e40
      have c42 := elI e40
      have c43 := epI e40
      refine J_iinc (v5 + (-1 : Int32)) dX12_keeps_187 rfl (congrArg (HAdd.hAdd v5) kc_m1) (by decide) (ls' := [.ref v0, .int v1, .int v2, .int v3, .int v4, .int (v5 + (-1 : Int32)), .int t16]) rfl ?_
      refine J_goto 93 dX12_keeps_190 rfl ?_
      cases H
      exact J_dr (hb0 _ rfl) ⟨rfl, ⟨rfl, ⟨rfl, ⟨rfl, ⟨rfl, ⟨rfl, trivial⟩⟩⟩⟩⟩⟩
    · replace H := br0 q21 H
      refine J_goto 187 dX12_keeps_140 rfl ?_
      refine J_iinc (v5 + (-1 : Int32)) dX12_keeps_187 rfl (congrArg (HAdd.hAdd v5) kc_m1) (by decide) (ls' := [.ref v0, .int v1, .int v2, .int v3, .int v4, .int (v5 + (-1 : Int32)), .int t16]) rfl ?_
      refine J_goto 93 dX12_keeps_190 rfl ?_
      cases H
      exact J_dr (hb0 _ rfl) ⟨rfl, ⟨rfl, ⟨rfl, ⟨rfl, ⟨rfl, ⟨rfl, trivial⟩⟩⟩⟩⟩⟩
noncomputable def MX12_keeps_93 (rc : Nat → Hp → Nat → Int32 → Int32 → Int32 → Option Hp) (h : Hp) (v0 : Nat) (v1 : Int32) (v2 : Int32) (v3 : Int32) (v4 : Int32) (v5 : Int32) : Option Hp := it (fun q : Int32 × Hp => BX12_keeps_93 rc q.2 v0 v1 v2 v3 v4 q.1) (v5, h)
set_option maxRecDepth 100000 in
set_option maxHeartbeats 8000000 in
theorem kX12_keeps_93 {d u : Nat} {rc : Nat → Hp → Nat → Int32 → Int32 → Int32 → Option Hp} {h : Hp} {v0 : Nat} {v1 : Int32} {v2 : Int32} {v3 : Int32} {v4 : Int32} {v5 : Int32} {h9 : Hp} (hrc : ∀ (t : Nat) (h : Hp) (a0 : Nat) (a1 : Int32) (a2 : Int32) (a3 : Int32) (h1 : Hp), rc t h a0 a1 a2 a3 = some h1 → CT (d + u + 1) ((fun _ => YX12_keeps) t) [.ref a0, .int a1, .int a2, .int a3] h (oV) h1) (H : MX12_keeps_93 rc h v0 v1 v2 v3 v4 v5 = some h9) : J (d + u + 1 + 1) YX12_keeps 93 [.ref v0, .int v1, .int v2, .int v3, .int v4, .int v5, Value.null] [] h oV h9 := by
  unfold MX12_keeps_93 at H
  refine it_J (G := (fun q : Int32 × Hp => J (d + u + 1 + 1) YX12_keeps 93 [.ref v0, .int v1, .int v2, .int v3, .int v4, .int q.1, Value.null] [] q.2 oV h9)) (Q := (fun y : Hp => y = h9)) (fun q x Hq hm => ?_) H rfl
  exact bX12_keeps_93 hrc Hq (fun s hs => by subst hs; exact hm) (fun z hz => by subst hz; exact hm)
noncomputable def BX12_keeps_25 (rc : Nat → Hp → Nat → Int32 → Int32 → Int32 → Option Hp) (h : Hp) (v0 : Nat) (v4 : Int32) : Option ((Int32 × Hp) ⊕ Hp) :=
  gg (β := ((Int32 × Hp) ⊕ Hp)) (kd h v0 = 11) <|
  if (gI h v0 51) ≤ v4 then
    some (.inr (h))
  else
    gg (β := ((Int32 × Hp) ⊕ Hp)) (kd h (gP h v0 46) = 20) <|
    gg (β := ((Int32 × Hp) ⊕ Hp)) (inB v4 (ln h (gP h v0 46)) = true) <|
    gg (β := ((Int32 × Hp) ⊕ Hp)) (kd h (gP h v0 48) = 20) <|
    gg (β := ((Int32 × Hp) ⊕ Hp)) (inB v4 (ln h (gP h v0 48)) = true) <|
    lt (α := Hp) (β := Option ((Int32 × Hp) ⊕ Hp)) (sI h (gP h v0 48) v4.toNatClampNeg (gI h (gP h v0 46) v4.toNatClampNeg)) fun (h56 : Hp) =>
    gg (β := ((Int32 × Hp) ⊕ Hp)) (kd h (gP h v0 47) = 20) <|
    gg (β := ((Int32 × Hp) ⊕ Hp)) (inB v4 (ln h (gP h v0 47)) = true) <|
    gg (β := ((Int32 × Hp) ⊕ Hp)) (kd h (gP h v0 49) = 20) <|
    gg (β := ((Int32 × Hp) ⊕ Hp)) (inB v4 (ln h (gP h v0 49)) = true) <|
    lt (α := Hp) (β := Option ((Int32 × Hp) ⊕ Hp)) (sI h56 (gP h v0 49) v4.toNatClampNeg (gI h56 (gP h v0 47) v4.toNatClampNeg)) fun (h65 : Hp) =>
    some (.inl ((v4 + (1 : Int32)), h65))
set_option maxRecDepth 100000 in
set_option maxHeartbeats 8000000 in
theorem bX12_keeps_25 {d u : Nat} {rc : Nat → Hp → Nat → Int32 → Int32 → Int32 → Option Hp} {h : Hp} {v0 : Nat} {v4 : Int32} {h9 : Hp} {x : ((Int32 × Hp) ⊕ Hp)} (hrc : ∀ (t : Nat) (h : Hp) (a0 : Nat) (a1 : Int32) (a2 : Int32) (a3 : Int32) (h1 : Hp), rc t h a0 a1 a2 a3 = some h1 → CT (d + u + 1) ((fun _ => YX12_keeps) t) [.ref a0, .int a1, .int a2, .int a3] h (oV) h1) (H : BX12_keeps_25 rc h v0 v4 = some x) (hb0 : ∀ s : Int32 × Hp, x = .inl s → J (d + u + 1 + 1) YX12_keeps 25 [.ref v0, Value.null, Value.null, Value.null, .int s.1, Value.null, Value.null] [] s.2 oV h9) (hx : ∀ z : Hp, x = .inr (z) → z = h9) : J (d + u + 1 + 1) YX12_keeps 25 [.ref v0, Value.null, Value.null, Value.null, .int v4, Value.null, Value.null] [] h oV h9 := by
  unfold BX12_keeps_25 at H
  refine J_iload dX12_keeps_25 rfl ?_
  refine J_aload_n 0 dX12_keeps_27 rfl rfl ?_
  obtain ⟨g50, H⟩ := gd H
  refine J_getI 11 51 dX12_keeps_28 g50 flX12_421 rfl ?_
  refine J_icmp_ge 68 dX12_keeps_31 rfl (fun q51 => ?_) (fun q51 => ?_)
  · replace H := br1 q51 H
    cases H
    cases hx _ rfl
    exact J_ret dX12_keeps_68 rfl
  · replace H := br0 q51 H
    refine J_aload_n 0 dX12_keeps_34 rfl rfl ?_
    refine J_gP 11 48 dX12_keeps_35 g50 flX12_103 rfl rfl ?_
    refine J_iload dX12_keeps_38 rfl ?_
    refine J_aload_n 0 dX12_keeps_40 rfl rfl ?_
    refine J_gP 11 46 dX12_keeps_41 g50 flX12_97 rfl rfl ?_
    refine J_iload dX12_keeps_44 rfl ?_
    obtain ⟨g52, H⟩ := gd H
    obtain ⟨g53, H⟩ := gd H
    refine J_iald dX12_keeps_46 g52 (inB_ok g53) ?_
    obtain ⟨g54, H⟩ := gd H
    obtain ⟨g55, H⟩ := gd H
    obtain ⟨h56, e57, H⟩ := lt_el H
    refine J_sI dX12_keeps_47 g54 (inB_ok g55) e57 ?_
    have c58 := ekI e57
    have c59 := elI e57
    have c60 := epI e57
    refine J_aload_n 0 dX12_keeps_48 rfl rfl ?_
    refine J_gP 11 49 dX12_keeps_49 (kq c58 g50) flX12_106 rfl (congrFun (congrFun c60 v0) 49) ?_
    refine J_iload dX12_keeps_52 rfl ?_
    refine J_aload_n 0 dX12_keeps_54 rfl rfl ?_
    refine J_gP 11 47 dX12_keeps_55 (kq c58 g50) flX12_100 rfl (congrFun (congrFun c60 v0) 47) ?_
    refine J_iload dX12_keeps_58 rfl ?_
    obtain ⟨g61, H⟩ := gd H
    obtain ⟨g62, H⟩ := gd H
    refine J_iald dX12_keeps_60 (kq c58 g61) (lq c59 g62) ?_
    obtain ⟨g63, H⟩ := gd H
    obtain ⟨g64, H⟩ := gd H
    obtain ⟨h65, e66, H⟩ := lt_el H
    refine J_sI dX12_keeps_61 (kq c58 g63) (lq c59 g64) e66 ?_
    have c67 := (ekI e66).trans c58
    have c68 := (elI e66).trans c59
    have c69 := (epI e66).trans c60
    refine J_iinc (v4 + (1 : Int32)) dX12_keeps_62 rfl (congrArg (HAdd.hAdd v4) kc_1) (by decide) (ls' := [.ref v0, Value.null, Value.null, Value.null, .int (v4 + (1 : Int32)), Value.null, Value.null]) rfl ?_
    refine J_goto 25 dX12_keeps_65 rfl ?_
    cases H
    exact J_dr (hb0 _ rfl) ⟨rfl, ⟨rfl, trivial⟩⟩
noncomputable def MX12_keeps_25 (rc : Nat → Hp → Nat → Int32 → Int32 → Int32 → Option Hp) (h : Hp) (v0 : Nat) (v4 : Int32) : Option Hp := it (fun q : Int32 × Hp => BX12_keeps_25 rc q.2 v0 q.1) (v4, h)
set_option maxRecDepth 100000 in
set_option maxHeartbeats 8000000 in
theorem kX12_keeps_25 {d u : Nat} {rc : Nat → Hp → Nat → Int32 → Int32 → Int32 → Option Hp} {h : Hp} {v0 : Nat} {v4 : Int32} {h9 : Hp} (hrc : ∀ (t : Nat) (h : Hp) (a0 : Nat) (a1 : Int32) (a2 : Int32) (a3 : Int32) (h1 : Hp), rc t h a0 a1 a2 a3 = some h1 → CT (d + u + 1) ((fun _ => YX12_keeps) t) [.ref a0, .int a1, .int a2, .int a3] h (oV) h1) (H : MX12_keeps_25 rc h v0 v4 = some h9) : J (d + u + 1 + 1) YX12_keeps 25 [.ref v0, Value.null, Value.null, Value.null, .int v4, Value.null, Value.null] [] h oV h9 := by
  unfold MX12_keeps_25 at H
  refine it_J (G := (fun q : Int32 × Hp => J (d + u + 1 + 1) YX12_keeps 25 [.ref v0, Value.null, Value.null, Value.null, .int q.1, Value.null, Value.null] [] q.2 oV h9)) (Q := (fun y : Hp => y = h9)) (fun q x Hq hm => ?_) H rfl
  exact bX12_keeps_25 hrc Hq (fun s hs => by subst hs; exact hm) (fun z hz => by subst hz; exact hm)
noncomputable def BX12_keeps (rc : Nat → Hp → Nat → Int32 → Int32 → Int32 → Option Hp) (h : Hp) (v0 : Nat) (v1 : Int32) (v2 : Int32) (v3 : Int32) : Option Hp :=
  gg (β := Hp) (kd h v0 = 11) <|
  if v2 = (gI h v0 51) then
    if (gI h v0 52) < v3 then
      lt (α := Hp) (β := Option Hp) (sI h v0 52 v3) fun (h45 : Hp) =>
      MX12_keeps_25 rc h45 v0 (0 : Int32)
    else
      some h
  else
    gg (β := Hp) (kd h (gP h v0 46) = 20) <|
    gg (β := Hp) (inB v2 (ln h (gP h v0 46)) = true) <|
    gg (β := Hp) (kd h (gP h v0 45) = 20) <|
    gg (β := Hp) (inB v2 (ln h (gP h v0 45)) = true) <|
    gg (β := Hp) (kd h (gP h v0 1) = 20) <|
    gg (β := Hp) (inB ((110 : Int32) + (gI h (gP h v0 45) v2.toNatClampNeg)) (ln h (gP h v0 1)) = true) <|
    lt (α := Int32) (β := Option Hp) (gI h (gP h v0 1) ((110 : Int32) + (gI h (gP h v0 45) v2.toNatClampNeg)).toNatClampNeg) fun (w9 : Int32) =>
    MX12_keeps_93 rc h v0 v1 v2 v3 (gI h (gP h v0 46) v2.toNatClampNeg) w9
set_option maxRecDepth 100000 in
set_option maxHeartbeats 8000000 in
theorem eX12_keeps {d u : Nat} {rc : Nat → Hp → Nat → Int32 → Int32 → Int32 → Option Hp} {h : Hp} {v0 : Nat} {v1 : Int32} {v2 : Int32} {v3 : Int32} {h9 : Hp} (hrc : ∀ (t : Nat) (h : Hp) (a0 : Nat) (a1 : Int32) (a2 : Int32) (a3 : Int32) (h1 : Hp), rc t h a0 a1 a2 a3 = some h1 → CT (d + u + 1) ((fun _ => YX12_keeps) t) [.ref a0, .int a1, .int a2, .int a3] h (oV) h1) (H : BX12_keeps rc h v0 v1 v2 v3 = some h9) : J (d + u + 1 + 1) YX12_keeps 0 [.ref v0, .int v1, .int v2, .int v3, Value.null, Value.null, Value.null] [] h oV h9 := by
  unfold BX12_keeps at H
  refine J_iload_n 2 dX12_keeps_0 rfl rfl ?_
  refine J_aload_n 0 dX12_keeps_1 rfl rfl ?_
  obtain ⟨g1, H⟩ := gd H
  refine J_getI 11 51 dX12_keeps_2 g1 flX12_421 rfl ?_
  refine J_icmp_ne 69 dX12_keeps_5 rfl (fun q2 => ?_) (fun q2 => ?_)
  · replace H := br0 q2 H
    refine J_aload_n 0 dX12_keeps_69 rfl rfl ?_
    refine J_gP 11 46 dX12_keeps_70 g1 flX12_97 rfl rfl ?_
    refine J_iload_n 2 dX12_keeps_73 rfl rfl ?_
    obtain ⟨g3, H⟩ := gd H
    obtain ⟨g4, H⟩ := gd H
    refine J_iald dX12_keeps_74 g3 (inB_ok g4) ?_
    refine J_istore dX12_keeps_75 (by decide) (ls' := [.ref v0, .int v1, .int v2, .int v3, .int (gI h (gP h v0 46) v2.toNatClampNeg), Value.null, Value.null]) rfl ?_
    refine J_aload_n 0 dX12_keeps_77 rfl rfl ?_
    refine J_gP 11 1 dX12_keeps_78 g1 flX12_8 rfl rfl ?_
    refine J_bipush (110 : Int32) dX12_keeps_81 kb_110 ?_
    refine J_aload_n 0 dX12_keeps_83 rfl rfl ?_
    refine J_gP 11 45 dX12_keeps_84 g1 flX12_94 rfl rfl ?_
    refine J_iload_n 2 dX12_keeps_87 rfl rfl ?_
    obtain ⟨g5, H⟩ := gd H
    obtain ⟨g6, H⟩ := gd H
    refine J_iald dX12_keeps_88 g5 (inB_ok g6) ?_
    refine J_iadd dX12_keeps_89 ?_
    obtain ⟨g7, H⟩ := gd H
    obtain ⟨g8, H⟩ := gd H
    refine J_iald dX12_keeps_90 g7 (inB_ok g8) ?_
    obtain ⟨w9, e10, H⟩ := lt_el H
    refine J_nmI e10 ?_
    refine J_istore dX12_keeps_91 (by decide) (ls' := [.ref v0, .int v1, .int v2, .int v3, .int (gI h (gP h v0 46) v2.toNatClampNeg), .int w9, Value.null]) rfl ?_
    exact J_dr (kX12_keeps_93 hrc H ) ⟨rfl, ⟨rfl, ⟨rfl, ⟨rfl, ⟨rfl, ⟨rfl, trivial⟩⟩⟩⟩⟩⟩
  · replace H := br1 q2 H
    refine J_iload_n 3 dX12_keeps_8 rfl rfl ?_
    refine J_aload_n 0 dX12_keeps_9 rfl rfl ?_
    refine J_getI 11 52 dX12_keeps_10 g1 flX12_424 rfl ?_
    refine J_icmp_gt 17 dX12_keeps_13 rfl (fun q44 => ?_) (fun q44 => ?_)
    · replace H := br1 q44 H
      refine J_aload_n 0 dX12_keeps_17 rfl rfl ?_
      refine J_iload_n 3 dX12_keeps_18 rfl rfl ?_
      obtain ⟨h45, e46, H⟩ := lt_el H
      refine J_pI 11 52 dX12_keeps_19 g1 flX12_424 rfl rfl e46 ?_
      have c47 := ekI e46
      have c48 := elI e46
      have c49 := epI e46
      refine J_iconst (0 : Int32) dX12_keeps_22 kc_0 ?_
      refine J_istore dX12_keeps_23 (by decide) (ls' := [.ref v0, .int v1, .int v2, .int v3, .int (0 : Int32), Value.null, Value.null]) rfl ?_
      exact J_dr (kX12_keeps_25 hrc H ) ⟨rfl, ⟨rfl, trivial⟩⟩
    · replace H := br0 q44 H
      cases H
      exact J_ret dX12_keeps_16 rfl
noncomputable def RX12_keeps : Nat → Nat → Hp → Nat → Int32 → Int32 → Int32 → Option Hp
  | 0 => fun _ _ _ _ _ _ => none
  | u + 1 => fun t h a0 a1 a2 a3 => BX12_keeps (RX12_keeps u) h a0 a1 a2 a3
theorem okRX12_keeps (d : Nat) : ∀ (u t : Nat) (h : Hp) (a0 : Nat) (a1 : Int32) (a2 : Int32) (a3 : Int32) (h1 : Hp), RX12_keeps u t h a0 a1 a2 a3 = some h1 → CT (d + u + 1) (YX12_keeps) [.ref a0, .int a1, .int a2, .int a3] h (oV) h1 := by
  intro u
  induction u with
  | zero => intro t h a0 a1 a2 a3 h1 H; cases H
  | succ u ih =>
    intro t h a0 a1 a2 a3 h1 H
    simp only [RX12_keeps] at H
    exact CT_of (by decide +kernel) (Nat.le_of_ble_eq_true rfl) (eX12_keeps (d := d) (u := u) ih H)
noncomputable def MX12_keeps (u : Nat) (h : Hp) (v0 : Nat) (v1 : Int32) (v2 : Int32) (v3 : Int32) : Option Hp := RX12_keeps u 0 h v0 v1 v2 v3
theorem okX12_keeps {d : Nat} {h : Hp} {v0 : Nat} {v1 : Int32} {v2 : Int32} {v3 : Int32} {h9 : Hp} (H : MX12_keeps 30 h v0 v1 v2 v3 = some h9) : CT (d + 31) YX12_keeps [.ref v0, .int v1, .int v2, .int v3] h oV h9 := okRX12_keeps d 30 0 _ _ _ _ _ _ H
noncomputable def BX12_columns_38 (rc : Nat → Hp → Nat → Int32 → Int32 → Option Hp) (h : Hp) (v0 : Nat) (v1 : Int32) (v2 : Int32) (v3 : Int32) : Option ((Int32 × Hp) ⊕ Hp) :=
  gg (β := ((Int32 × Hp) ⊕ Hp)) (kd h v0 = 11) <|
  gg (β := ((Int32 × Hp) ⊕ Hp)) (kd h (gP h v0 1) = 20) <|
  gg (β := ((Int32 × Hp) ⊕ Hp)) (inB ((327382 : Int32) + ((185 : Int32) * v1)) (ln h (gP h v0 1)) = true) <|
  if (gI h (gP h v0 1) ((327382 : Int32) + ((185 : Int32) * v1)).toNatClampNeg) ≤ v3 then
    some (.inr (h))
  else
    gg (β := ((Int32 × Hp) ⊕ Hp)) (kd h (gP h v0 46) = 20) <|
    gg (β := ((Int32 × Hp) ⊕ Hp)) (inB v2 (ln h (gP h v0 46)) = true) <|
    lt (α := Hp) (β := Option ((Int32 × Hp) ⊕ Hp)) (sI h (gP h v0 46) v2.toNatClampNeg v3) fun (h9 : Hp) =>
    Option.bind (α := Hp) (β := ((Int32 × Hp) ⊕ Hp)) (rc 0 h9 v0 v1 (v2 + (1 : Int32))) fun (h15 : Hp) =>
    some (.inl ((v3 + (1 : Int32)), h15))
set_option maxRecDepth 100000 in
set_option maxHeartbeats 8000000 in
theorem bX12_columns_38 {d u : Nat} {rc : Nat → Hp → Nat → Int32 → Int32 → Option Hp} {h : Hp} {v0 : Nat} {v1 : Int32} {v2 : Int32} {v3 : Int32} {h9 : Hp} {x : ((Int32 × Hp) ⊕ Hp)} (hrc : ∀ (t : Nat) (h : Hp) (a0 : Nat) (a1 : Int32) (a2 : Int32) (h1 : Hp), rc t h a0 a1 a2 = some h1 → CT (d + u + 31) ((fun _ => YX12_columns) t) [.ref a0, .int a1, .int a2] h (oV) h1) (H : BX12_columns_38 rc h v0 v1 v2 v3 = some x) (hb0 : ∀ s : Int32 × Hp, x = .inl s → J (d + u + 31 + 1) YX12_columns 38 [.ref v0, .int v1, .int v2, .int s.1] [] s.2 oV h9) (hx : ∀ z : Hp, x = .inr (z) → z = h9) : J (d + u + 31 + 1) YX12_columns 38 [.ref v0, .int v1, .int v2, .int v3] [] h oV h9 := by
  unfold BX12_columns_38 at H
  refine J_iload_n 3 dX12_columns_38 rfl rfl ?_
  refine J_aload_n 0 dX12_columns_39 rfl rfl ?_
  obtain ⟨g3, H⟩ := gd H
  refine J_gP 11 1 dX12_columns_40 g3 flX12_8 rfl rfl ?_
  refine J_ldc (327382 : Int32) coX12_121 dX12_columns_43 ?_
  refine J_sipush (185 : Int32) dX12_columns_45 ks_185 ?_
  refine J_iload_n 1 dX12_columns_48 rfl rfl ?_
  refine J_imul dX12_columns_49 ?_
  refine J_iadd dX12_columns_50 ?_
  obtain ⟨g4, H⟩ := gd H
  obtain ⟨g5, H⟩ := gd H
  refine J_iald dX12_columns_51 g4 (inB_ok g5) ?_
  refine J_icmp_ge 76 dX12_columns_52 rfl (fun q6 => ?_) (fun q6 => ?_)
  · replace H := br1 q6 H
    cases H
    cases hx _ rfl
    exact J_ret dX12_columns_76 rfl
  · replace H := br0 q6 H
    refine J_aload_n 0 dX12_columns_55 rfl rfl ?_
    refine J_gP 11 46 dX12_columns_56 g3 flX12_97 rfl rfl ?_
    refine J_iload_n 2 dX12_columns_59 rfl rfl ?_
    refine J_iload_n 3 dX12_columns_60 rfl rfl ?_
    obtain ⟨g7, H⟩ := gd H
    obtain ⟨g8, H⟩ := gd H
    obtain ⟨h9, e10, H⟩ := lt_el H
    refine J_sI dX12_columns_61 g7 (inB_ok g8) e10 ?_
    have c11 := ekI e10
    have c12 := elI e10
    have c13 := epI e10
    refine J_aload_n 0 dX12_columns_62 rfl rfl ?_
    refine J_iload_n 1 dX12_columns_63 rfl rfl ?_
    refine J_iload_n 2 dX12_columns_64 rfl rfl ?_
    refine J_iconst (1 : Int32) dX12_columns_65 kc_1 ?_
    refine J_iadd dX12_columns_66 ?_
    obtain ⟨h15, e14, H⟩ := bd H
    refine J_cV (as := [.int v1, .int (v2 + (1 : Int32))]) 11 YX12_columns 2 dX12_columns_67 moX12_columns mvX12_columns mlX12_427 (kq c11 g3) rfl rfl (hrc 0 _ _ _ _ _ e14) rfl rfl [] rfl rfl (st2 := []) rfl ?_
    refine J_iinc (v3 + (1 : Int32)) dX12_columns_70 rfl (congrArg (HAdd.hAdd v3) kc_1) (by decide) (ls' := [.ref v0, .int v1, .int v2, .int (v3 + (1 : Int32))]) rfl ?_
    refine J_goto 38 dX12_columns_73 rfl ?_
    cases H
    exact J_dr (hb0 _ rfl) ⟨rfl, ⟨rfl, ⟨rfl, ⟨rfl, trivial⟩⟩⟩⟩
noncomputable def MX12_columns_38 (rc : Nat → Hp → Nat → Int32 → Int32 → Option Hp) (h : Hp) (v0 : Nat) (v1 : Int32) (v2 : Int32) (v3 : Int32) : Option Hp := it (fun q : Int32 × Hp => BX12_columns_38 rc q.2 v0 v1 v2 q.1) (v3, h)
set_option maxRecDepth 100000 in
set_option maxHeartbeats 8000000 in
theorem kX12_columns_38 {d u : Nat} {rc : Nat → Hp → Nat → Int32 → Int32 → Option Hp} {h : Hp} {v0 : Nat} {v1 : Int32} {v2 : Int32} {v3 : Int32} {h9 : Hp} (hrc : ∀ (t : Nat) (h : Hp) (a0 : Nat) (a1 : Int32) (a2 : Int32) (h1 : Hp), rc t h a0 a1 a2 = some h1 → CT (d + u + 31) ((fun _ => YX12_columns) t) [.ref a0, .int a1, .int a2] h (oV) h1) (H : MX12_columns_38 rc h v0 v1 v2 v3 = some h9) : J (d + u + 31 + 1) YX12_columns 38 [.ref v0, .int v1, .int v2, .int v3] [] h oV h9 := by
  unfold MX12_columns_38 at H
  refine it_J (G := (fun q : Int32 × Hp => J (d + u + 31 + 1) YX12_columns 38 [.ref v0, .int v1, .int v2, .int q.1] [] q.2 oV h9)) (Q := (fun y : Hp => y = h9)) (fun q x Hq hm => ?_) H rfl
  exact bX12_columns_38 hrc Hq (fun s hs => by subst hs; exact hm) (fun z hz => by subst hz; exact hm)
noncomputable def MX12_columns_28 (rc : Nat → Hp → Nat → Int32 → Int32 → Option Hp) (h : Hp) (v0 : Nat) (v1 : Int32) : Option Hp :=
  gg (β := Hp) (kd h v0 = 11) <|
  Option.bind (α := Hp) (β := Hp) (MX12_keeps 30 h v0 v1 (0 : Int32) (0 : Int32)) fun (h19 : Hp) =>
  some h19
set_option maxRecDepth 100000 in
set_option maxHeartbeats 8000000 in
theorem kX12_columns_28 {d u : Nat} {rc : Nat → Hp → Nat → Int32 → Int32 → Option Hp} {h : Hp} {v0 : Nat} {v1 : Int32} {h9 : Hp} (hrc : ∀ (t : Nat) (h : Hp) (a0 : Nat) (a1 : Int32) (a2 : Int32) (h1 : Hp), rc t h a0 a1 a2 = some h1 → CT (d + u + 31) ((fun _ => YX12_columns) t) [.ref a0, .int a1, .int a2] h (oV) h1) (H : MX12_columns_28 rc h v0 v1 = some h9) : J (d + u + 31 + 1) YX12_columns 28 [.ref v0, .int v1, Value.null, Value.null] [] h oV h9 := by
  unfold MX12_columns_28 at H
  refine J_aload_n 0 dX12_columns_28 rfl rfl ?_
  refine J_iload_n 1 dX12_columns_29 rfl rfl ?_
  refine J_iconst (0 : Int32) dX12_columns_30 kc_0 ?_
  refine J_iconst (0 : Int32) dX12_columns_31 kc_0 ?_
  obtain ⟨g18, H⟩ := gd H
  obtain ⟨h19, e17, H⟩ := bd H
  refine J_cV (as := [.int v1, .int (0 : Int32), .int (0 : Int32)]) 11 YX12_keeps 3 dX12_columns_32 moX12_keeps mvX12_keeps mlX12_430 g18 rfl rfl (okX12_keeps (d := d + u) e17) rfl rfl [] rfl rfl (st2 := []) rfl ?_
  cases H
  exact J_ret dX12_columns_35 rfl
noncomputable def BX12_columns_10 (rc : Nat → Hp → Nat → Int32 → Int32 → Option Hp) (h : Hp) (v0 : Nat) (v1 : Int32) (v3 : Int32) : Option ((Int32 × Hp) ⊕ Hp) :=
  if (3 : Int32) ≤ v3 then
    up1 (MX12_columns_28 rc h v0 v1)
  else
    gg (β := ((Int32 × Hp) ⊕ Hp)) (kd h v0 = 11) <|
    gg (β := ((Int32 × Hp) ⊕ Hp)) (kd h (gP h v0 50) = 20) <|
    gg (β := ((Int32 × Hp) ⊕ Hp)) (inB v3 (ln h (gP h v0 50)) = true) <|
    lt (α := Hp) (β := Option ((Int32 × Hp) ⊕ Hp)) (sI h (gP h v0 50) v3.toNatClampNeg (0 : Int32)) fun (h23 : Hp) =>
    some (.inl ((v3 + (1 : Int32)), h23))
set_option maxRecDepth 100000 in
set_option maxHeartbeats 8000000 in
theorem bX12_columns_10 {d u : Nat} {rc : Nat → Hp → Nat → Int32 → Int32 → Option Hp} {h : Hp} {v0 : Nat} {v1 : Int32} {v3 : Int32} {h9 : Hp} {x : ((Int32 × Hp) ⊕ Hp)} (hrc : ∀ (t : Nat) (h : Hp) (a0 : Nat) (a1 : Int32) (a2 : Int32) (h1 : Hp), rc t h a0 a1 a2 = some h1 → CT (d + u + 31) ((fun _ => YX12_columns) t) [.ref a0, .int a1, .int a2] h (oV) h1) (H : BX12_columns_10 rc h v0 v1 v3 = some x) (hb0 : ∀ s : Int32 × Hp, x = .inl s → J (d + u + 31 + 1) YX12_columns 10 [.ref v0, .int v1, Value.null, .int s.1] [] s.2 oV h9) (hx : ∀ z : Hp, x = .inr (z) → z = h9) : J (d + u + 31 + 1) YX12_columns 10 [.ref v0, .int v1, Value.null, .int v3] [] h oV h9 := by
  unfold BX12_columns_10 at H
  refine J_iload_n 3 dX12_columns_10 rfl rfl ?_
  refine J_iconst (3 : Int32) dX12_columns_11 kc_3 ?_
  refine J_icmp_ge 28 dX12_columns_12 rfl (fun q16 => ?_) (fun q16 => ?_)
  · replace H := br1 q16 H
    obtain ⟨y0, H90, rfl⟩ := up1_el H
    replace H := H90
    obtain rfl := hx _ rfl
    exact J_dr (kX12_columns_28 hrc H ) ⟨rfl, ⟨rfl, trivial⟩⟩
  · replace H := br0 q16 H
    refine J_aload_n 0 dX12_columns_15 rfl rfl ?_
    obtain ⟨g20, H⟩ := gd H
    refine J_gP 11 50 dX12_columns_16 g20 flX12_109 rfl rfl ?_
    refine J_iload_n 3 dX12_columns_19 rfl rfl ?_
    refine J_iconst (0 : Int32) dX12_columns_20 kc_0 ?_
    obtain ⟨g21, H⟩ := gd H
    obtain ⟨g22, H⟩ := gd H
    obtain ⟨h23, e24, H⟩ := lt_el H
    refine J_sI dX12_columns_21 g21 (inB_ok g22) e24 ?_
    have c25 := ekI e24
    have c26 := elI e24
    have c27 := epI e24
    refine J_iinc (v3 + (1 : Int32)) dX12_columns_22 rfl (congrArg (HAdd.hAdd v3) kc_1) (by decide) (ls' := [.ref v0, .int v1, Value.null, .int (v3 + (1 : Int32))]) rfl ?_
    refine J_goto 10 dX12_columns_25 rfl ?_
    cases H
    exact J_dr (hb0 _ rfl) ⟨rfl, ⟨rfl, ⟨rfl, trivial⟩⟩⟩
noncomputable def MX12_columns_10 (rc : Nat → Hp → Nat → Int32 → Int32 → Option Hp) (h : Hp) (v0 : Nat) (v1 : Int32) (v3 : Int32) : Option Hp := it (fun q : Int32 × Hp => BX12_columns_10 rc q.2 v0 v1 q.1) (v3, h)
set_option maxRecDepth 100000 in
set_option maxHeartbeats 8000000 in
theorem kX12_columns_10 {d u : Nat} {rc : Nat → Hp → Nat → Int32 → Int32 → Option Hp} {h : Hp} {v0 : Nat} {v1 : Int32} {v3 : Int32} {h9 : Hp} (hrc : ∀ (t : Nat) (h : Hp) (a0 : Nat) (a1 : Int32) (a2 : Int32) (h1 : Hp), rc t h a0 a1 a2 = some h1 → CT (d + u + 31) ((fun _ => YX12_columns) t) [.ref a0, .int a1, .int a2] h (oV) h1) (H : MX12_columns_10 rc h v0 v1 v3 = some h9) : J (d + u + 31 + 1) YX12_columns 10 [.ref v0, .int v1, Value.null, .int v3] [] h oV h9 := by
  unfold MX12_columns_10 at H
  refine it_J (G := (fun q : Int32 × Hp => J (d + u + 31 + 1) YX12_columns 10 [.ref v0, .int v1, Value.null, .int q.1] [] q.2 oV h9)) (Q := (fun y : Hp => y = h9)) (fun q x Hq hm => ?_) H rfl
  exact bX12_columns_10 hrc Hq (fun s hs => by subst hs; exact hm) (fun z hz => by subst hz; exact hm)
noncomputable def BX12_columns (rc : Nat → Hp → Nat → Int32 → Int32 → Option Hp) (h : Hp) (v0 : Nat) (v1 : Int32) (v2 : Int32) : Option Hp :=
  gg (β := Hp) (kd h v0 = 11) <|
  if v2 = (gI h v0 51) then
    MX12_columns_10 rc h v0 v1 (0 : Int32)
  else
    MX12_columns_38 rc h v0 v1 v2 (0 : Int32)
set_option maxRecDepth 100000 in
set_option maxHeartbeats 8000000 in
theorem eX12_columns {d u : Nat} {rc : Nat → Hp → Nat → Int32 → Int32 → Option Hp} {h : Hp} {v0 : Nat} {v1 : Int32} {v2 : Int32} {h9 : Hp} (hrc : ∀ (t : Nat) (h : Hp) (a0 : Nat) (a1 : Int32) (a2 : Int32) (h1 : Hp), rc t h a0 a1 a2 = some h1 → CT (d + u + 31) ((fun _ => YX12_columns) t) [.ref a0, .int a1, .int a2] h (oV) h1) (H : BX12_columns rc h v0 v1 v2 = some h9) : J (d + u + 31 + 1) YX12_columns 0 [.ref v0, .int v1, .int v2, Value.null] [] h oV h9 := by
  unfold BX12_columns at H
  refine J_iload_n 2 dX12_columns_0 rfl rfl ?_
  refine J_aload_n 0 dX12_columns_1 rfl rfl ?_
  obtain ⟨g1, H⟩ := gd H
  refine J_getI 11 51 dX12_columns_2 g1 flX12_421 rfl ?_
  refine J_icmp_ne 36 dX12_columns_5 rfl (fun q2 => ?_) (fun q2 => ?_)
  · replace H := br0 q2 H
    refine J_iconst (0 : Int32) dX12_columns_36 kc_0 ?_
    refine J_istore_n 3 dX12_columns_37 rfl (by decide) (ls' := [.ref v0, .int v1, .int v2, .int (0 : Int32)]) rfl ?_
    exact J_dr (kX12_columns_38 hrc H ) ⟨rfl, ⟨rfl, ⟨rfl, ⟨rfl, trivial⟩⟩⟩⟩
  · replace H := br1 q2 H
    refine J_iconst (0 : Int32) dX12_columns_8 kc_0 ?_
    refine J_istore_n 3 dX12_columns_9 rfl (by decide) (ls' := [.ref v0, .int v1, .int v2, .int (0 : Int32)]) rfl ?_
    exact J_dr (kX12_columns_10 hrc H ) ⟨rfl, ⟨rfl, ⟨rfl, trivial⟩⟩⟩
noncomputable def RX12_columns : Nat → Nat → Hp → Nat → Int32 → Int32 → Option Hp
  | 0 => fun _ _ _ _ _ => none
  | u + 1 => fun t h a0 a1 a2 => BX12_columns (RX12_columns u) h a0 a1 a2
theorem okRX12_columns (d : Nat) : ∀ (u t : Nat) (h : Hp) (a0 : Nat) (a1 : Int32) (a2 : Int32) (h1 : Hp), RX12_columns u t h a0 a1 a2 = some h1 → CT (d + u + 31) (YX12_columns) [.ref a0, .int a1, .int a2] h (oV) h1 := by
  intro u
  induction u with
  | zero => intro t h a0 a1 a2 h1 H; cases H
  | succ u ih =>
    intro t h a0 a1 a2 h1 H
    simp only [RX12_columns] at H
    exact CT_of (by decide +kernel) (Nat.le_of_ble_eq_true rfl) (eX12_columns (d := d) (u := u) ih H)
noncomputable def MX12_columns (u : Nat) (h : Hp) (v0 : Nat) (v1 : Int32) (v2 : Int32) : Option Hp := RX12_columns u 0 h v0 v1 v2
theorem okX12_columns {d : Nat} {h : Hp} {v0 : Nat} {v1 : Int32} {v2 : Int32} {h9 : Hp} (H : MX12_columns 30 h v0 v1 v2 = some h9) : CT (d + 61) YX12_columns [.ref v0, .int v1, .int v2] h oV h9 := okRX12_columns d 30 0 _ _ _ _ _ H
noncomputable def MX12_hasJob_64 (h : Hp) (v0 : Nat) (v1 : Int32) (v3 : Int32) (v4 : Int32) (s0 : Int32) : Option ((Int32 × Int32) ⊕ ((Int32 × Int32) ⊕ Int32)) :=
  some (.inl (s0, (v4 + (1 : Int32))))
set_option maxRecDepth 100000 in
set_option maxHeartbeats 8000000 in
theorem kX12_hasJob_64 {d : Nat} {h : Hp} {v0 : Nat} {v1 : Int32} {v3 : Int32} {v4 : Int32} {s0 : Int32} {r : Int32} {x : ((Int32 × Int32) ⊕ ((Int32 × Int32) ⊕ Int32))} (H : MX12_hasJob_64 h v0 v1 v3 v4 s0 = some x) (hb0 : ∀ s : Int32 × Int32, x = .inl s → J (d + 1) YX12_hasJob 17 [.ref v0, .int v1, .int s.1, .int v3, .int s.2] [] h (oI r) h) (hb1 : ∀ s : Int32 × Int32, x = .inr (.inl s) → J (d + 1) YX12_hasJob 4 [.ref v0, .int v1, .int s.1, .int s.2, Value.null] [] h (oI r) h) (hx : ∀ z : Int32, x = .inr (.inr (z)) → z = r) : J (d + 1) YX12_hasJob 64 [.ref v0, .int v1, Value.null, .int v3, .int v4] [.int s0] h (oI r) h := by
  unfold MX12_hasJob_64 at H
  refine J_istore_n 2 dX12_hasJob_64 rfl (by decide) (ls' := [.ref v0, .int v1, .int s0, .int v3, .int v4]) rfl ?_
  refine J_iinc (v4 + (1 : Int32)) dX12_hasJob_65 rfl (congrArg (HAdd.hAdd v4) kc_1) (by decide) (ls' := [.ref v0, .int v1, .int s0, .int v3, .int (v4 + (1 : Int32))]) rfl ?_
  refine J_goto 17 dX12_hasJob_68 rfl ?_
  cases H
  exact J_dr (hb0 _ rfl) ⟨rfl, ⟨rfl, ⟨rfl, ⟨rfl, ⟨rfl, trivial⟩⟩⟩⟩⟩
noncomputable def MX12_hasJob_59 (h : Hp) (v0 : Nat) (v1 : Int32) (v3 : Int32) (v4 : Int32) : Option ((Int32 × Int32) ⊕ ((Int32 × Int32) ⊕ Int32)) :=
  MX12_hasJob_64 h v0 v1 v3 v4 (1 : Int32)
set_option maxRecDepth 100000 in
set_option maxHeartbeats 8000000 in
theorem kX12_hasJob_59 {d : Nat} {h : Hp} {v0 : Nat} {v1 : Int32} {v3 : Int32} {v4 : Int32} {r : Int32} {x : ((Int32 × Int32) ⊕ ((Int32 × Int32) ⊕ Int32))} (H : MX12_hasJob_59 h v0 v1 v3 v4 = some x) (hb0 : ∀ s : Int32 × Int32, x = .inl s → J (d + 1) YX12_hasJob 17 [.ref v0, .int v1, .int s.1, .int v3, .int s.2] [] h (oI r) h) (hb1 : ∀ s : Int32 × Int32, x = .inr (.inl s) → J (d + 1) YX12_hasJob 4 [.ref v0, .int v1, .int s.1, .int s.2, Value.null] [] h (oI r) h) (hx : ∀ z : Int32, x = .inr (.inr (z)) → z = r) : J (d + 1) YX12_hasJob 59 [.ref v0, .int v1, Value.null, .int v3, .int v4] [] h (oI r) h := by
  unfold MX12_hasJob_59 at H
  refine J_iconst (1 : Int32) dX12_hasJob_59 kc_1 ?_
  refine J_goto 64 dX12_hasJob_60 rfl ?_
  exact J_dr (kX12_hasJob_64 H hb0 hb1 hx) ⟨rfl, ⟨rfl, ⟨rfl, ⟨rfl, trivial⟩⟩⟩⟩
noncomputable def BX12_hasJob_17 (h : Hp) (v0 : Nat) (v1 : Int32) (v2 : Int32) (v3 : Int32) (v4 : Int32) : Option ((Int32 × Int32) ⊕ ((Int32 × Int32) ⊕ Int32)) :=
  gg (β := ((Int32 × Int32) ⊕ ((Int32 × Int32) ⊕ Int32))) (kd h v0 = 11) <|
  Option.bind (α := Int32) (β := ((Int32 × Int32) ⊕ ((Int32 × Int32) ⊕ Int32))) (MX12_machine0 h v3) fun (t8 : Int32) =>
  gg (β := ((Int32 × Int32) ⊕ ((Int32 × Int32) ⊕ Int32))) (kd h (gP h v0 1) = 20) <|
  gg (β := ((Int32 × Int32) ⊕ ((Int32 × Int32) ⊕ Int32))) (inB (t8 + (29 : Int32)) (ln h (gP h v0 1)) = true) <|
  if (gI h (gP h v0 1) (t8 + (29 : Int32)).toNatClampNeg) ≤ v4 then
    some (.inr (.inl (v2, (v3 + (1 : Int32)))))
  else
    if v2 = 0 then
      Option.bind (α := Int32) (β := ((Int32 × Int32) ⊕ ((Int32 × Int32) ⊕ Int32))) (MX12_machine0 h v3) fun (t14 : Int32) =>
      gg (β := ((Int32 × Int32) ⊕ ((Int32 × Int32) ⊕ Int32))) (inB ((t14 + (33 : Int32)) + ((5 : Int32) * v4)) (ln h (gP h v0 1)) = true) <|
      if (gI h (gP h v0 1) ((t14 + (33 : Int32)) + ((5 : Int32) * v4)).toNatClampNeg) = v1 then
        MX12_hasJob_59 h v0 v1 v3 v4
      else
        MX12_hasJob_64 h v0 v1 v3 v4 (0 : Int32)
    else
      MX12_hasJob_59 h v0 v1 v3 v4
set_option maxRecDepth 100000 in
set_option maxHeartbeats 8000000 in
theorem bX12_hasJob_17 {d : Nat} {h : Hp} {v0 : Nat} {v1 : Int32} {v2 : Int32} {v3 : Int32} {v4 : Int32} {r : Int32} {x : ((Int32 × Int32) ⊕ ((Int32 × Int32) ⊕ Int32))} (H : BX12_hasJob_17 h v0 v1 v2 v3 v4 = some x) (hb0 : ∀ s : Int32 × Int32, x = .inl s → J (d + 1) YX12_hasJob 17 [.ref v0, .int v1, .int s.1, .int v3, .int s.2] [] h (oI r) h) (hb1 : ∀ s : Int32 × Int32, x = .inr (.inl s) → J (d + 1) YX12_hasJob 4 [.ref v0, .int v1, .int s.1, .int s.2, Value.null] [] h (oI r) h) (hx : ∀ z : Int32, x = .inr (.inr (z)) → z = r) : J (d + 1) YX12_hasJob 17 [.ref v0, .int v1, .int v2, .int v3, .int v4] [] h (oI r) h := by
  unfold BX12_hasJob_17 at H
  refine J_iload dX12_hasJob_17 rfl ?_
  refine J_aload_n 0 dX12_hasJob_19 rfl rfl ?_
  obtain ⟨g6, H⟩ := gd H
  refine J_gP 11 1 dX12_hasJob_20 g6 flX12_8 rfl rfl ?_
  refine J_iload_n 3 dX12_hasJob_23 rfl rfl ?_
  obtain ⟨t8, e7, H⟩ := bd H
  refine J_cS (as := [.int v3]) YX12_machine0 1 dX12_hasJob_24 moX12_machine0 msX12_machine0 mlX12_360 (okX12_machine0 (d := d) e7) rfl rfl [.ref (gP h v0 1), .int v4] rfl rfl (st2 := [.int t8, .ref (gP h v0 1), .int v4]) rfl ?_
  refine J_bipush (29 : Int32) dX12_hasJob_27 kb_29 ?_
  refine J_iadd dX12_hasJob_29 ?_
  obtain ⟨g9, H⟩ := gd H
  obtain ⟨g10, H⟩ := gd H
  refine J_iald dX12_hasJob_30 g9 (inB_ok g10) ?_
  refine J_icmp_ge 71 dX12_hasJob_31 rfl (fun q11 => ?_) (fun q11 => ?_)
  · replace H := br1 q11 H
    refine J_iinc (v3 + (1 : Int32)) dX12_hasJob_71 rfl (congrArg (HAdd.hAdd v3) kc_1) (by decide) (ls' := [.ref v0, .int v1, .int v2, .int (v3 + (1 : Int32)), .int v4]) rfl ?_
    refine J_goto 4 dX12_hasJob_74 rfl ?_
    cases H
    exact J_dr (hb1 _ rfl) ⟨rfl, ⟨rfl, ⟨rfl, ⟨rfl, trivial⟩⟩⟩⟩
  · replace H := br0 q11 H
    refine J_iload_n 2 dX12_hasJob_34 rfl rfl ?_
    refine J_if_ne 59 dX12_hasJob_35 rfl (fun q12 => ?_) (fun q12 => ?_)
    · replace H := br0 q12 H
      exact J_dr (kX12_hasJob_59 H hb0 hb1 hx) ⟨rfl, ⟨rfl, ⟨rfl, ⟨rfl, trivial⟩⟩⟩⟩
    · replace H := br1 q12 H
      refine J_aload_n 0 dX12_hasJob_38 rfl rfl ?_
      refine J_gP 11 1 dX12_hasJob_39 g6 flX12_8 rfl rfl ?_
      refine J_iload_n 3 dX12_hasJob_42 rfl rfl ?_
      obtain ⟨t14, e13, H⟩ := bd H
      refine J_cS (as := [.int v3]) YX12_machine0 1 dX12_hasJob_43 moX12_machine0 msX12_machine0 mlX12_360 (okX12_machine0 (d := d) e13) rfl rfl [.ref (gP h v0 1)] rfl rfl (st2 := [.int t14, .ref (gP h v0 1)]) rfl ?_
      refine J_bipush (33 : Int32) dX12_hasJob_46 kb_33 ?_
      refine J_iadd dX12_hasJob_48 ?_
      refine J_iconst (5 : Int32) dX12_hasJob_49 kc_5 ?_
      refine J_iload dX12_hasJob_50 rfl ?_
      refine J_imul dX12_hasJob_52 ?_
      refine J_iadd dX12_hasJob_53 ?_
      obtain ⟨g15, H⟩ := gd H
      refine J_iald dX12_hasJob_54 g9 (inB_ok g15) ?_
      refine J_iload_n 1 dX12_hasJob_55 rfl rfl ?_
      refine J_icmp_ne 63 dX12_hasJob_56 rfl (fun q16 => ?_) (fun q16 => ?_)
      · replace H := br0 q16 H
        refine J_iconst (0 : Int32) dX12_hasJob_63 kc_0 ?_
        exact J_dr (kX12_hasJob_64 H hb0 hb1 hx) ⟨rfl, ⟨rfl, ⟨rfl, ⟨rfl, trivial⟩⟩⟩⟩
      · replace H := br1 q16 H
        exact J_dr (kX12_hasJob_59 H hb0 hb1 hx) ⟨rfl, ⟨rfl, ⟨rfl, ⟨rfl, trivial⟩⟩⟩⟩
noncomputable def MX12_hasJob_17 (h : Hp) (v0 : Nat) (v1 : Int32) (v2 : Int32) (v3 : Int32) (v4 : Int32) : Option ((Int32 × Int32) ⊕ Int32) := it (fun q : Int32 × Int32 => BX12_hasJob_17 h v0 v1 q.1 v3 q.2) (v2, v4)
set_option maxRecDepth 100000 in
set_option maxHeartbeats 8000000 in
theorem kX12_hasJob_17 {d : Nat} {h : Hp} {v0 : Nat} {v1 : Int32} {v2 : Int32} {v3 : Int32} {v4 : Int32} {r : Int32} {x : ((Int32 × Int32) ⊕ Int32)} (H : MX12_hasJob_17 h v0 v1 v2 v3 v4 = some x) (hb0 : ∀ s : Int32 × Int32, x = .inl s → J (d + 1) YX12_hasJob 4 [.ref v0, .int v1, .int s.1, .int s.2, Value.null] [] h (oI r) h) (hx : ∀ z : Int32, x = .inr (z) → z = r) : J (d + 1) YX12_hasJob 17 [.ref v0, .int v1, .int v2, .int v3, .int v4] [] h (oI r) h := by
  unfold MX12_hasJob_17 at H
  refine it_J (G := (fun q : Int32 × Int32 => J (d + 1) YX12_hasJob 17 [.ref v0, .int v1, .int q.1, .int v3, .int q.2] [] h (oI r) h)) (Q := (fun y : ((Int32 × Int32) ⊕ Int32) => (∀ s : Int32 × Int32, y = .inl s → J (d + 1) YX12_hasJob 4 [.ref v0, .int v1, .int s.1, .int s.2, Value.null] [] h (oI r) h) ∧ (∀ z : Int32, y = .inr (z) → z = r))) (fun q x Hq hm => ?_) H ⟨hb0, hx⟩
  exact bX12_hasJob_17 Hq (fun s hs => by subst hs; exact hm) (fun s hs => by subst hs; exact (hm.1) s rfl) (fun z hz => by subst hz; exact (hm.2) z rfl)
noncomputable def BX12_hasJob_4 (h : Hp) (v0 : Nat) (v1 : Int32) (v2 : Int32) (v3 : Int32) : Option ((Int32 × Int32) ⊕ Int32) :=
  gg (β := ((Int32 × Int32) ⊕ Int32)) (kd h v0 = 11) <|
  gg (β := ((Int32 × Int32) ⊕ Int32)) (kd h (gP h v0 1) = 20) <|
  gg (β := ((Int32 × Int32) ⊕ Int32)) (inB (3 : Int32) (ln h (gP h v0 1)) = true) <|
  if (gI h (gP h v0 1) (3 : Int32).toNatClampNeg) ≤ v3 then
    gg (β := ((Int32 × Int32) ⊕ Int32)) (zOk v2 = true) <|
    some (.inr (v2))
  else
    MX12_hasJob_17 h v0 v1 v2 v3 (0 : Int32)
set_option maxRecDepth 100000 in
set_option maxHeartbeats 8000000 in
theorem bX12_hasJob_4 {d : Nat} {h : Hp} {v0 : Nat} {v1 : Int32} {v2 : Int32} {v3 : Int32} {r : Int32} {x : ((Int32 × Int32) ⊕ Int32)} (H : BX12_hasJob_4 h v0 v1 v2 v3 = some x) (hb0 : ∀ s : Int32 × Int32, x = .inl s → J (d + 1) YX12_hasJob 4 [.ref v0, .int v1, .int s.1, .int s.2, Value.null] [] h (oI r) h) (hx : ∀ z : Int32, x = .inr (z) → z = r) : J (d + 1) YX12_hasJob 4 [.ref v0, .int v1, .int v2, .int v3, Value.null] [] h (oI r) h := by
  unfold BX12_hasJob_4 at H
  refine J_iload_n 3 dX12_hasJob_4 rfl rfl ?_
  refine J_aload_n 0 dX12_hasJob_5 rfl rfl ?_
  obtain ⟨g1, H⟩ := gd H
  refine J_gP 11 1 dX12_hasJob_6 g1 flX12_8 rfl rfl ?_
  refine J_iconst (3 : Int32) dX12_hasJob_9 kc_3 ?_
  obtain ⟨g2, H⟩ := gd H
  obtain ⟨g3, H⟩ := gd H
  refine J_iald dX12_hasJob_10 g2 (inB_ok g3) ?_
  refine J_icmp_ge 77 dX12_hasJob_11 rfl (fun q4 => ?_) (fun q4 => ?_)
  · replace H := br1 q4 H
    refine J_iload_n 2 dX12_hasJob_77 rfl rfl ?_
    obtain ⟨g5, H⟩ := gd H
    cases H
    cases hx _ rfl
    exact J_rZ dX12_hasJob_78 rfl g5
  · replace H := br0 q4 H
    refine J_iconst (0 : Int32) dX12_hasJob_14 kc_0 ?_
    refine J_istore dX12_hasJob_15 (by decide) (ls' := [.ref v0, .int v1, .int v2, .int v3, .int (0 : Int32)]) rfl ?_
    exact J_dr (kX12_hasJob_17 H hb0 hx) ⟨rfl, ⟨rfl, ⟨rfl, ⟨rfl, ⟨rfl, trivial⟩⟩⟩⟩⟩
noncomputable def MX12_hasJob_4 (h : Hp) (v0 : Nat) (v1 : Int32) (v2 : Int32) (v3 : Int32) : Option Int32 := it (fun q : Int32 × Int32 => BX12_hasJob_4 h v0 v1 q.1 q.2) (v2, v3)
set_option maxRecDepth 100000 in
set_option maxHeartbeats 8000000 in
theorem kX12_hasJob_4 {d : Nat} {h : Hp} {v0 : Nat} {v1 : Int32} {v2 : Int32} {v3 : Int32} {r : Int32} (H : MX12_hasJob_4 h v0 v1 v2 v3 = some r) : J (d + 1) YX12_hasJob 4 [.ref v0, .int v1, .int v2, .int v3, Value.null] [] h (oI r) h := by
  unfold MX12_hasJob_4 at H
  refine it_J (G := (fun q : Int32 × Int32 => J (d + 1) YX12_hasJob 4 [.ref v0, .int v1, .int q.1, .int q.2, Value.null] [] h (oI r) h)) (Q := (fun y : Int32 => y = r)) (fun q x Hq hm => ?_) H rfl
  exact bX12_hasJob_4 Hq (fun s hs => by subst hs; exact hm) (fun z hz => by subst hz; exact hm)
noncomputable def MX12_hasJob (h : Hp) (v0 : Nat) (v1 : Int32) : Option Int32 :=
  MX12_hasJob_4 h v0 v1 (0 : Int32) (0 : Int32)
set_option maxRecDepth 100000 in
set_option maxHeartbeats 8000000 in
theorem eX12_hasJob {d : Nat} {h : Hp} {v0 : Nat} {v1 : Int32} {r : Int32} (H : MX12_hasJob h v0 v1 = some r) : J (d + 1) YX12_hasJob 0 [.ref v0, .int v1, Value.null, Value.null, Value.null] [] h (oI r) h := by
  unfold MX12_hasJob at H
  refine J_iconst (0 : Int32) dX12_hasJob_0 kc_0 ?_
  refine J_istore_n 2 dX12_hasJob_1 rfl (by decide) (ls' := [.ref v0, .int v1, .int (0 : Int32), Value.null, Value.null]) rfl ?_
  refine J_iconst (0 : Int32) dX12_hasJob_2 kc_0 ?_
  refine J_istore_n 3 dX12_hasJob_3 rfl (by decide) (ls' := [.ref v0, .int v1, .int (0 : Int32), .int (0 : Int32), Value.null]) rfl ?_
  exact J_dr (kX12_hasJob_4 H ) ⟨rfl, ⟨rfl, ⟨rfl, ⟨rfl, trivial⟩⟩⟩⟩
theorem okX12_hasJob {d : Nat} {h : Hp} {v0 : Nat} {v1 : Int32} {r : Int32} (H : MX12_hasJob h v0 v1 = some r) : CT (d + 1) YX12_hasJob [.ref v0, .int v1] h (oI r) h := CT_of (by decide +kernel) (Nat.le_of_ble_eq_true rfl) (eX12_hasJob H)
noncomputable def MX12_isSame_71 (h : Hp) (v0 : Nat) (v2 : Int32) (v5 : Int32) (s0 : Int32) : Option ((Int32 × Int32) ⊕ (Int32 × Hp)) :=
  some (.inl (s0, (v5 + (1 : Int32))))
set_option maxRecDepth 100000 in
set_option maxHeartbeats 8000000 in
theorem kX12_isSame_71 {d : Nat} {h : Hp} {v0 : Nat} {v2 : Int32} {v5 : Int32} {s0 : Int32} {r : Int32} {h9 : Hp} {x : ((Int32 × Int32) ⊕ (Int32 × Hp))} (H : MX12_isSame_71 h v0 v2 v5 s0 = some x) (hb0 : ∀ s : Int32 × Int32, x = .inl s → J (d + 2) YX12_isSame 29 [.ref v0, Value.null, .int v2, Value.null, .int s.1, .int s.2] [] h (oI r) h9) (hx : ∀ z : (Int32 × Hp), x = .inr (z) → z = (r, h9)) : J (d + 2) YX12_isSame 71 [.ref v0, Value.null, .int v2, Value.null, Value.null, .int v5] [.int s0] h (oI r) h9 := by
  unfold MX12_isSame_71 at H
  refine J_istore dX12_isSame_71 (by decide) (ls' := [.ref v0, Value.null, .int v2, Value.null, .int s0, .int v5]) rfl ?_
  refine J_iinc (v5 + (1 : Int32)) dX12_isSame_73 rfl (congrArg (HAdd.hAdd v5) kc_1) (by decide) (ls' := [.ref v0, Value.null, .int v2, Value.null, .int s0, .int (v5 + (1 : Int32))]) rfl ?_
  refine J_goto 29 dX12_isSame_76 rfl ?_
  cases H
  exact J_dr (hb0 _ rfl) ⟨rfl, ⟨rfl, ⟨rfl, ⟨rfl, trivial⟩⟩⟩⟩
noncomputable def BX12_isSame_29 (h : Hp) (v0 : Nat) (v2 : Int32) (v4 : Int32) (v5 : Int32) : Option ((Int32 × Int32) ⊕ (Int32 × Hp)) :=
  gg (β := ((Int32 × Int32) ⊕ (Int32 × Hp))) (kd h v0 = 11) <|
  if (gI h v0 35) ≤ v5 then
    gg (β := ((Int32 × Int32) ⊕ (Int32 × Hp))) (zOk v4 = true) <|
    some (.inr ((v4, h)))
  else
    if v4 = 0 then
      gg (β := ((Int32 × Int32) ⊕ (Int32 × Hp))) (zOk v4 = true) <|
      some (.inr ((v4, h)))
    else
      gg (β := ((Int32 × Int32) ⊕ (Int32 × Hp))) (kd h (gP h v0 38) = 20) <|
      gg (β := ((Int32 × Int32) ⊕ (Int32 × Hp))) (inB (((430 : Int32) * v2) + v5) (ln h (gP h v0 38)) = true) <|
      gg (β := ((Int32 × Int32) ⊕ (Int32 × Hp))) (kd h (gP h v0 34) = 20) <|
      gg (β := ((Int32 × Int32) ⊕ (Int32 × Hp))) (inB v5 (ln h (gP h v0 34)) = true) <|
      if (gI h (gP h v0 38) (((430 : Int32) * v2) + v5).toNatClampNeg) = (gI h (gP h v0 34) v5.toNatClampNeg) then
        MX12_isSame_71 h v0 v2 v5 (1 : Int32)
      else
        MX12_isSame_71 h v0 v2 v5 (0 : Int32)
set_option maxRecDepth 100000 in
set_option maxHeartbeats 8000000 in
theorem bX12_isSame_29 {d : Nat} {h : Hp} {v0 : Nat} {v2 : Int32} {v4 : Int32} {v5 : Int32} {r : Int32} {h9 : Hp} {x : ((Int32 × Int32) ⊕ (Int32 × Hp))} (H : BX12_isSame_29 h v0 v2 v4 v5 = some x) (hb0 : ∀ s : Int32 × Int32, x = .inl s → J (d + 2) YX12_isSame 29 [.ref v0, Value.null, .int v2, Value.null, .int s.1, .int s.2] [] h (oI r) h9) (hx : ∀ z : (Int32 × Hp), x = .inr (z) → z = (r, h9)) : J (d + 2) YX12_isSame 29 [.ref v0, Value.null, .int v2, Value.null, .int v4, .int v5] [] h (oI r) h9 := by
  unfold BX12_isSame_29 at H
  refine J_iload dX12_isSame_29 rfl ?_
  refine J_aload_n 0 dX12_isSame_31 rfl rfl ?_
  obtain ⟨g8, H⟩ := gd H
  refine J_getI 11 35 dX12_isSame_32 g8 flX12_351 rfl ?_
  refine J_icmp_ge 79 dX12_isSame_35 rfl (fun q9 => ?_) (fun q9 => ?_)
  · replace H := br1 q9 H
    refine J_iload dX12_isSame_79 rfl ?_
    obtain ⟨g10, H⟩ := gd H
    cases H
    cases hx _ rfl
    exact J_rZ dX12_isSame_81 rfl g10
  · replace H := br0 q9 H
    refine J_iload dX12_isSame_38 rfl ?_
    refine J_if_eq 79 dX12_isSame_40 rfl (fun q11 => ?_) (fun q11 => ?_)
    · replace H := br1 q11 H
      refine J_iload dX12_isSame_79 rfl ?_
      obtain ⟨g12, H⟩ := gd H
      cases H
      cases hx _ rfl
      exact J_rZ dX12_isSame_81 rfl g12
    · replace H := br0 q11 H
      refine J_aload_n 0 dX12_isSame_43 rfl rfl ?_
      refine J_gP 11 38 dX12_isSame_44 g8 flX12_73 rfl rfl ?_
      refine J_sipush (430 : Int32) dX12_isSame_47 ks_430 ?_
      refine J_iload_n 2 dX12_isSame_50 rfl rfl ?_
      refine J_imul dX12_isSame_51 ?_
      refine J_iload dX12_isSame_52 rfl ?_
      refine J_iadd dX12_isSame_54 ?_
      obtain ⟨g13, H⟩ := gd H
      obtain ⟨g14, H⟩ := gd H
      refine J_iald dX12_isSame_55 g13 (inB_ok g14) ?_
      refine J_aload_n 0 dX12_isSame_56 rfl rfl ?_
      refine J_gP 11 34 dX12_isSame_57 g8 flX12_64 rfl rfl ?_
      refine J_iload dX12_isSame_60 rfl ?_
      obtain ⟨g15, H⟩ := gd H
      obtain ⟨g16, H⟩ := gd H
      refine J_iald dX12_isSame_62 g15 (inB_ok g16) ?_
      refine J_icmp_ne 70 dX12_isSame_63 rfl (fun q17 => ?_) (fun q17 => ?_)
      · replace H := br0 q17 H
        refine J_iconst (0 : Int32) dX12_isSame_70 kc_0 ?_
        exact J_dr (kX12_isSame_71 H hb0 hx) ⟨rfl, ⟨rfl, ⟨rfl, trivial⟩⟩⟩
      · replace H := br1 q17 H
        refine J_iconst (1 : Int32) dX12_isSame_66 kc_1 ?_
        refine J_goto 71 dX12_isSame_67 rfl ?_
        exact J_dr (kX12_isSame_71 H hb0 hx) ⟨rfl, ⟨rfl, ⟨rfl, trivial⟩⟩⟩
noncomputable def MX12_isSame_29 (h : Hp) (v0 : Nat) (v2 : Int32) (v4 : Int32) (v5 : Int32) : Option (Int32 × Hp) := it (fun q : Int32 × Int32 => BX12_isSame_29 h v0 v2 q.1 q.2) (v4, v5)
set_option maxRecDepth 100000 in
set_option maxHeartbeats 8000000 in
theorem kX12_isSame_29 {d : Nat} {h : Hp} {v0 : Nat} {v2 : Int32} {v4 : Int32} {v5 : Int32} {r : Int32} {h9 : Hp} (H : MX12_isSame_29 h v0 v2 v4 v5 = some (r, h9)) : J (d + 2) YX12_isSame 29 [.ref v0, Value.null, .int v2, Value.null, .int v4, .int v5] [] h (oI r) h9 := by
  unfold MX12_isSame_29 at H
  refine it_J (G := (fun q : Int32 × Int32 => J (d + 2) YX12_isSame 29 [.ref v0, Value.null, .int v2, Value.null, .int q.1, .int q.2] [] h (oI r) h9)) (Q := (fun y : (Int32 × Hp) => y = (r, h9))) (fun q x Hq hm => ?_) H rfl
  exact bX12_isSame_29 Hq (fun s hs => by subst hs; exact hm) (fun z hz => by subst hz; exact hm)
noncomputable def MX12_isSame_24 (h : Hp) (v0 : Nat) (v2 : Int32) (s0 : Int32) : Option (Int32 × Hp) :=
  MX12_isSame_29 h v0 v2 s0 (0 : Int32)
set_option maxRecDepth 100000 in
set_option maxHeartbeats 8000000 in
theorem kX12_isSame_24 {d : Nat} {h : Hp} {v0 : Nat} {v2 : Int32} {s0 : Int32} {r : Int32} {h9 : Hp} (H : MX12_isSame_24 h v0 v2 s0 = some (r, h9)) : J (d + 2) YX12_isSame 24 [.ref v0, Value.null, .int v2, Value.null, Value.null, Value.null] [.int s0] h (oI r) h9 := by
  unfold MX12_isSame_24 at H
  refine J_istore dX12_isSame_24 (by decide) (ls' := [.ref v0, Value.null, .int v2, Value.null, .int s0, Value.null]) rfl ?_
  refine J_iconst (0 : Int32) dX12_isSame_26 kc_0 ?_
  refine J_istore dX12_isSame_27 (by decide) (ls' := [.ref v0, Value.null, .int v2, Value.null, .int s0, .int (0 : Int32)]) rfl ?_
  exact J_dr (kX12_isSame_29 H ) ⟨rfl, ⟨rfl, ⟨rfl, ⟨rfl, trivial⟩⟩⟩⟩
noncomputable def MX12_isSame (h : Hp) (v0 : Nat) (v1 : Int32) (v2 : Int32) (v3 : Int32) : Option (Int32 × Hp) :=
  gg (β := (Int32 × Hp)) (kd h v0 = 11) <|
  Option.bind (α := Hp) (β := (Int32 × Hp)) (MX12_write h v0 v1 v3) fun (h3 : Hp) =>
  gg (β := (Int32 × Hp)) (kd h3 v0 = 11) <|
  gg (β := (Int32 × Hp)) (kd h3 (gP h3 v0 39) = 20) <|
  gg (β := (Int32 × Hp)) (inB v2 (ln h3 (gP h3 v0 39)) = true) <|
  if (gI h3 (gP h3 v0 39) v2.toNatClampNeg) = (gI h3 v0 35) then
    MX12_isSame_24 h3 v0 v2 (1 : Int32)
  else
    MX12_isSame_24 h3 v0 v2 (0 : Int32)
set_option maxRecDepth 100000 in
set_option maxHeartbeats 8000000 in
theorem eX12_isSame {d : Nat} {h : Hp} {v0 : Nat} {v1 : Int32} {v2 : Int32} {v3 : Int32} {r : Int32} {h9 : Hp} (H : MX12_isSame h v0 v1 v2 v3 = some (r, h9)) : J (d + 2) YX12_isSame 0 [.ref v0, .int v1, .int v2, .int v3, Value.null, Value.null] [] h (oI r) h9 := by
  unfold MX12_isSame at H
  refine J_aload_n 0 dX12_isSame_0 rfl rfl ?_
  refine J_iload_n 1 dX12_isSame_1 rfl rfl ?_
  refine J_iload_n 3 dX12_isSame_2 rfl rfl ?_
  obtain ⟨g2, H⟩ := gd H
  obtain ⟨h3, e1, H⟩ := bd H
  refine J_cV (as := [.int v1, .int v3]) 11 YX12_write 2 dX12_isSame_3 moX12_write mvX12_write mlX12_357 g2 rfl rfl (okX12_write (d := d) e1) rfl rfl [] rfl rfl (st2 := []) rfl ?_
  refine J_aload_n 0 dX12_isSame_6 rfl rfl ?_
  obtain ⟨g4, H⟩ := gd H
  refine J_gP 11 39 dX12_isSame_7 g4 flX12_76 rfl rfl ?_
  refine J_iload_n 2 dX12_isSame_10 rfl rfl ?_
  obtain ⟨g5, H⟩ := gd H
  obtain ⟨g6, H⟩ := gd H
  refine J_iald dX12_isSame_11 g5 (inB_ok g6) ?_
  refine J_aload_n 0 dX12_isSame_12 rfl rfl ?_
  refine J_getI 11 35 dX12_isSame_13 g4 flX12_351 rfl ?_
  refine J_icmp_ne 23 dX12_isSame_16 rfl (fun q7 => ?_) (fun q7 => ?_)
  · replace H := br0 q7 H
    refine J_iconst (0 : Int32) dX12_isSame_23 kc_0 ?_
    exact J_dr (kX12_isSame_24 H ) ⟨rfl, ⟨rfl, trivial⟩⟩
  · replace H := br1 q7 H
    refine J_iconst (1 : Int32) dX12_isSame_19 kc_1 ?_
    refine J_goto 24 dX12_isSame_20 rfl ?_
    exact J_dr (kX12_isSame_24 H ) ⟨rfl, ⟨rfl, trivial⟩⟩
theorem okX12_isSame {d : Nat} {h : Hp} {v0 : Nat} {v1 : Int32} {v2 : Int32} {v3 : Int32} {r : Int32} {h9 : Hp} (H : MX12_isSame h v0 v1 v2 v3 = some (r, h9)) : CT (d + 2) YX12_isSame [.ref v0, .int v1, .int v2, .int v3] h (oI r) h9 := CT_of (by decide +kernel) (Nat.le_of_ble_eq_true rfl) (eX12_isSame H)
noncomputable def MX12_fails (h : Hp) (v0 : Nat) : Option (Int32 × Hp) :=
  gg (β := (Int32 × Hp)) (kd h v0 = 11) <|
  lt (α := Hp) (β := Option (Int32 × Hp)) (sI h v0 9 (gI h v0 8)) fun (h2 : Hp) =>
  some ((0 : Int32), h2)
set_option maxRecDepth 100000 in
set_option maxHeartbeats 8000000 in
theorem eX12_fails {d : Nat} {h : Hp} {v0 : Nat} {r : Int32} {h9 : Hp} (H : MX12_fails h v0 = some (r, h9)) : J (d) YX12_fails 0 [.ref v0] [] h (oI r) h9 := by
  unfold MX12_fails at H
  refine J_aload_n 0 dX12_fails_0 rfl rfl ?_
  refine J_aload_n 0 dX12_fails_1 rfl rfl ?_
  obtain ⟨g1, H⟩ := gd H
  refine J_getI 11 8 dX12_fails_2 g1 flX12_137 rfl ?_
  obtain ⟨h2, e3, H⟩ := lt_el H
  refine J_pI 11 9 dX12_fails_5 g1 flX12_23 rfl rfl e3 ?_
  have c4 := ekI e3
  have c5 := elI e3
  have c6 := epI e3
  refine J_iconst (0 : Int32) dX12_fails_8 kc_0 ?_
  cases H
  exact J_rZ dX12_fails_9 rfl rfl
theorem okX12_fails {d : Nat} {h : Hp} {v0 : Nat} {r : Int32} {h9 : Hp} (H : MX12_fails h v0 = some (r, h9)) : CT (d) YX12_fails [.ref v0] h (oI r) h9 := CT_of (by decide +kernel) (Nat.le_of_ble_eq_true rfl) (eX12_fails H)
noncomputable def MX12_isLetter (h : Hp) (v0 : Int32) : Option Int32 :=
  if v0 < (97 : Int32) then
    some (0 : Int32)
  else
    if (122 : Int32) < v0 then
      some (0 : Int32)
    else
      some (1 : Int32)
set_option maxRecDepth 100000 in
set_option maxHeartbeats 8000000 in
theorem eX12_isLetter {d : Nat} {h : Hp} {v0 : Int32} {r : Int32} (H : MX12_isLetter h v0 = some r) : J (d) YX12_isLetter 0 [.int v0] [] h (oI r) h := by
  unfold MX12_isLetter at H
  refine J_iload_n 0 dX12_isLetter_0 rfl rfl ?_
  refine J_bipush (97 : Int32) dX12_isLetter_1 kb_97 ?_
  refine J_icmp_lt 16 dX12_isLetter_3 rfl (fun q1 => ?_) (fun q1 => ?_)
  · replace H := br1 q1 H
    refine J_iconst (0 : Int32) dX12_isLetter_16 kc_0 ?_
    cases H
    exact J_rZ dX12_isLetter_17 rfl rfl
  · replace H := br0 q1 H
    refine J_iload_n 0 dX12_isLetter_6 rfl rfl ?_
    refine J_bipush (122 : Int32) dX12_isLetter_7 kb_122 ?_
    refine J_icmp_gt 16 dX12_isLetter_9 rfl (fun q2 => ?_) (fun q2 => ?_)
    · replace H := br1 q2 H
      refine J_iconst (0 : Int32) dX12_isLetter_16 kc_0 ?_
      cases H
      exact J_rZ dX12_isLetter_17 rfl rfl
    · replace H := br0 q2 H
      refine J_iconst (1 : Int32) dX12_isLetter_12 kc_1 ?_
      refine J_goto 17 dX12_isLetter_13 rfl ?_
      cases H
      exact J_rZ dX12_isLetter_17 rfl rfl
theorem okX12_isLetter {d : Nat} {h : Hp} {v0 : Int32} {r : Int32} (H : MX12_isLetter h v0 = some r) : CT (d) YX12_isLetter [.int v0] h (oI r) h := CT_of (by decide +kernel) (Nat.le_of_ble_eq_true rfl) (eX12_isLetter H)
noncomputable def MX12_readWord_254 (h : Hp) (v0 : Nat) : Option (Int32 × Hp) :=
  gg (β := (Int32 × Hp)) (kd h v0 = 11) <|
  lt (α := Hp) (β := Option (Int32 × Hp)) (sI h v0 9 (gI h v0 8)) fun (h40 : Hp) =>
  some ((0 : Int32), h40)
set_option maxRecDepth 100000 in
set_option maxHeartbeats 8000000 in
theorem kX12_readWord_254 {d : Nat} {h : Hp} {v0 : Nat} {r : Int32} {h9 : Hp} (H : MX12_readWord_254 h v0 = some (r, h9)) : J (d + 1) YX12_readWord 254 [.ref v0, Value.null, Value.null, Value.null, Value.null, Value.null] [] h (oI r) h9 := by
  unfold MX12_readWord_254 at H
  refine J_aload_n 0 dX12_readWord_254 rfl rfl ?_
  refine J_aload_n 0 dX12_readWord_255 rfl rfl ?_
  obtain ⟨g39, H⟩ := gd H
  refine J_getI 11 8 dX12_readWord_256 g39 flX12_137 rfl ?_
  obtain ⟨h40, e41, H⟩ := lt_el H
  refine J_pI 11 9 dX12_readWord_259 g39 flX12_23 rfl rfl e41 ?_
  have c42 := ekI e41
  have c43 := elI e41
  have c44 := epI e41
  refine J_iconst (0 : Int32) dX12_readWord_262 kc_0 ?_
  cases H
  exact J_rZ dX12_readWord_263 rfl rfl
noncomputable def MX12_readWord_208 (h : Hp) (v0 : Nat) (v1 : Int32) (v2 : Int32) (v3 : Int32) (s0 : Int32) : Option ((Int32 × Hp) ⊕ (Int32 × Hp)) :=
  if s0 = 0 then
    some (.inl (s0, h))
  else
    gg (β := ((Int32 × Hp) ⊕ (Int32 × Hp))) (kd h v0 = 11) <|
    lt (α := Hp) (β := Option ((Int32 × Hp) ⊕ (Int32 × Hp))) (sI h v0 8 ((gI h v0 8) + (1 : Int32))) fun (h33 : Hp) =>
    if (gI h33 v0 7) ≤ (gI h33 v0 8) then
      up1 (MX12_readWord_254 h33 v0)
    else
      gg (β := ((Int32 × Hp) ⊕ (Int32 × Hp))) (kd h (gP h v0 5) = 20) <|
      gg (β := ((Int32 × Hp) ⊕ (Int32 × Hp))) (inB (gI h33 v0 8) (ln h (gP h v0 5)) = true) <|
      Option.bind (α := Int32) (β := ((Int32 × Hp) ⊕ (Int32 × Hp))) (MX12_isLetter h33 (gI h33 (gP h v0 5) (gI h33 v0 8).toNatClampNeg)) fun (t48 : Int32) =>
      if t48 = 0 then
        up1 (MX12_readWord_254 h33 v0)
      else
        some (.inl (s0, h33))
set_option maxRecDepth 100000 in
set_option maxHeartbeats 8000000 in
theorem kX12_readWord_208 {d : Nat} {h : Hp} {v0 : Nat} {v1 : Int32} {v2 : Int32} {v3 : Int32} {s0 : Int32} {r : Int32} {h9 : Hp} {x : ((Int32 × Hp) ⊕ (Int32 × Hp))} (H : MX12_readWord_208 h v0 v1 v2 v3 s0 = some x) (hb0 : ∀ s : Int32 × Hp, x = .inl s → J (d + 1) YX12_readWord 3 [.ref v0, .int v1, .int v2, .int v3, .int s.1, Value.null] [] s.2 (oI r) h9) (hx : ∀ z : (Int32 × Hp), x = .inr (z) → z = (r, h9)) : J (d + 1) YX12_readWord 208 [.ref v0, .int v1, .int v2, .int v3, Value.null, Value.null] [.int s0] h (oI r) h9 := by
  unfold MX12_readWord_208 at H
  refine J_istore dX12_readWord_208 (by decide) (ls' := [.ref v0, .int v1, .int v2, .int v3, .int s0, Value.null]) rfl ?_
  refine J_iload dX12_readWord_210 rfl ?_
  refine J_if_ne 218 dX12_readWord_212 rfl (fun q31 => ?_) (fun q31 => ?_)
  · replace H := br0 q31 H
    refine J_aload_n 0 dX12_readWord_218 rfl rfl ?_
    refine J_dup dX12_readWord_219 rfl ?_
    obtain ⟨g32, H⟩ := gd H
    refine J_getI 11 8 dX12_readWord_220 g32 flX12_137 rfl ?_
    refine J_iconst (1 : Int32) dX12_readWord_223 kc_1 ?_
    refine J_iadd dX12_readWord_224 ?_
    obtain ⟨h33, e34, H⟩ := lt_el H
    refine J_pI 11 8 dX12_readWord_225 g32 flX12_137 rfl rfl e34 ?_
    have c35 := ekI e34
    have c36 := elI e34
    have c37 := epI e34
    refine J_aload_n 0 dX12_readWord_228 rfl rfl ?_
    refine J_getI 11 8 dX12_readWord_229 (kq c35 g32) flX12_137 rfl ?_
    refine J_aload_n 0 dX12_readWord_232 rfl rfl ?_
    refine J_getI 11 7 dX12_readWord_233 (kq c35 g32) flX12_134 rfl ?_
    refine J_icmp_ge 254 dX12_readWord_236 rfl (fun q38 => ?_) (fun q38 => ?_)
    · replace H := br1 q38 H
      obtain ⟨y0, H90, rfl⟩ := up1_el H
      replace H := H90
      obtain rfl := hx _ rfl
      exact J_dr (kX12_readWord_254 H ) ⟨rfl, trivial⟩
    · replace H := br0 q38 H
      refine J_aload_n 0 dX12_readWord_239 rfl rfl ?_
      refine J_gP 11 5 dX12_readWord_240 (kq c35 g32) flX12_20 rfl (congrFun (congrFun c37 v0) 5) ?_
      refine J_aload_n 0 dX12_readWord_243 rfl rfl ?_
      refine J_getI 11 8 dX12_readWord_244 (kq c35 g32) flX12_137 rfl ?_
      obtain ⟨g45, H⟩ := gd H
      obtain ⟨g46, H⟩ := gd H
      refine J_iald dX12_readWord_247 (kq c35 g45) (lq c36 g46) ?_
      obtain ⟨t48, e47, H⟩ := bd H
      refine J_cS (as := [.int (gI h33 (gP h v0 5) (gI h33 v0 8).toNatClampNeg)]) YX12_isLetter 1 dX12_readWord_248 moX12_isLetter msX12_isLetter mlX12_143 (okX12_isLetter (d := d) e47) rfl rfl [] rfl rfl (st2 := [.int t48]) rfl ?_
      refine J_if_ne 264 dX12_readWord_251 rfl (fun q49 => ?_) (fun q49 => ?_)
      · replace H := br0 q49 H
        refine J_goto 3 dX12_readWord_264 rfl ?_
        cases H
        exact J_dr (hb0 _ rfl) ⟨rfl, ⟨rfl, ⟨rfl, ⟨rfl, ⟨rfl, trivial⟩⟩⟩⟩⟩
      · replace H := br1 q49 H
        obtain ⟨y0, H90, rfl⟩ := up1_el H
        replace H := H90
        obtain rfl := hx _ rfl
        exact J_dr (kX12_readWord_254 H ) ⟨rfl, trivial⟩
  · replace H := br1 q31 H
    refine J_goto 3 dX12_readWord_215 rfl ?_
    cases H
    exact J_dr (hb0 _ rfl) ⟨rfl, ⟨rfl, ⟨rfl, ⟨rfl, ⟨rfl, trivial⟩⟩⟩⟩⟩
noncomputable def MX12_readWord_207 (h : Hp) (v0 : Nat) (v1 : Int32) (v2 : Int32) (v3 : Int32) : Option ((Int32 × Hp) ⊕ (Int32 × Hp)) :=
  MX12_readWord_208 h v0 v1 v2 v3 (0 : Int32)
set_option maxRecDepth 100000 in
set_option maxHeartbeats 8000000 in
theorem kX12_readWord_207 {d : Nat} {h : Hp} {v0 : Nat} {v1 : Int32} {v2 : Int32} {v3 : Int32} {r : Int32} {h9 : Hp} {x : ((Int32 × Hp) ⊕ (Int32 × Hp))} (H : MX12_readWord_207 h v0 v1 v2 v3 = some x) (hb0 : ∀ s : Int32 × Hp, x = .inl s → J (d + 1) YX12_readWord 3 [.ref v0, .int v1, .int v2, .int v3, .int s.1, Value.null] [] s.2 (oI r) h9) (hx : ∀ z : (Int32 × Hp), x = .inr (z) → z = (r, h9)) : J (d + 1) YX12_readWord 207 [.ref v0, .int v1, .int v2, .int v3, Value.null, Value.null] [] h (oI r) h9 := by
  unfold MX12_readWord_207 at H
  refine J_iconst (0 : Int32) dX12_readWord_207 kc_0 ?_
  exact J_dr (kX12_readWord_208 H hb0 hx) ⟨rfl, ⟨rfl, ⟨rfl, ⟨rfl, trivial⟩⟩⟩⟩
noncomputable def MX12_readWord_165 (h : Hp) (v0 : Nat) (v1 : Int32) (v2 : Int32) (v3 : Int32) : Option ((Int32 × Hp) ⊕ (Int32 × Hp)) :=
  gg (β := ((Int32 × Hp) ⊕ (Int32 × Hp))) (kd h v0 = 11) <|
  gg (β := ((Int32 × Hp) ⊕ (Int32 × Hp))) (kd h (gP h v0 15) = 20) <|
  gg (β := ((Int32 × Hp) ⊕ (Int32 × Hp))) (inB (gI h v0 17) (ln h (gP h v0 15)) = true) <|
  lt (α := Hp) (β := Option ((Int32 × Hp) ⊕ (Int32 × Hp))) (sI h (gP h v0 15) (gI h v0 17).toNatClampNeg ((gI h (gP h v0 15) (gI h v0 17).toNatClampNeg) + (1 : Int32))) fun (h25 : Hp) =>
  if (gI h25 v0 7) ≤ (gI h25 v0 8) then
    MX12_readWord_207 h25 v0 v1 v2 v3
  else
    gg (β := ((Int32 × Hp) ⊕ (Int32 × Hp))) (kd h (gP h v0 5) = 20) <|
    gg (β := ((Int32 × Hp) ⊕ (Int32 × Hp))) (inB (gI h25 v0 8) (ln h (gP h v0 5)) = true) <|
    if (gI h25 (gP h v0 5) (gI h25 v0 8).toNatClampNeg) = (45 : Int32) then
      MX12_readWord_208 h25 v0 v1 v2 v3 (1 : Int32)
    else
      MX12_readWord_207 h25 v0 v1 v2 v3
set_option maxRecDepth 100000 in
set_option maxHeartbeats 8000000 in
theorem kX12_readWord_165 {d : Nat} {h : Hp} {v0 : Nat} {v1 : Int32} {v2 : Int32} {v3 : Int32} {r : Int32} {h9 : Hp} {x : ((Int32 × Hp) ⊕ (Int32 × Hp))} (H : MX12_readWord_165 h v0 v1 v2 v3 = some x) (hb0 : ∀ s : Int32 × Hp, x = .inl s → J (d + 1) YX12_readWord 3 [.ref v0, .int v1, .int v2, .int v3, .int s.1, Value.null] [] s.2 (oI r) h9) (hx : ∀ z : (Int32 × Hp), x = .inr (z) → z = (r, h9)) : J (d + 1) YX12_readWord 165 [.ref v0, .int v1, .int v2, .int v3, Value.null, Value.null] [] h (oI r) h9 := by
  unfold MX12_readWord_165 at H
  refine J_aload_n 0 dX12_readWord_165 rfl rfl ?_
  obtain ⟨g22, H⟩ := gd H
  refine J_gP 11 15 dX12_readWord_166 g22 flX12_36 rfl rfl ?_
  refine J_aload_n 0 dX12_readWord_169 rfl rfl ?_
  refine J_getI 11 17 dX12_readWord_170 g22 flX12_140 rfl ?_
  refine J_dup2 dX12_readWord_173 rfl rfl ?_
  obtain ⟨g23, H⟩ := gd H
  obtain ⟨g24, H⟩ := gd H
  refine J_iald dX12_readWord_174 g23 (inB_ok g24) ?_
  refine J_iconst (1 : Int32) dX12_readWord_175 kc_1 ?_
  refine J_iadd dX12_readWord_176 ?_
  obtain ⟨h25, e26, H⟩ := lt_el H
  refine J_sI dX12_readWord_177 g23 (inB_ok g24) e26 ?_
  have c27 := ekI e26
  have c28 := elI e26
  have c29 := epI e26
  refine J_aload_n 0 dX12_readWord_178 rfl rfl ?_
  refine J_getI 11 8 dX12_readWord_179 (kq c27 g22) flX12_137 rfl ?_
  refine J_aload_n 0 dX12_readWord_182 rfl rfl ?_
  refine J_getI 11 7 dX12_readWord_183 (kq c27 g22) flX12_134 rfl ?_
  refine J_icmp_ge 207 dX12_readWord_186 rfl (fun q30 => ?_) (fun q30 => ?_)
  · replace H := br1 q30 H
    exact J_dr (kX12_readWord_207 H hb0 hx) ⟨rfl, ⟨rfl, ⟨rfl, ⟨rfl, trivial⟩⟩⟩⟩
  · replace H := br0 q30 H
    refine J_aload_n 0 dX12_readWord_189 rfl rfl ?_
    refine J_gP 11 5 dX12_readWord_190 (kq c27 g22) flX12_20 rfl (congrFun (congrFun c29 v0) 5) ?_
    refine J_aload_n 0 dX12_readWord_193 rfl rfl ?_
    refine J_getI 11 8 dX12_readWord_194 (kq c27 g22) flX12_137 rfl ?_
    obtain ⟨g50, H⟩ := gd H
    obtain ⟨g51, H⟩ := gd H
    refine J_iald dX12_readWord_197 (kq c27 g50) (lq c28 g51) ?_
    refine J_bipush (45 : Int32) dX12_readWord_198 kb_45 ?_
    refine J_icmp_ne 207 dX12_readWord_200 rfl (fun q52 => ?_) (fun q52 => ?_)
    · replace H := br0 q52 H
      exact J_dr (kX12_readWord_207 H hb0 hx) ⟨rfl, ⟨rfl, ⟨rfl, ⟨rfl, trivial⟩⟩⟩⟩
    · replace H := br1 q52 H
      refine J_iconst (1 : Int32) dX12_readWord_203 kc_1 ?_
      refine J_goto 208 dX12_readWord_204 rfl ?_
      exact J_dr (kX12_readWord_208 H hb0 hx) ⟨rfl, ⟨rfl, ⟨rfl, ⟨rfl, trivial⟩⟩⟩⟩
noncomputable def MX12_readWord_101 (h : Hp) (v0 : Nat) : Option (Int32 × Hp) :=
  gg (β := (Int32 × Hp)) (kd h v0 = 11) <|
  lt (α := Hp) (β := Option (Int32 × Hp)) (sI h v0 9 (gI h v0 8)) fun (h79 : Hp) =>
  some ((0 : Int32), h79)
set_option maxRecDepth 100000 in
set_option maxHeartbeats 8000000 in
theorem kX12_readWord_101 {d : Nat} {h : Hp} {v0 : Nat} {r : Int32} {h9 : Hp} (H : MX12_readWord_101 h v0 = some (r, h9)) : J (d + 1) YX12_readWord 101 [.ref v0, Value.null, Value.null, Value.null, Value.null, Value.null] [] h (oI r) h9 := by
  unfold MX12_readWord_101 at H
  refine J_aload_n 0 dX12_readWord_101 rfl rfl ?_
  refine J_aload_n 0 dX12_readWord_102 rfl rfl ?_
  obtain ⟨g78, H⟩ := gd H
  refine J_getI 11 8 dX12_readWord_103 g78 flX12_137 rfl ?_
  obtain ⟨h79, e80, H⟩ := lt_el H
  refine J_pI 11 9 dX12_readWord_106 g78 flX12_23 rfl rfl e80 ?_
  have c81 := ekI e80
  have c82 := elI e80
  have c83 := epI e80
  refine J_iconst (0 : Int32) dX12_readWord_109 kc_0 ?_
  cases H
  exact J_rZ dX12_readWord_110 rfl rfl
noncomputable def BX12_readWord_63 (h : Hp) (v0 : Nat) (v1 : Int32) (v2 : Int32) (v3 : Int32) (v5 : Int32) : Option ((Hp) ⊕ ((Int32 × Hp) ⊕ (Int32 × Hp))) :=
  gg (β := ((Hp) ⊕ ((Int32 × Hp) ⊕ (Int32 × Hp)))) (kd h v0 = 11) <|
  if (gI h v0 7) ≤ (gI h v0 8) then
    up1 (MX12_readWord_165 h v0 v1 v2 v3)
  else
    gg (β := ((Hp) ⊕ ((Int32 × Hp) ⊕ (Int32 × Hp)))) (kd h (gP h v0 5) = 20) <|
    gg (β := ((Hp) ⊕ ((Int32 × Hp) ⊕ (Int32 × Hp)))) (inB (gI h v0 8) (ln h (gP h v0 5)) = true) <|
    Option.bind (α := Int32) (β := ((Hp) ⊕ ((Int32 × Hp) ⊕ (Int32 × Hp)))) (MX12_isLetter h (gI h (gP h v0 5) (gI h v0 8).toNatClampNeg)) fun (t56 : Int32) =>
    if t56 = 0 then
      up1 (MX12_readWord_165 h v0 v1 v2 v3)
    else
      gg (β := ((Hp) ⊕ ((Int32 × Hp) ⊕ (Int32 × Hp)))) (kd h (gP h v0 13) = 20) <|
      gg (β := ((Hp) ⊕ ((Int32 × Hp) ⊕ (Int32 × Hp)))) (inB v5 (ln h (gP h v0 13)) = true) <|
      if (gI h (gP h v0 13) v5.toNatClampNeg) = (12 : Int32) then
        up1 (up1 (MX12_readWord_101 h v0))
      else
        gg (β := ((Hp) ⊕ ((Int32 × Hp) ⊕ (Int32 × Hp)))) (kd h (gP h v0 14) = 20) <|
        gg (β := ((Hp) ⊕ ((Int32 × Hp) ⊕ (Int32 × Hp)))) (inB (((12 : Int32) * v5) + (gI h (gP h v0 13) v5.toNatClampNeg)) (ln h (gP h v0 14)) = true) <|
        lt (α := Hp) (β := Option ((Hp) ⊕ ((Int32 × Hp) ⊕ (Int32 × Hp)))) (sI h (gP h v0 14) (((12 : Int32) * v5) + (gI h (gP h v0 13) v5.toNatClampNeg)).toNatClampNeg ((gI h (gP h v0 5) (gI h v0 8).toNatClampNeg) - (97 : Int32))) fun (h63 : Hp) =>
        lt (α := Hp) (β := Option ((Hp) ⊕ ((Int32 × Hp) ⊕ (Int32 × Hp)))) (sI h63 (gP h v0 13) v5.toNatClampNeg ((gI h63 (gP h v0 13) v5.toNatClampNeg) + (1 : Int32))) fun (h68 : Hp) =>
        lt (α := Hp) (β := Option ((Hp) ⊕ ((Int32 × Hp) ⊕ (Int32 × Hp)))) (sI h68 v0 8 ((gI h68 v0 8) + (1 : Int32))) fun (h73 : Hp) =>
        some (.inl h73)
set_option maxRecDepth 100000 in
set_option maxHeartbeats 8000000 in
theorem bX12_readWord_63 {d : Nat} {h : Hp} {v0 : Nat} {v1 : Int32} {v2 : Int32} {v3 : Int32} {v5 : Int32} {r : Int32} {h9 : Hp} {x : ((Hp) ⊕ ((Int32 × Hp) ⊕ (Int32 × Hp)))} (H : BX12_readWord_63 h v0 v1 v2 v3 v5 = some x) (hb0 : ∀ s : Hp, x = .inl s → J (d + 1) YX12_readWord 63 [.ref v0, .int v1, .int v2, .int v3, Value.null, .int v5] [] s (oI r) h9) (hb1 : ∀ s : Int32 × Hp, x = .inr (.inl s) → J (d + 1) YX12_readWord 3 [.ref v0, .int v1, .int v2, .int v3, .int s.1, Value.null] [] s.2 (oI r) h9) (hx : ∀ z : (Int32 × Hp), x = .inr (.inr (z)) → z = (r, h9)) : J (d + 1) YX12_readWord 63 [.ref v0, .int v1, .int v2, .int v3, Value.null, .int v5] [] h (oI r) h9 := by
  unfold BX12_readWord_63 at H
  refine J_aload_n 0 dX12_readWord_63 rfl rfl ?_
  obtain ⟨g20, H⟩ := gd H
  refine J_getI 11 8 dX12_readWord_64 g20 flX12_137 rfl ?_
  refine J_aload_n 0 dX12_readWord_67 rfl rfl ?_
  refine J_getI 11 7 dX12_readWord_68 g20 flX12_134 rfl ?_
  refine J_icmp_ge 165 dX12_readWord_71 rfl (fun q21 => ?_) (fun q21 => ?_)
  · replace H := br1 q21 H
    obtain ⟨y0, H90, rfl⟩ := up1_el H
    replace H := H90
    exact J_dr (kX12_readWord_165 H (fun s hs => hb1 s (congrArg Sum.inr hs)) (fun s hs => hx s (congrArg Sum.inr hs))) ⟨rfl, ⟨rfl, ⟨rfl, ⟨rfl, trivial⟩⟩⟩⟩
  · replace H := br0 q21 H
    refine J_aload_n 0 dX12_readWord_74 rfl rfl ?_
    refine J_gP 11 5 dX12_readWord_75 g20 flX12_20 rfl rfl ?_
    refine J_aload_n 0 dX12_readWord_78 rfl rfl ?_
    refine J_getI 11 8 dX12_readWord_79 g20 flX12_137 rfl ?_
    obtain ⟨g53, H⟩ := gd H
    obtain ⟨g54, H⟩ := gd H
    refine J_iald dX12_readWord_82 g53 (inB_ok g54) ?_
    obtain ⟨t56, e55, H⟩ := bd H
    refine J_cS (as := [.int (gI h (gP h v0 5) (gI h v0 8).toNatClampNeg)]) YX12_isLetter 1 dX12_readWord_83 moX12_isLetter msX12_isLetter mlX12_143 (okX12_isLetter (d := d) e55) rfl rfl [] rfl rfl (st2 := [.int t56]) rfl ?_
    refine J_if_eq 165 dX12_readWord_86 rfl (fun q57 => ?_) (fun q57 => ?_)
    · replace H := br1 q57 H
      obtain ⟨y0, H90, rfl⟩ := up1_el H
      replace H := H90
      exact J_dr (kX12_readWord_165 H (fun s hs => hb1 s (congrArg Sum.inr hs)) (fun s hs => hx s (congrArg Sum.inr hs))) ⟨rfl, ⟨rfl, ⟨rfl, ⟨rfl, trivial⟩⟩⟩⟩
    · replace H := br0 q57 H
      refine J_aload_n 0 dX12_readWord_89 rfl rfl ?_
      refine J_gP 11 13 dX12_readWord_90 g20 flX12_30 rfl rfl ?_
      refine J_iload dX12_readWord_93 rfl ?_
      obtain ⟨g58, H⟩ := gd H
      obtain ⟨g59, H⟩ := gd H
      refine J_iald dX12_readWord_95 g58 (inB_ok g59) ?_
      refine J_bipush (12 : Int32) dX12_readWord_96 kb_12 ?_
      refine J_icmp_ne 111 dX12_readWord_98 rfl (fun q60 => ?_) (fun q60 => ?_)
      · replace H := br0 q60 H
        refine J_aload_n 0 dX12_readWord_111 rfl rfl ?_
        refine J_gP 11 14 dX12_readWord_112 g20 flX12_33 rfl rfl ?_
        refine J_bipush (12 : Int32) dX12_readWord_115 kb_12 ?_
        refine J_iload dX12_readWord_117 rfl ?_
        refine J_imul dX12_readWord_119 ?_
        refine J_aload_n 0 dX12_readWord_120 rfl rfl ?_
        refine J_gP 11 13 dX12_readWord_121 g20 flX12_30 rfl rfl ?_
        refine J_iload dX12_readWord_124 rfl ?_
        refine J_iald dX12_readWord_126 g58 (inB_ok g59) ?_
        refine J_iadd dX12_readWord_127 ?_
        refine J_aload_n 0 dX12_readWord_128 rfl rfl ?_
        refine J_gP 11 5 dX12_readWord_129 g20 flX12_20 rfl rfl ?_
        refine J_aload_n 0 dX12_readWord_132 rfl rfl ?_
        refine J_getI 11 8 dX12_readWord_133 g20 flX12_137 rfl ?_
        refine J_iald dX12_readWord_136 g53 (inB_ok g54) ?_
        refine J_bipush (97 : Int32) dX12_readWord_137 kb_97 ?_
        refine J_isub dX12_readWord_139 ?_
        obtain ⟨g61, H⟩ := gd H
        obtain ⟨g62, H⟩ := gd H
        obtain ⟨h63, e64, H⟩ := lt_el H
        refine J_sI dX12_readWord_140 g61 (inB_ok g62) e64 ?_
        have c65 := ekI e64
        have c66 := elI e64
        have c67 := epI e64
        refine J_aload_n 0 dX12_readWord_141 rfl rfl ?_
        refine J_gP 11 13 dX12_readWord_142 (kq c65 g20) flX12_30 rfl (congrFun (congrFun c67 v0) 13) ?_
        refine J_iload dX12_readWord_145 rfl ?_
        refine J_dup2 dX12_readWord_147 rfl rfl ?_
        refine J_iald dX12_readWord_148 (kq c65 g58) (lq c66 g59) ?_
        refine J_iconst (1 : Int32) dX12_readWord_149 kc_1 ?_
        refine J_iadd dX12_readWord_150 ?_
        obtain ⟨h68, e69, H⟩ := lt_el H
        refine J_sI dX12_readWord_151 (kq c65 g58) (lq c66 g59) e69 ?_
        have c70 := (ekI e69).trans c65
        have c71 := (elI e69).trans c66
        have c72 := (epI e69).trans c67
        refine J_aload_n 0 dX12_readWord_152 rfl rfl ?_
        refine J_dup dX12_readWord_153 rfl ?_
        refine J_getI 11 8 dX12_readWord_154 (kq c70 g20) flX12_137 rfl ?_
        refine J_iconst (1 : Int32) dX12_readWord_157 kc_1 ?_
        refine J_iadd dX12_readWord_158 ?_
        obtain ⟨h73, e74, H⟩ := lt_el H
        refine J_pI 11 8 dX12_readWord_159 (kq c70 g20) flX12_137 rfl rfl e74 ?_
        have c75 := (ekI e74).trans c70
        have c76 := (elI e74).trans c71
        have c77 := (epI e74).trans c72
        refine J_goto 63 dX12_readWord_162 rfl ?_
        cases H
        exact J_dr (hb0 _ rfl) ⟨rfl, ⟨rfl, ⟨rfl, ⟨rfl, ⟨rfl, trivial⟩⟩⟩⟩⟩
      · replace H := br1 q60 H
        obtain ⟨y0, H90, rfl⟩ := up1_el H
        replace H := H90
        obtain ⟨y1, H91, rfl⟩ := up1_el H
        replace H := H91
        obtain rfl := hx _ rfl
        exact J_dr (kX12_readWord_101 H ) ⟨rfl, trivial⟩
noncomputable def MX12_readWord_63 (h : Hp) (v0 : Nat) (v1 : Int32) (v2 : Int32) (v3 : Int32) (v5 : Int32) : Option ((Int32 × Hp) ⊕ (Int32 × Hp)) := it (fun q : Hp => BX12_readWord_63 q v0 v1 v2 v3 v5) (h)
set_option maxRecDepth 100000 in
set_option maxHeartbeats 8000000 in
theorem kX12_readWord_63 {d : Nat} {h : Hp} {v0 : Nat} {v1 : Int32} {v2 : Int32} {v3 : Int32} {v5 : Int32} {r : Int32} {h9 : Hp} {x : ((Int32 × Hp) ⊕ (Int32 × Hp))} (H : MX12_readWord_63 h v0 v1 v2 v3 v5 = some x) (hb0 : ∀ s : Int32 × Hp, x = .inl s → J (d + 1) YX12_readWord 3 [.ref v0, .int v1, .int v2, .int v3, .int s.1, Value.null] [] s.2 (oI r) h9) (hx : ∀ z : (Int32 × Hp), x = .inr (z) → z = (r, h9)) : J (d + 1) YX12_readWord 63 [.ref v0, .int v1, .int v2, .int v3, Value.null, .int v5] [] h (oI r) h9 := by
  unfold MX12_readWord_63 at H
  refine it_J (G := (fun q : Hp => J (d + 1) YX12_readWord 63 [.ref v0, .int v1, .int v2, .int v3, Value.null, .int v5] [] q (oI r) h9)) (Q := (fun y : ((Int32 × Hp) ⊕ (Int32 × Hp)) => (∀ s : Int32 × Hp, y = .inl s → J (d + 1) YX12_readWord 3 [.ref v0, .int v1, .int v2, .int v3, .int s.1, Value.null] [] s.2 (oI r) h9) ∧ (∀ z : (Int32 × Hp), y = .inr (z) → z = (r, h9)))) (fun q x Hq hm => ?_) H ⟨hb0, hx⟩
  exact bX12_readWord_63 Hq (fun s hs => by subst hs; exact hm) (fun s hs => by subst hs; exact (hm.1) s rfl) (fun z hz => by subst hz; exact (hm.2) z rfl)
noncomputable def MX12_readWord_37 (h : Hp) (v0 : Nat) : Option (Int32 × Hp) :=
  gg (β := (Int32 × Hp)) (kd h v0 = 11) <|
  lt (α := Hp) (β := Option (Int32 × Hp)) (sI h v0 9 (gI h v0 8)) fun (h85 : Hp) =>
  some ((0 : Int32), h85)
set_option maxRecDepth 100000 in
set_option maxHeartbeats 8000000 in
theorem kX12_readWord_37 {d : Nat} {h : Hp} {v0 : Nat} {r : Int32} {h9 : Hp} (H : MX12_readWord_37 h v0 = some (r, h9)) : J (d + 1) YX12_readWord 37 [.ref v0, Value.null, Value.null, Value.null, Value.null, Value.null] [] h (oI r) h9 := by
  unfold MX12_readWord_37 at H
  refine J_aload_n 0 dX12_readWord_37 rfl rfl ?_
  refine J_aload_n 0 dX12_readWord_38 rfl rfl ?_
  obtain ⟨g84, H⟩ := gd H
  refine J_getI 11 8 dX12_readWord_39 g84 flX12_137 rfl ?_
  obtain ⟨h85, e86, H⟩ := lt_el H
  refine J_pI 11 9 dX12_readWord_42 g84 flX12_23 rfl rfl e86 ?_
  have c87 := ekI e86
  have c88 := elI e86
  have c89 := epI e86
  refine J_iconst (0 : Int32) dX12_readWord_45 kc_0 ?_
  cases H
  exact J_rZ dX12_readWord_46 rfl rfl
noncomputable def BX12_readWord_3 (h : Hp) (v0 : Nat) (v1 : Int32) (v2 : Int32) (v3 : Int32) (v4 : Int32) : Option ((Int32 × Hp) ⊕ (Int32 × Hp)) :=
  if v4 = 0 then
    some (.inr (((1 : Int32), h)))
  else
    gg (β := ((Int32 × Hp) ⊕ (Int32 × Hp))) (kd h v0 = 11) <|
    gg (β := ((Int32 × Hp) ⊕ (Int32 × Hp))) (kd h (gP h v0 15) = 20) <|
    gg (β := ((Int32 × Hp) ⊕ (Int32 × Hp))) (inB (gI h v0 17) (ln h (gP h v0 15)) = true) <|
    if (v3 + (gI h (gP h v0 15) (gI h v0 17).toNatClampNeg)) = (40 : Int32) then
      up1 (MX12_readWord_37 h v0)
    else
      gg (β := ((Int32 × Hp) ⊕ (Int32 × Hp))) (kd h (gP h v0 12) = 20) <|
      gg (β := ((Int32 × Hp) ⊕ (Int32 × Hp))) (inB (v1 + (gI h (gP h v0 15) (gI h v0 17).toNatClampNeg)) (ln h (gP h v0 12)) = true) <|
      lt (α := Hp) (β := Option ((Int32 × Hp) ⊕ (Int32 × Hp))) (sI h (gP h v0 12) (v1 + (gI h (gP h v0 15) (gI h v0 17).toNatClampNeg)).toNatClampNeg v2) fun (h8 : Hp) =>
      gg (β := ((Int32 × Hp) ⊕ (Int32 × Hp))) (kd h (gP h v0 13) = 20) <|
      gg (β := ((Int32 × Hp) ⊕ (Int32 × Hp))) (inB (v1 + (gI h (gP h v0 15) (gI h v0 17).toNatClampNeg)) (ln h (gP h v0 13)) = true) <|
      lt (α := Hp) (β := Option ((Int32 × Hp) ⊕ (Int32 × Hp))) (sI h8 (gP h v0 13) (v1 + (gI h (gP h v0 15) (gI h v0 17).toNatClampNeg)).toNatClampNeg (0 : Int32)) fun (h15 : Hp) =>
      MX12_readWord_63 h15 v0 v1 v2 v3 (v1 + (gI h (gP h v0 15) (gI h v0 17).toNatClampNeg))
set_option maxRecDepth 100000 in
set_option maxHeartbeats 8000000 in
theorem bX12_readWord_3 {d : Nat} {h : Hp} {v0 : Nat} {v1 : Int32} {v2 : Int32} {v3 : Int32} {v4 : Int32} {r : Int32} {h9 : Hp} {x : ((Int32 × Hp) ⊕ (Int32 × Hp))} (H : BX12_readWord_3 h v0 v1 v2 v3 v4 = some x) (hb0 : ∀ s : Int32 × Hp, x = .inl s → J (d + 1) YX12_readWord 3 [.ref v0, .int v1, .int v2, .int v3, .int s.1, Value.null] [] s.2 (oI r) h9) (hx : ∀ z : (Int32 × Hp), x = .inr (z) → z = (r, h9)) : J (d + 1) YX12_readWord 3 [.ref v0, .int v1, .int v2, .int v3, .int v4, Value.null] [] h (oI r) h9 := by
  unfold BX12_readWord_3 at H
  refine J_iload dX12_readWord_3 rfl ?_
  refine J_if_eq 267 dX12_readWord_5 rfl (fun q1 => ?_) (fun q1 => ?_)
  · replace H := br1 q1 H
    refine J_iconst (1 : Int32) dX12_readWord_267 kc_1 ?_
    cases H
    cases hx _ rfl
    exact J_rZ dX12_readWord_268 rfl rfl
  · replace H := br0 q1 H
    refine J_iload_n 1 dX12_readWord_8 rfl rfl ?_
    refine J_aload_n 0 dX12_readWord_9 rfl rfl ?_
    obtain ⟨g2, H⟩ := gd H
    refine J_gP 11 15 dX12_readWord_10 g2 flX12_36 rfl rfl ?_
    refine J_aload_n 0 dX12_readWord_13 rfl rfl ?_
    refine J_getI 11 17 dX12_readWord_14 g2 flX12_140 rfl ?_
    obtain ⟨g3, H⟩ := gd H
    obtain ⟨g4, H⟩ := gd H
    refine J_iald dX12_readWord_17 g3 (inB_ok g4) ?_
    refine J_iadd dX12_readWord_18 ?_
    refine J_istore dX12_readWord_19 (by decide) (ls' := [.ref v0, .int v1, .int v2, .int v3, .int v4, .int (v1 + (gI h (gP h v0 15) (gI h v0 17).toNatClampNeg))]) rfl ?_
    refine J_iload_n 3 dX12_readWord_21 rfl rfl ?_
    refine J_aload_n 0 dX12_readWord_22 rfl rfl ?_
    refine J_gP 11 15 dX12_readWord_23 g2 flX12_36 rfl rfl ?_
    refine J_aload_n 0 dX12_readWord_26 rfl rfl ?_
    refine J_getI 11 17 dX12_readWord_27 g2 flX12_140 rfl ?_
    refine J_iald dX12_readWord_30 g3 (inB_ok g4) ?_
    refine J_iadd dX12_readWord_31 ?_
    refine J_bipush (40 : Int32) dX12_readWord_32 kb_40 ?_
    refine J_icmp_ne 47 dX12_readWord_34 rfl (fun q5 => ?_) (fun q5 => ?_)
    · replace H := br0 q5 H
      refine J_aload_n 0 dX12_readWord_47 rfl rfl ?_
      refine J_gP 11 12 dX12_readWord_48 g2 flX12_27 rfl rfl ?_
      refine J_iload dX12_readWord_51 rfl ?_
      refine J_iload_n 2 dX12_readWord_53 rfl rfl ?_
      obtain ⟨g6, H⟩ := gd H
      obtain ⟨g7, H⟩ := gd H
      obtain ⟨h8, e9, H⟩ := lt_el H
      refine J_sI dX12_readWord_54 g6 (inB_ok g7) e9 ?_
      have c10 := ekI e9
      have c11 := elI e9
      have c12 := epI e9
      refine J_aload_n 0 dX12_readWord_55 rfl rfl ?_
      refine J_gP 11 13 dX12_readWord_56 (kq c10 g2) flX12_30 rfl (congrFun (congrFun c12 v0) 13) ?_
      refine J_iload dX12_readWord_59 rfl ?_
      refine J_iconst (0 : Int32) dX12_readWord_61 kc_0 ?_
      obtain ⟨g13, H⟩ := gd H
      obtain ⟨g14, H⟩ := gd H
      obtain ⟨h15, e16, H⟩ := lt_el H
      refine J_sI dX12_readWord_62 (kq c10 g13) (lq c11 g14) e16 ?_
      have c17 := (ekI e16).trans c10
      have c18 := (elI e16).trans c11
      have c19 := (epI e16).trans c12
      exact J_dr (kX12_readWord_63 H hb0 hx) ⟨rfl, ⟨rfl, ⟨rfl, ⟨rfl, ⟨rfl, trivial⟩⟩⟩⟩⟩
    · replace H := br1 q5 H
      obtain ⟨y0, H90, rfl⟩ := up1_el H
      replace H := H90
      obtain rfl := hx _ rfl
      exact J_dr (kX12_readWord_37 H ) ⟨rfl, trivial⟩
noncomputable def MX12_readWord_3 (h : Hp) (v0 : Nat) (v1 : Int32) (v2 : Int32) (v3 : Int32) (v4 : Int32) : Option (Int32 × Hp) := it (fun q : Int32 × Hp => BX12_readWord_3 q.2 v0 v1 v2 v3 q.1) (v4, h)
set_option maxRecDepth 100000 in
set_option maxHeartbeats 8000000 in
theorem kX12_readWord_3 {d : Nat} {h : Hp} {v0 : Nat} {v1 : Int32} {v2 : Int32} {v3 : Int32} {v4 : Int32} {r : Int32} {h9 : Hp} (H : MX12_readWord_3 h v0 v1 v2 v3 v4 = some (r, h9)) : J (d + 1) YX12_readWord 3 [.ref v0, .int v1, .int v2, .int v3, .int v4, Value.null] [] h (oI r) h9 := by
  unfold MX12_readWord_3 at H
  refine it_J (G := (fun q : Int32 × Hp => J (d + 1) YX12_readWord 3 [.ref v0, .int v1, .int v2, .int v3, .int q.1, Value.null] [] q.2 (oI r) h9)) (Q := (fun y : (Int32 × Hp) => y = (r, h9))) (fun q x Hq hm => ?_) H rfl
  exact bX12_readWord_3 Hq (fun s hs => by subst hs; exact hm) (fun z hz => by subst hz; exact hm)
noncomputable def MX12_readWord (h : Hp) (v0 : Nat) (v1 : Int32) (v2 : Int32) (v3 : Int32) : Option (Int32 × Hp) :=
  MX12_readWord_3 h v0 v1 v2 v3 (1 : Int32)
set_option maxRecDepth 100000 in
set_option maxHeartbeats 8000000 in
theorem eX12_readWord {d : Nat} {h : Hp} {v0 : Nat} {v1 : Int32} {v2 : Int32} {v3 : Int32} {r : Int32} {h9 : Hp} (H : MX12_readWord h v0 v1 v2 v3 = some (r, h9)) : J (d + 1) YX12_readWord 0 [.ref v0, .int v1, .int v2, .int v3, Value.null, Value.null] [] h (oI r) h9 := by
  unfold MX12_readWord at H
  refine J_iconst (1 : Int32) dX12_readWord_0 kc_1 ?_
  refine J_istore dX12_readWord_1 (by decide) (ls' := [.ref v0, .int v1, .int v2, .int v3, .int (1 : Int32), Value.null]) rfl ?_
  exact J_dr (kX12_readWord_3 H ) ⟨rfl, ⟨rfl, ⟨rfl, ⟨rfl, ⟨rfl, trivial⟩⟩⟩⟩⟩
theorem okX12_readWord {d : Nat} {h : Hp} {v0 : Nat} {v1 : Int32} {v2 : Int32} {v3 : Int32} {r : Int32} {h9 : Hp} (H : MX12_readWord h v0 v1 v2 v3 = some (r, h9)) : CT (d + 1) YX12_readWord [.ref v0, .int v1, .int v2, .int v3] h (oI r) h9 := CT_of (by decide +kernel) (Nat.le_of_ble_eq_true rfl) (eX12_readWord H)
noncomputable def MX12_readOne_42 (h : Hp) (v0 : Nat) : Option (Int32 × Hp) :=
  gg (β := (Int32 × Hp)) (kd h v0 = 11) <|
  b2 (α := Int32) (β := Hp) (γ := (Int32 × Hp)) (MX12_fails h v0) fun (t21 : Int32) (h20 : Hp) =>
  gg (β := (Int32 × Hp)) (zOk t21 = true) <|
  some (t21, h20)
set_option maxRecDepth 100000 in
set_option maxHeartbeats 8000000 in
theorem kX12_readOne_42 {d : Nat} {h : Hp} {v0 : Nat} {r : Int32} {h9 : Hp} (H : MX12_readOne_42 h v0 = some (r, h9)) : J (d + 2) YX12_readOne 42 [.ref v0, Value.null] [] h (oI r) h9 := by
  unfold MX12_readOne_42 at H
  refine J_aload_n 0 dX12_readOne_42 rfl rfl ?_
  obtain ⟨g19, H⟩ := gd H
  obtain ⟨t21, h20, e18, H⟩ := b2_el H
  refine J_cV (as := []) 11 YX12_fails 0 dX12_readOne_43 moX12_fails mvX12_fails mlX12_223 g19 rfl rfl (okX12_fails (d := d + 1) e18) rfl rfl [] rfl rfl (st2 := [.int t21]) rfl ?_
  obtain ⟨g22, H⟩ := gd H
  cases H
  exact J_rZ dX12_readOne_46 rfl g22
noncomputable def MX12_readOne (h : Hp) (v0 : Nat) (v1 : Int32) : Option (Int32 × Hp) :=
  gg (β := (Int32 × Hp)) (kd h v0 = 11) <|
  lt (α := Hp) (β := Option (Int32 × Hp)) (sI h v0 17 (0 : Int32)) fun (h2 : Hp) =>
  gg (β := (Int32 × Hp)) (kd h (gP h v0 15) = 20) <|
  gg (β := (Int32 × Hp)) (inB (0 : Int32) (ln h (gP h v0 15)) = true) <|
  lt (α := Hp) (β := Option (Int32 × Hp)) (sI h2 (gP h v0 15) (0 : Int32).toNatClampNeg (0 : Int32)) fun (h9 : Hp) =>
  Option.bind (α := Hp) (β := (Int32 × Hp)) (MX12_blanks h9 v0) fun (h15 : Hp) =>
  gg (β := (Int32 × Hp)) (kd h15 v0 = 11) <|
  if (gI h15 v0 7) ≤ (gI h15 v0 8) then
    MX12_readOne_42 h15 v0
  else
    gg (β := (Int32 × Hp)) (kd h15 (gP h15 v0 5) = 20) <|
    gg (β := (Int32 × Hp)) (inB (gI h15 v0 8) (ln h15 (gP h15 v0 5)) = true) <|
    Option.bind (α := Int32) (β := (Int32 × Hp)) (MX12_isLetter h15 (gI h15 (gP h15 v0 5) (gI h15 v0 8).toNatClampNeg)) fun (t26 : Int32) =>
    if t26 = 0 then
      MX12_readOne_42 h15 v0
    else
      b2 (α := Int32) (β := Hp) (γ := (Int32 × Hp)) (MX12_readWord h15 v0 (0 : Int32) (0 : Int32) v1) fun (t30 : Int32) (h29 : Hp) =>
      if t30 = 0 then
        some ((0 : Int32), h29)
      else
        gg (β := (Int32 × Hp)) (kd h29 v0 = 11) <|
        Option.bind (α := Hp) (β := (Int32 × Hp)) (MX12_blanks h29 v0) fun (h34 : Hp) =>
        gg (β := (Int32 × Hp)) (kd h34 v0 = 11) <|
        if (gI h34 v0 7) ≤ (gI h34 v0 8) then
          some ((1 : Int32), h34)
        else
          b2 (α := Int32) (β := Hp) (γ := (Int32 × Hp)) (MX12_fails h34 v0) fun (t39 : Int32) (h38 : Hp) =>
          if t39 = 0 then
            some ((0 : Int32), h38)
          else
            some ((1 : Int32), h38)
set_option maxRecDepth 100000 in
set_option maxHeartbeats 8000000 in
theorem eX12_readOne {d : Nat} {h : Hp} {v0 : Nat} {v1 : Int32} {r : Int32} {h9 : Hp} (H : MX12_readOne h v0 v1 = some (r, h9)) : J (d + 2) YX12_readOne 0 [.ref v0, .int v1] [] h (oI r) h9 := by
  unfold MX12_readOne at H
  refine J_aload_n 0 dX12_readOne_0 rfl rfl ?_
  refine J_iconst (0 : Int32) dX12_readOne_1 kc_0 ?_
  obtain ⟨g1, H⟩ := gd H
  obtain ⟨h2, e3, H⟩ := lt_el H
  refine J_pI 11 17 dX12_readOne_2 g1 flX12_140 rfl rfl e3 ?_
  have c4 := ekI e3
  have c5 := elI e3
  have c6 := epI e3
  refine J_aload_n 0 dX12_readOne_5 rfl rfl ?_
  refine J_gP 11 15 dX12_readOne_6 (kq c4 g1) flX12_36 rfl (congrFun (congrFun c6 v0) 15) ?_
  refine J_iconst (0 : Int32) dX12_readOne_9 kc_0 ?_
  refine J_iconst (0 : Int32) dX12_readOne_10 kc_0 ?_
  obtain ⟨g7, H⟩ := gd H
  obtain ⟨g8, H⟩ := gd H
  obtain ⟨h9, e10, H⟩ := lt_el H
  refine J_sI dX12_readOne_11 (kq c4 g7) (lq c5 g8) e10 ?_
  have c11 := (ekI e10).trans c4
  have c12 := (elI e10).trans c5
  have c13 := (epI e10).trans c6
  refine J_aload_n 0 dX12_readOne_12 rfl rfl ?_
  obtain ⟨h15, e14, H⟩ := bd H
  refine J_cV (as := []) 11 YX12_blanks 0 dX12_readOne_13 moX12_blanks mvX12_blanks mlX12_147 (kq c11 g1) rfl rfl (okX12_blanks (d := d + 1) e14) rfl rfl [] rfl rfl (st2 := []) rfl ?_
  refine J_aload_n 0 dX12_readOne_16 rfl rfl ?_
  obtain ⟨g16, H⟩ := gd H
  refine J_getI 11 8 dX12_readOne_17 g16 flX12_137 rfl ?_
  refine J_aload_n 0 dX12_readOne_20 rfl rfl ?_
  refine J_getI 11 7 dX12_readOne_21 g16 flX12_134 rfl ?_
  refine J_icmp_ge 42 dX12_readOne_24 rfl (fun q17 => ?_) (fun q17 => ?_)
  · replace H := br1 q17 H
    exact J_dr (kX12_readOne_42 H ) ⟨rfl, trivial⟩
  · replace H := br0 q17 H
    refine J_aload_n 0 dX12_readOne_27 rfl rfl ?_
    refine J_gP 11 5 dX12_readOne_28 g16 flX12_20 rfl rfl ?_
    refine J_aload_n 0 dX12_readOne_31 rfl rfl ?_
    refine J_getI 11 8 dX12_readOne_32 g16 flX12_137 rfl ?_
    obtain ⟨g23, H⟩ := gd H
    obtain ⟨g24, H⟩ := gd H
    refine J_iald dX12_readOne_35 g23 (inB_ok g24) ?_
    obtain ⟨t26, e25, H⟩ := bd H
    refine J_cS (as := [.int (gI h15 (gP h15 v0 5) (gI h15 v0 8).toNatClampNeg)]) YX12_isLetter 1 dX12_readOne_36 moX12_isLetter msX12_isLetter mlX12_143 (okX12_isLetter (d := d + 1) e25) rfl rfl [] rfl rfl (st2 := [.int t26]) rfl ?_
    refine J_if_ne 47 dX12_readOne_39 rfl (fun q27 => ?_) (fun q27 => ?_)
    · replace H := br0 q27 H
      refine J_aload_n 0 dX12_readOne_47 rfl rfl ?_
      refine J_iconst (0 : Int32) dX12_readOne_48 kc_0 ?_
      refine J_iconst (0 : Int32) dX12_readOne_49 kc_0 ?_
      refine J_iload_n 1 dX12_readOne_50 rfl rfl ?_
      obtain ⟨t30, h29, e28, H⟩ := b2_el H
      refine J_cV (as := [.int (0 : Int32), .int (0 : Int32), .int v1]) 11 YX12_readWord 3 dX12_readOne_51 moX12_readWord mvX12_readWord mlX12_150 g16 rfl rfl (okX12_readWord (d := d) e28) rfl rfl [] rfl rfl (st2 := [.int t30]) rfl ?_
      refine J_if_ne 59 dX12_readOne_54 rfl (fun q31 => ?_) (fun q31 => ?_)
      · replace H := br0 q31 H
        refine J_aload_n 0 dX12_readOne_59 rfl rfl ?_
        obtain ⟨g33, H⟩ := gd H
        obtain ⟨h34, e32, H⟩ := bd H
        refine J_cV (as := []) 11 YX12_blanks 0 dX12_readOne_60 moX12_blanks mvX12_blanks mlX12_147 g33 rfl rfl (okX12_blanks (d := d + 1) e32) rfl rfl [] rfl rfl (st2 := []) rfl ?_
        refine J_aload_n 0 dX12_readOne_63 rfl rfl ?_
        obtain ⟨g35, H⟩ := gd H
        refine J_getI 11 8 dX12_readOne_64 g35 flX12_137 rfl ?_
        refine J_aload_n 0 dX12_readOne_67 rfl rfl ?_
        refine J_getI 11 7 dX12_readOne_68 g35 flX12_134 rfl ?_
        refine J_icmp_ge 81 dX12_readOne_71 rfl (fun q36 => ?_) (fun q36 => ?_)
        · replace H := br1 q36 H
          refine J_iconst (1 : Int32) dX12_readOne_81 kc_1 ?_
          refine J_goto 86 dX12_readOne_82 rfl ?_
          cases H
          exact J_rZ dX12_readOne_86 rfl rfl
        · replace H := br0 q36 H
          refine J_aload_n 0 dX12_readOne_74 rfl rfl ?_
          obtain ⟨t39, h38, e37, H⟩ := b2_el H
          refine J_cV (as := []) 11 YX12_fails 0 dX12_readOne_75 moX12_fails mvX12_fails mlX12_223 g35 rfl rfl (okX12_fails (d := d + 1) e37) rfl rfl [] rfl rfl (st2 := [.int t39]) rfl ?_
          refine J_if_eq 85 dX12_readOne_78 rfl (fun q40 => ?_) (fun q40 => ?_)
          · replace H := br1 q40 H
            refine J_iconst (0 : Int32) dX12_readOne_85 kc_0 ?_
            cases H
            exact J_rZ dX12_readOne_86 rfl rfl
          · replace H := br0 q40 H
            refine J_iconst (1 : Int32) dX12_readOne_81 kc_1 ?_
            refine J_goto 86 dX12_readOne_82 rfl ?_
            cases H
            exact J_rZ dX12_readOne_86 rfl rfl
      · replace H := br1 q31 H
        refine J_iconst (0 : Int32) dX12_readOne_57 kc_0 ?_
        cases H
        exact J_rZ dX12_readOne_58 rfl rfl
    · replace H := br1 q27 H
      exact J_dr (kX12_readOne_42 H ) ⟨rfl, trivial⟩
theorem okX12_readOne {d : Nat} {h : Hp} {v0 : Nat} {v1 : Int32} {r : Int32} {h9 : Hp} (H : MX12_readOne h v0 v1 = some (r, h9)) : CT (d + 2) YX12_readOne [.ref v0, .int v1] h (oI r) h9 := CT_of (by decide +kernel) (Nat.le_of_ble_eq_true rfl) (eX12_readOne H)
noncomputable def MX12_use (h : Hp) (v0 : Nat) : Option Hp :=
  gg (β := Hp) (kd h v0 = 11) <|
  lt (α := Hp) (β := Option Hp) (sI h v0 7 (gI h v0 6)) fun (h2 : Hp) =>
  lt (α := Hp) (β := Option Hp) (sI h2 v0 6 (0 : Int32)) fun (h7 : Hp) =>
  lt (α := Hp) (β := Option Hp) (sI h7 v0 8 (0 : Int32)) fun (h12 : Hp) =>
  some h12
set_option maxRecDepth 100000 in
set_option maxHeartbeats 8000000 in
theorem eX12_use {d : Nat} {h : Hp} {v0 : Nat} {h9 : Hp} (H : MX12_use h v0 = some h9) : J (d) YX12_use 0 [.ref v0] [] h oV h9 := by
  unfold MX12_use at H
  refine J_aload_n 0 dX12_use_0 rfl rfl ?_
  refine J_aload_n 0 dX12_use_1 rfl rfl ?_
  obtain ⟨g1, H⟩ := gd H
  refine J_getI 11 6 dX12_use_2 g1 flX12_127 rfl ?_
  obtain ⟨h2, e3, H⟩ := lt_el H
  refine J_pI 11 7 dX12_use_5 g1 flX12_134 rfl rfl e3 ?_
  have c4 := ekI e3
  have c5 := elI e3
  have c6 := epI e3
  refine J_aload_n 0 dX12_use_8 rfl rfl ?_
  refine J_iconst (0 : Int32) dX12_use_9 kc_0 ?_
  obtain ⟨h7, e8, H⟩ := lt_el H
  refine J_pI 11 6 dX12_use_10 (kq c4 g1) flX12_127 rfl rfl e8 ?_
  have c9 := (ekI e8).trans c4
  have c10 := (elI e8).trans c5
  have c11 := (epI e8).trans c6
  refine J_aload_n 0 dX12_use_13 rfl rfl ?_
  refine J_iconst (0 : Int32) dX12_use_14 kc_0 ?_
  obtain ⟨h12, e13, H⟩ := lt_el H
  refine J_pI 11 8 dX12_use_15 (kq c9 g1) flX12_137 rfl rfl e13 ?_
  have c14 := (ekI e13).trans c9
  have c15 := (elI e13).trans c10
  have c16 := (epI e13).trans c11
  cases H
  exact J_ret dX12_use_18 rfl
theorem okX12_use {d : Nat} {h : Hp} {v0 : Nat} {h9 : Hp} (H : MX12_use h v0 = some h9) : CT (d) YX12_use [.ref v0] h oV h9 := CT_of (by decide +kernel) (Nat.le_of_ble_eq_true rfl) (eX12_use H)
