noncomputable def BX12_init_312 (h : Hp) (v0 : Nat) (v1 : Int32) : Option ((Int32 × Hp) ⊕ Hp) :=
  if (6 : Int32) ≤ v1 then
    some (.inr (h))
  else
    gg (β := ((Int32 × Hp) ⊕ Hp)) (kd h v0 = 11) <|
    gg (β := ((Int32 × Hp) ⊕ Hp)) (kd h (gP h v0 1) = 20) <|
    gg (β := ((Int32 × Hp) ⊕ Hp)) (inB ((327382 : Int32) + ((185 : Int32) * v1)) (ln h (gP h v0 1)) = true) <|
    lt (α := Hp) (β := Option ((Int32 × Hp) ⊕ Hp)) (sI h (gP h v0 1) ((327382 : Int32) + ((185 : Int32) * v1)).toNatClampNeg (1 : Int32)) fun (h257 : Hp) =>
    gg (β := ((Int32 × Hp) ⊕ Hp)) (inB (((327382 : Int32) + ((185 : Int32) * v1)) + (1 : Int32)) (ln h (gP h v0 1)) = true) <|
    lt (α := Hp) (β := Option ((Int32 × Hp) ⊕ Hp)) (sI h257 (gP h v0 1) (((327382 : Int32) + ((185 : Int32) * v1)) + (1 : Int32)).toNatClampNeg (20 : Int32)) fun (h263 : Hp) =>
    gg (β := ((Int32 × Hp) ⊕ Hp)) (inB (((327382 : Int32) + ((185 : Int32) * v1)) + (3 : Int32)) (ln h (gP h v0 1)) = true) <|
    lt (α := Hp) (β := Option ((Int32 × Hp) ⊕ Hp)) (sI h263 (gP h v0 1) (((327382 : Int32) + ((185 : Int32) * v1)) + (3 : Int32)).toNatClampNeg (-1 : Int32)) fun (h269 : Hp) =>
    some (.inl ((v1 + (1 : Int32)), h269))
set_option maxRecDepth 100000 in
set_option maxHeartbeats 8000000 in
theorem bX12_init_312 {d : Nat} {h : Hp} {v0 : Nat} {v1 : Int32} {h9 : Hp} {x : ((Int32 × Hp) ⊕ Hp)} (H : BX12_init_312 h v0 v1 = some x) (hb0 : ∀ s : Int32 × Hp, x = .inl s → J (d) YX12_init 312 [.ref v0, .int s.1] [] s.2 oV h9) (hx : ∀ z : Hp, x = .inr (z) → z = h9) : J (d) YX12_init 312 [.ref v0, .int v1] [] h oV h9 := by
  unfold BX12_init_312 at H
  refine J_iload_n 1 dX12_init_312 rfl rfl ?_
  refine J_bipush (6 : Int32) dX12_init_313 kb_6 ?_
  refine J_icmp_ge 371 dX12_init_315 rfl (fun q253 => ?_) (fun q253 => ?_)
  · replace H := br1 q253 H
    cases H
    cases hx _ rfl
    exact J_ret dX12_init_371 rfl
  · replace H := br0 q253 H
    refine J_aload_n 0 dX12_init_318 rfl rfl ?_
    obtain ⟨g254, H⟩ := gd H
    refine J_gP 11 1 dX12_init_319 g254 flX12_8 rfl rfl ?_
    refine J_ldc (327382 : Int32) coX12_121 dX12_init_322 ?_
    refine J_sipush (185 : Int32) dX12_init_324 ks_185 ?_
    refine J_iload_n 1 dX12_init_327 rfl rfl ?_
    refine J_imul dX12_init_328 ?_
    refine J_iadd dX12_init_329 ?_
    refine J_iconst (1 : Int32) dX12_init_330 kc_1 ?_
    obtain ⟨g255, H⟩ := gd H
    obtain ⟨g256, H⟩ := gd H
    obtain ⟨h257, e258, H⟩ := lt_el H
    refine J_sI dX12_init_331 g255 (inB_ok g256) e258 ?_
    have c259 := ekI e258
    have c260 := elI e258
    have c261 := epI e258
    refine J_aload_n 0 dX12_init_332 rfl rfl ?_
    refine J_gP 11 1 dX12_init_333 (kq c259 g254) flX12_8 rfl (congrFun (congrFun c261 v0) 1) ?_
    refine J_ldc (327382 : Int32) coX12_121 dX12_init_336 ?_
    refine J_sipush (185 : Int32) dX12_init_338 ks_185 ?_
    refine J_iload_n 1 dX12_init_341 rfl rfl ?_
    refine J_imul dX12_init_342 ?_
    refine J_iadd dX12_init_343 ?_
    refine J_iconst (1 : Int32) dX12_init_344 kc_1 ?_
    refine J_iadd dX12_init_345 ?_
    refine J_bipush (20 : Int32) dX12_init_346 kb_20 ?_
    obtain ⟨g262, H⟩ := gd H
    obtain ⟨h263, e264, H⟩ := lt_el H
    refine J_sI dX12_init_348 (kq c259 g255) (lq c260 g262) e264 ?_
    have c265 := (ekI e264).trans c259
    have c266 := (elI e264).trans c260
    have c267 := (epI e264).trans c261
    refine J_aload_n 0 dX12_init_349 rfl rfl ?_
    refine J_gP 11 1 dX12_init_350 (kq c265 g254) flX12_8 rfl (congrFun (congrFun c267 v0) 1) ?_
    refine J_ldc (327382 : Int32) coX12_121 dX12_init_353 ?_
    refine J_sipush (185 : Int32) dX12_init_355 ks_185 ?_
    refine J_iload_n 1 dX12_init_358 rfl rfl ?_
    refine J_imul dX12_init_359 ?_
    refine J_iadd dX12_init_360 ?_
    refine J_iconst (3 : Int32) dX12_init_361 kc_3 ?_
    refine J_iadd dX12_init_362 ?_
    refine J_iconst (-1 : Int32) dX12_init_363 kc_m1 ?_
    obtain ⟨g268, H⟩ := gd H
    obtain ⟨h269, e270, H⟩ := lt_el H
    refine J_sI dX12_init_364 (kq c265 g255) (lq c266 g268) e270 ?_
    have c271 := (ekI e270).trans c265
    have c272 := (elI e270).trans c266
    have c273 := (epI e270).trans c267
    refine J_iinc (v1 + (1 : Int32)) dX12_init_365 rfl (congrArg (HAdd.hAdd v1) kc_1) (by decide) (ls' := [.ref v0, .int (v1 + (1 : Int32))]) rfl ?_
    refine J_goto 312 dX12_init_368 rfl ?_
    cases H
    exact J_dr (hb0 _ rfl) ⟨rfl, ⟨rfl, trivial⟩⟩
noncomputable def MX12_init_312 (h : Hp) (v0 : Nat) (v1 : Int32) : Option Hp := it (fun q : Int32 × Hp => BX12_init_312 q.2 v0 q.1) (v1, h)
set_option maxRecDepth 100000 in
set_option maxHeartbeats 8000000 in
theorem kX12_init_312 {d : Nat} {h : Hp} {v0 : Nat} {v1 : Int32} {h9 : Hp} (H : MX12_init_312 h v0 v1 = some h9) : J (d) YX12_init 312 [.ref v0, .int v1] [] h oV h9 := by
  unfold MX12_init_312 at H
  refine it_J (G := (fun q : Int32 × Hp => J (d) YX12_init 312 [.ref v0, .int q.1] [] q.2 oV h9)) (Q := (fun y : Hp => y = h9)) (fun q x Hq hm => ?_) H rfl
  exact bX12_init_312 Hq (fun s hs => by subst hs; exact hm) (fun z hz => by subst hz; exact hm)
noncomputable def MX12_init_310 (h : Hp) (v0 : Nat) : Option Hp :=
  MX12_init_312 h v0 (0 : Int32)
set_option maxRecDepth 100000 in
set_option maxHeartbeats 8000000 in
theorem kX12_init_310 {d : Nat} {h : Hp} {v0 : Nat} {h9 : Hp} (H : MX12_init_310 h v0 = some h9) : J (d) YX12_init 310 [.ref v0, Value.null] [] h oV h9 := by
  unfold MX12_init_310 at H
  refine J_iconst (0 : Int32) dX12_init_310 kc_0 ?_
  refine J_istore_n 1 dX12_init_311 rfl (by decide) (ls' := [.ref v0, .int (0 : Int32)]) rfl ?_
  exact J_dr (kX12_init_312 H ) ⟨rfl, ⟨rfl, trivial⟩⟩
noncomputable def BX12_init_288 (h : Hp) (v0 : Nat) (v1 : Int32) : Option ((Int32 × Hp) ⊕ Hp) :=
  if (54 : Int32) ≤ v1 then
    up1 (MX12_init_310 h v0)
  else
    gg (β := ((Int32 × Hp) ⊕ Hp)) (kd h v0 = 11) <|
    gg (β := ((Int32 × Hp) ⊕ Hp)) (kd h (gP h v0 1) = 20) <|
    gg (β := ((Int32 × Hp) ⊕ Hp)) (inB ((16 : Int32) + v1) (ln h (gP h v0 1)) = true) <|
    lt (α := Hp) (β := Option ((Int32 × Hp) ⊕ Hp)) (sI h (gP h v0 1) ((16 : Int32) + v1).toNatClampNeg (4 : Int32)) fun (h277 : Hp) =>
    some (.inl ((v1 + (1 : Int32)), h277))
set_option maxRecDepth 100000 in
set_option maxHeartbeats 8000000 in
theorem bX12_init_288 {d : Nat} {h : Hp} {v0 : Nat} {v1 : Int32} {h9 : Hp} {x : ((Int32 × Hp) ⊕ Hp)} (H : BX12_init_288 h v0 v1 = some x) (hb0 : ∀ s : Int32 × Hp, x = .inl s → J (d) YX12_init 288 [.ref v0, .int s.1] [] s.2 oV h9) (hx : ∀ z : Hp, x = .inr (z) → z = h9) : J (d) YX12_init 288 [.ref v0, .int v1] [] h oV h9 := by
  unfold BX12_init_288 at H
  refine J_iload_n 1 dX12_init_288 rfl rfl ?_
  refine J_bipush (54 : Int32) dX12_init_289 kb_54 ?_
  refine J_icmp_ge 310 dX12_init_291 rfl (fun q252 => ?_) (fun q252 => ?_)
  · replace H := br1 q252 H
    obtain ⟨y0, H90, rfl⟩ := up1_el H
    replace H := H90
    obtain rfl := hx _ rfl
    exact J_dr (kX12_init_310 H ) ⟨rfl, trivial⟩
  · replace H := br0 q252 H
    refine J_aload_n 0 dX12_init_294 rfl rfl ?_
    obtain ⟨g274, H⟩ := gd H
    refine J_gP 11 1 dX12_init_295 g274 flX12_8 rfl rfl ?_
    refine J_bipush (16 : Int32) dX12_init_298 kb_16 ?_
    refine J_iload_n 1 dX12_init_300 rfl rfl ?_
    refine J_iadd dX12_init_301 ?_
    refine J_iconst (4 : Int32) dX12_init_302 kc_4 ?_
    obtain ⟨g275, H⟩ := gd H
    obtain ⟨g276, H⟩ := gd H
    obtain ⟨h277, e278, H⟩ := lt_el H
    refine J_sI dX12_init_303 g275 (inB_ok g276) e278 ?_
    have c279 := ekI e278
    have c280 := elI e278
    have c281 := epI e278
    refine J_iinc (v1 + (1 : Int32)) dX12_init_304 rfl (congrArg (HAdd.hAdd v1) kc_1) (by decide) (ls' := [.ref v0, .int (v1 + (1 : Int32))]) rfl ?_
    refine J_goto 288 dX12_init_307 rfl ?_
    cases H
    exact J_dr (hb0 _ rfl) ⟨rfl, ⟨rfl, trivial⟩⟩
noncomputable def MX12_init_288 (h : Hp) (v0 : Nat) (v1 : Int32) : Option Hp := it (fun q : Int32 × Hp => BX12_init_288 q.2 v0 q.1) (v1, h)
set_option maxRecDepth 100000 in
set_option maxHeartbeats 8000000 in
theorem kX12_init_288 {d : Nat} {h : Hp} {v0 : Nat} {v1 : Int32} {h9 : Hp} (H : MX12_init_288 h v0 v1 = some h9) : J (d) YX12_init 288 [.ref v0, .int v1] [] h oV h9 := by
  unfold MX12_init_288 at H
  refine it_J (G := (fun q : Int32 × Hp => J (d) YX12_init 288 [.ref v0, .int q.1] [] q.2 oV h9)) (Q := (fun y : Hp => y = h9)) (fun q x Hq hm => ?_) H rfl
  exact bX12_init_288 Hq (fun s hs => by subst hs; exact hm) (fun z hz => by subst hz; exact hm)
noncomputable def MX12_init (h : Hp) (v0 : Nat) : Option Hp :=
  gn (β := Hp) (v0 = 0) <|
  lt (α := Hp) (β := Option Hp) (alc h 20 (337220)) fun (h2 : Hp) =>
  gg (β := Hp) (kd h2 v0 = 11) <|
  lt (α := Hp) (β := Option Hp) (sP h2 v0 1 (sz h + 1)) fun (h5 : Hp) =>
  lt (α := Hp) (β := Option Hp) (alc h5 20 (337220)) fun (h9 : Hp) =>
  gg (β := Hp) (kd h9 v0 = 11) <|
  lt (α := Hp) (β := Option Hp) (sP h9 v0 2 (sz h5 + 1)) fun (h12 : Hp) =>
  lt (α := Hp) (β := Option Hp) (alc h12 20 (337220)) fun (h16 : Hp) =>
  gg (β := Hp) (kd h16 v0 = 11) <|
  lt (α := Hp) (β := Option Hp) (sP h16 v0 3 (sz h12 + 1)) fun (h19 : Hp) =>
  lt (α := Hp) (β := Option Hp) (alc h19 20 (400)) fun (h23 : Hp) =>
  gg (β := Hp) (kd h23 v0 = 11) <|
  lt (α := Hp) (β := Option Hp) (sP h23 v0 5 (sz h19 + 1)) fun (h26 : Hp) =>
  lt (α := Hp) (β := Option Hp) (sI h26 v0 9 (-1 : Int32)) fun (h30 : Hp) =>
  lt (α := Hp) (β := Option Hp) (alc h30 20 (200)) fun (h35 : Hp) =>
  gg (β := Hp) (kd h35 v0 = 11) <|
  lt (α := Hp) (β := Option Hp) (sP h35 v0 12 (sz h30 + 1)) fun (h38 : Hp) =>
  lt (α := Hp) (β := Option Hp) (alc h38 20 (200)) fun (h42 : Hp) =>
  gg (β := Hp) (kd h42 v0 = 11) <|
  lt (α := Hp) (β := Option Hp) (sP h42 v0 13 (sz h38 + 1)) fun (h45 : Hp) =>
  lt (α := Hp) (β := Option Hp) (alc h45 20 (2400)) fun (h49 : Hp) =>
  gg (β := Hp) (kd h49 v0 = 11) <|
  lt (α := Hp) (β := Option Hp) (sP h49 v0 14 (sz h45 + 1)) fun (h52 : Hp) =>
  lt (α := Hp) (β := Option Hp) (alc h52 20 (5)) fun (h56 : Hp) =>
  gg (β := Hp) (kd h56 v0 = 11) <|
  lt (α := Hp) (β := Option Hp) (sP h56 v0 15 (sz h52 + 1)) fun (h59 : Hp) =>
  lt (α := Hp) (β := Option Hp) (alc h59 20 (5)) fun (h63 : Hp) =>
  gg (β := Hp) (kd h63 v0 = 11) <|
  lt (α := Hp) (β := Option Hp) (sP h63 v0 16 (sz h59 + 1)) fun (h66 : Hp) =>
  lt (α := Hp) (β := Option Hp) (alc h66 20 (562)) fun (h70 : Hp) =>
  gg (β := Hp) (kd h70 v0 = 11) <|
  lt (α := Hp) (β := Option Hp) (sP h70 v0 18 (sz h66 + 1)) fun (h73 : Hp) =>
  lt (α := Hp) (β := Option Hp) (alc h73 22 (3)) fun (h77 : Hp) =>
  gg (β := Hp) (kd h77 v0 = 11) <|
  lt (α := Hp) (β := Option Hp) (sP h77 v0 21 (sz h73 + 1)) fun (h80 : Hp) =>
  lt (α := Hp) (β := Option Hp) (alc h80 20 (6)) fun (h84 : Hp) =>
  gg (β := Hp) (kd h84 v0 = 11) <|
  lt (α := Hp) (β := Option Hp) (sP h84 v0 22 (sz h80 + 1)) fun (h87 : Hp) =>
  lt (α := Hp) (β := Option Hp) (alc h87 22 (100)) fun (h91 : Hp) =>
  gg (β := Hp) (kd h91 v0 = 11) <|
  lt (α := Hp) (β := Option Hp) (sP h91 v0 23 (sz h87 + 1)) fun (h94 : Hp) =>
  lt (α := Hp) (β := Option Hp) (alc h94 20 (41)) fun (h98 : Hp) =>
  gg (β := Hp) (kd h98 v0 = 11) <|
  lt (α := Hp) (β := Option Hp) (sP h98 v0 31 (sz h94 + 1)) fun (h101 : Hp) =>
  lt (α := Hp) (β := Option Hp) (alc h101 20 (41)) fun (h105 : Hp) =>
  gg (β := Hp) (kd h105 v0 = 11) <|
  lt (α := Hp) (β := Option Hp) (sP h105 v0 32 (sz h101 + 1)) fun (h108 : Hp) =>
  lt (α := Hp) (β := Option Hp) (alc h108 20 (41)) fun (h112 : Hp) =>
  gg (β := Hp) (kd h112 v0 = 11) <|
  lt (α := Hp) (β := Option Hp) (sP h112 v0 33 (sz h108 + 1)) fun (h115 : Hp) =>
  lt (α := Hp) (β := Option Hp) (alc h115 20 (430)) fun (h119 : Hp) =>
  gg (β := Hp) (kd h119 v0 = 11) <|
  lt (α := Hp) (β := Option Hp) (sP h119 v0 34 (sz h115 + 1)) fun (h122 : Hp) =>
  lt (α := Hp) (β := Option Hp) (alc h122 20 (27)) fun (h126 : Hp) =>
  gg (β := Hp) (kd h126 v0 = 11) <|
  lt (α := Hp) (β := Option Hp) (sP h126 v0 36 (sz h122 + 1)) fun (h129 : Hp) =>
  lt (α := Hp) (β := Option Hp) (alc h129 22 (41)) fun (h133 : Hp) =>
  gg (β := Hp) (kd h133 v0 = 11) <|
  lt (α := Hp) (β := Option Hp) (sP h133 v0 37 (sz h129 + 1)) fun (h136 : Hp) =>
  lt (α := Hp) (β := Option Hp) (alc h136 20 (17200)) fun (h140 : Hp) =>
  gg (β := Hp) (kd h140 v0 = 11) <|
  lt (α := Hp) (β := Option Hp) (sP h140 v0 38 (sz h136 + 1)) fun (h143 : Hp) =>
  lt (α := Hp) (β := Option Hp) (alc h143 20 (40)) fun (h147 : Hp) =>
  gg (β := Hp) (kd h147 v0 = 11) <|
  lt (α := Hp) (β := Option Hp) (sP h147 v0 39 (sz h143 + 1)) fun (h150 : Hp) =>
  lt (α := Hp) (β := Option Hp) (alc h150 20 (40)) fun (h154 : Hp) =>
  gg (β := Hp) (kd h154 v0 = 11) <|
  lt (α := Hp) (β := Option Hp) (sP h154 v0 40 (sz h150 + 1)) fun (h157 : Hp) =>
  lt (α := Hp) (β := Option Hp) (alc h157 20 (645)) fun (h161 : Hp) =>
  gg (β := Hp) (kd h161 v0 = 11) <|
  lt (α := Hp) (β := Option Hp) (sP h161 v0 41 (sz h157 + 1)) fun (h164 : Hp) =>
  lt (α := Hp) (β := Option Hp) (alc h164 20 (40)) fun (h168 : Hp) =>
  gg (β := Hp) (kd h168 v0 = 11) <|
  lt (α := Hp) (β := Option Hp) (sP h168 v0 42 (sz h164 + 1)) fun (h171 : Hp) =>
  lt (α := Hp) (β := Option Hp) (alc h171 20 (40)) fun (h175 : Hp) =>
  gg (β := Hp) (kd h175 v0 = 11) <|
  lt (α := Hp) (β := Option Hp) (sP h175 v0 43 (sz h171 + 1)) fun (h178 : Hp) =>
  lt (α := Hp) (β := Option Hp) (alc h178 20 (480)) fun (h182 : Hp) =>
  gg (β := Hp) (kd h182 v0 = 11) <|
  lt (α := Hp) (β := Option Hp) (sP h182 v0 44 (sz h178 + 1)) fun (h185 : Hp) =>
  lt (α := Hp) (β := Option Hp) (alc h185 20 (4)) fun (h189 : Hp) =>
  gg (β := Hp) (kd h189 v0 = 11) <|
  lt (α := Hp) (β := Option Hp) (sP h189 v0 45 (sz h185 + 1)) fun (h192 : Hp) =>
  lt (α := Hp) (β := Option Hp) (alc h192 20 (4)) fun (h196 : Hp) =>
  gg (β := Hp) (kd h196 v0 = 11) <|
  lt (α := Hp) (β := Option Hp) (sP h196 v0 46 (sz h192 + 1)) fun (h199 : Hp) =>
  lt (α := Hp) (β := Option Hp) (alc h199 20 (4)) fun (h203 : Hp) =>
  gg (β := Hp) (kd h203 v0 = 11) <|
  lt (α := Hp) (β := Option Hp) (sP h203 v0 47 (sz h199 + 1)) fun (h206 : Hp) =>
  lt (α := Hp) (β := Option Hp) (alc h206 20 (4)) fun (h210 : Hp) =>
  gg (β := Hp) (kd h210 v0 = 11) <|
  lt (α := Hp) (β := Option Hp) (sP h210 v0 48 (sz h206 + 1)) fun (h213 : Hp) =>
  lt (α := Hp) (β := Option Hp) (alc h213 20 (4)) fun (h217 : Hp) =>
  gg (β := Hp) (kd h217 v0 = 11) <|
  lt (α := Hp) (β := Option Hp) (sP h217 v0 49 (sz h213 + 1)) fun (h220 : Hp) =>
  lt (α := Hp) (β := Option Hp) (alc h220 20 (3)) fun (h224 : Hp) =>
  gg (β := Hp) (kd h224 v0 = 11) <|
  lt (α := Hp) (β := Option Hp) (sP h224 v0 50 (sz h220 + 1)) fun (h227 : Hp) =>
  lt (α := Hp) (β := Option Hp) (alc h227 20 (5)) fun (h231 : Hp) =>
  gg (β := Hp) (kd h231 v0 = 11) <|
  lt (α := Hp) (β := Option Hp) (sP h231 v0 53 (sz h227 + 1)) fun (h234 : Hp) =>
  lt (α := Hp) (β := Option Hp) (alc h234 20 (5)) fun (h238 : Hp) =>
  gg (β := Hp) (kd h238 v0 = 11) <|
  lt (α := Hp) (β := Option Hp) (sP h238 v0 54 (sz h234 + 1)) fun (h241 : Hp) =>
  lt (α := Hp) (β := Option Hp) (alc h241 20 (4)) fun (h245 : Hp) =>
  gg (β := Hp) (kd h245 v0 = 11) <|
  lt (α := Hp) (β := Option Hp) (sP h245 v0 55 (sz h241 + 1)) fun (h248 : Hp) =>
  MX12_init_288 h248 v0 (0 : Int32)
set_option maxRecDepth 100000 in
set_option maxHeartbeats 8000000 in
theorem eX12_init {d : Nat} {h : Hp} {v0 : Nat} {h9 : Hp} (H : MX12_init h v0 = some h9) : J (d) YX12_init 0 [.ref v0, Value.null] [] h oV h9 := by
  unfold MX12_init at H
  refine J_aload_n 0 dX12_init_0 rfl rfl ?_
  obtain ⟨g1, H⟩ := gdn H
  refine J_objI dX12_init_1 mlX12_1 ob_i ob_c g1 (Nat.le_of_ble_eq_true rfl) ?_
  refine J_aload_n 0 dX12_init_4 rfl rfl ?_
  refine J_ldc (337220 : Int32) coX12_7 dX12_init_5 ?_
  obtain ⟨h2, e3, H⟩ := lt_el H
  refine J_nI (337220) dX12_init_7 (by decide) (by decide) (by decide) e3 ?_
  obtain ⟨g4, H⟩ := gd H
  obtain ⟨h5, e6, H⟩ := lt_el H
  refine J_pF 11 1 dX12_init_9 g4 flX12_8 rfl rfl rfl rfl e6 ?_
  have c7 := ekP e6
  have c8 := elP e6
  refine J_aload_n 0 dX12_init_12 rfl rfl ?_
  refine J_ldc (337220 : Int32) coX12_7 dX12_init_13 ?_
  obtain ⟨h9, e10, H⟩ := lt_el H
  refine J_nI (337220) dX12_init_15 (by decide) (by decide) (by decide) e10 ?_
  obtain ⟨g11, H⟩ := gd H
  obtain ⟨h12, e13, H⟩ := lt_el H
  refine J_pF 11 2 dX12_init_17 g11 flX12_14 rfl rfl rfl rfl e13 ?_
  have c14 := ekP e13
  have c15 := elP e13
  refine J_aload_n 0 dX12_init_20 rfl rfl ?_
  refine J_ldc (337220 : Int32) coX12_7 dX12_init_21 ?_
  obtain ⟨h16, e17, H⟩ := lt_el H
  refine J_nI (337220) dX12_init_23 (by decide) (by decide) (by decide) e17 ?_
  obtain ⟨g18, H⟩ := gd H
  obtain ⟨h19, e20, H⟩ := lt_el H
  refine J_pF 11 3 dX12_init_25 g18 flX12_17 rfl rfl rfl rfl e20 ?_
  have c21 := ekP e20
  have c22 := elP e20
  refine J_aload_n 0 dX12_init_28 rfl rfl ?_
  refine J_sipush (400 : Int32) dX12_init_29 ks_400 ?_
  obtain ⟨h23, e24, H⟩ := lt_el H
  refine J_nI (400) dX12_init_32 (by decide) (by decide) (by decide) e24 ?_
  obtain ⟨g25, H⟩ := gd H
  obtain ⟨h26, e27, H⟩ := lt_el H
  refine J_pF 11 5 dX12_init_34 g25 flX12_20 rfl rfl rfl rfl e27 ?_
  have c28 := ekP e27
  have c29 := elP e27
  refine J_aload_n 0 dX12_init_37 rfl rfl ?_
  refine J_iconst (-1 : Int32) dX12_init_38 kc_m1 ?_
  obtain ⟨h30, e31, H⟩ := lt_el H
  refine J_pI 11 9 dX12_init_39 (kq c28 g25) flX12_23 rfl rfl e31 ?_
  have c32 := (ekI e31).trans c28
  have c33 := (elI e31).trans c29
  have c34 := epI e31
  refine J_aload_n 0 dX12_init_42 rfl rfl ?_
  refine J_sipush (200 : Int32) dX12_init_43 ks_200 ?_
  obtain ⟨h35, e36, H⟩ := lt_el H
  refine J_nI (200) dX12_init_46 (by decide) (by decide) (by decide) e36 ?_
  obtain ⟨g37, H⟩ := gd H
  obtain ⟨h38, e39, H⟩ := lt_el H
  refine J_pF 11 12 dX12_init_48 g37 flX12_27 rfl rfl rfl rfl e39 ?_
  have c40 := ekP e39
  have c41 := elP e39
  refine J_aload_n 0 dX12_init_51 rfl rfl ?_
  refine J_sipush (200 : Int32) dX12_init_52 ks_200 ?_
  obtain ⟨h42, e43, H⟩ := lt_el H
  refine J_nI (200) dX12_init_55 (by decide) (by decide) (by decide) e43 ?_
  obtain ⟨g44, H⟩ := gd H
  obtain ⟨h45, e46, H⟩ := lt_el H
  refine J_pF 11 13 dX12_init_57 g44 flX12_30 rfl rfl rfl rfl e46 ?_
  have c47 := ekP e46
  have c48 := elP e46
  refine J_aload_n 0 dX12_init_60 rfl rfl ?_
  refine J_sipush (2400 : Int32) dX12_init_61 ks_2400 ?_
  obtain ⟨h49, e50, H⟩ := lt_el H
  refine J_nI (2400) dX12_init_64 (by decide) (by decide) (by decide) e50 ?_
  obtain ⟨g51, H⟩ := gd H
  obtain ⟨h52, e53, H⟩ := lt_el H
  refine J_pF 11 14 dX12_init_66 g51 flX12_33 rfl rfl rfl rfl e53 ?_
  have c54 := ekP e53
  have c55 := elP e53
  refine J_aload_n 0 dX12_init_69 rfl rfl ?_
  refine J_iconst (5 : Int32) dX12_init_70 kc_5 ?_
  obtain ⟨h56, e57, H⟩ := lt_el H
  refine J_nI (5) dX12_init_71 (by decide) (by decide) (by decide) e57 ?_
  obtain ⟨g58, H⟩ := gd H
  obtain ⟨h59, e60, H⟩ := lt_el H
  refine J_pF 11 15 dX12_init_73 g58 flX12_36 rfl rfl rfl rfl e60 ?_
  have c61 := ekP e60
  have c62 := elP e60
  refine J_aload_n 0 dX12_init_76 rfl rfl ?_
  refine J_iconst (5 : Int32) dX12_init_77 kc_5 ?_
  obtain ⟨h63, e64, H⟩ := lt_el H
  refine J_nI (5) dX12_init_78 (by decide) (by decide) (by decide) e64 ?_
  obtain ⟨g65, H⟩ := gd H
  obtain ⟨h66, e67, H⟩ := lt_el H
  refine J_pF 11 16 dX12_init_80 g65 flX12_39 rfl rfl rfl rfl e67 ?_
  have c68 := ekP e67
  have c69 := elP e67
  refine J_aload_n 0 dX12_init_83 rfl rfl ?_
  refine J_sipush (562 : Int32) dX12_init_84 ks_562 ?_
  obtain ⟨h70, e71, H⟩ := lt_el H
  refine J_nI (562) dX12_init_87 (by decide) (by decide) (by decide) e71 ?_
  obtain ⟨g72, H⟩ := gd H
  obtain ⟨h73, e74, H⟩ := lt_el H
  refine J_pF 11 18 dX12_init_89 g72 flX12_42 rfl rfl rfl rfl e74 ?_
  have c75 := ekP e74
  have c76 := elP e74
  refine J_aload_n 0 dX12_init_92 rfl rfl ?_
  refine J_iconst (3 : Int32) dX12_init_93 kc_3 ?_
  obtain ⟨h77, e78, H⟩ := lt_el H
  refine J_nZ (3) dX12_init_94 (by decide) (by decide) (by decide) e78 ?_
  obtain ⟨g79, H⟩ := gd H
  obtain ⟨h80, e81, H⟩ := lt_el H
  refine J_pF 11 21 dX12_init_96 g79 flX12_45 rfl rfl rfl rfl e81 ?_
  have c82 := ekP e81
  have c83 := elP e81
  refine J_aload_n 0 dX12_init_99 rfl rfl ?_
  refine J_bipush (6 : Int32) dX12_init_100 kb_6 ?_
  obtain ⟨h84, e85, H⟩ := lt_el H
  refine J_nI (6) dX12_init_102 (by decide) (by decide) (by decide) e85 ?_
  obtain ⟨g86, H⟩ := gd H
  obtain ⟨h87, e88, H⟩ := lt_el H
  refine J_pF 11 22 dX12_init_104 g86 flX12_49 rfl rfl rfl rfl e88 ?_
  have c89 := ekP e88
  have c90 := elP e88
  refine J_aload_n 0 dX12_init_107 rfl rfl ?_
  refine J_bipush (100 : Int32) dX12_init_108 kb_100 ?_
  obtain ⟨h91, e92, H⟩ := lt_el H
  refine J_nZ (100) dX12_init_110 (by decide) (by decide) (by decide) e92 ?_
  obtain ⟨g93, H⟩ := gd H
  obtain ⟨h94, e95, H⟩ := lt_el H
  refine J_pF 11 23 dX12_init_112 g93 flX12_52 rfl rfl rfl rfl e95 ?_
  have c96 := ekP e95
  have c97 := elP e95
  refine J_aload_n 0 dX12_init_115 rfl rfl ?_
  refine J_bipush (41 : Int32) dX12_init_116 kb_41 ?_
  obtain ⟨h98, e99, H⟩ := lt_el H
  refine J_nI (41) dX12_init_118 (by decide) (by decide) (by decide) e99 ?_
  obtain ⟨g100, H⟩ := gd H
  obtain ⟨h101, e102, H⟩ := lt_el H
  refine J_pF 11 31 dX12_init_120 g100 flX12_55 rfl rfl rfl rfl e102 ?_
  have c103 := ekP e102
  have c104 := elP e102
  refine J_aload_n 0 dX12_init_123 rfl rfl ?_
  refine J_bipush (41 : Int32) dX12_init_124 kb_41 ?_
  obtain ⟨h105, e106, H⟩ := lt_el H
  refine J_nI (41) dX12_init_126 (by decide) (by decide) (by decide) e106 ?_
  obtain ⟨g107, H⟩ := gd H
  obtain ⟨h108, e109, H⟩ := lt_el H
  refine J_pF 11 32 dX12_init_128 g107 flX12_58 rfl rfl rfl rfl e109 ?_
  have c110 := ekP e109
  have c111 := elP e109
  refine J_aload_n 0 dX12_init_131 rfl rfl ?_
  refine J_bipush (41 : Int32) dX12_init_132 kb_41 ?_
  obtain ⟨h112, e113, H⟩ := lt_el H
  refine J_nI (41) dX12_init_134 (by decide) (by decide) (by decide) e113 ?_
  obtain ⟨g114, H⟩ := gd H
  obtain ⟨h115, e116, H⟩ := lt_el H
  refine J_pF 11 33 dX12_init_136 g114 flX12_61 rfl rfl rfl rfl e116 ?_
  have c117 := ekP e116
  have c118 := elP e116
  refine J_aload_n 0 dX12_init_139 rfl rfl ?_
  refine J_sipush (430 : Int32) dX12_init_140 ks_430 ?_
  obtain ⟨h119, e120, H⟩ := lt_el H
  refine J_nI (430) dX12_init_143 (by decide) (by decide) (by decide) e120 ?_
  obtain ⟨g121, H⟩ := gd H
  obtain ⟨h122, e123, H⟩ := lt_el H
  refine J_pF 11 34 dX12_init_145 g121 flX12_64 rfl rfl rfl rfl e123 ?_
  have c124 := ekP e123
  have c125 := elP e123
  refine J_aload_n 0 dX12_init_148 rfl rfl ?_
  refine J_bipush (27 : Int32) dX12_init_149 kb_27 ?_
  obtain ⟨h126, e127, H⟩ := lt_el H
  refine J_nI (27) dX12_init_151 (by decide) (by decide) (by decide) e127 ?_
  obtain ⟨g128, H⟩ := gd H
  obtain ⟨h129, e130, H⟩ := lt_el H
  refine J_pF 11 36 dX12_init_153 g128 flX12_67 rfl rfl rfl rfl e130 ?_
  have c131 := ekP e130
  have c132 := elP e130
  refine J_aload_n 0 dX12_init_156 rfl rfl ?_
  refine J_bipush (41 : Int32) dX12_init_157 kb_41 ?_
  obtain ⟨h133, e134, H⟩ := lt_el H
  refine J_nZ (41) dX12_init_159 (by decide) (by decide) (by decide) e134 ?_
  obtain ⟨g135, H⟩ := gd H
  obtain ⟨h136, e137, H⟩ := lt_el H
  refine J_pF 11 37 dX12_init_161 g135 flX12_70 rfl rfl rfl rfl e137 ?_
  have c138 := ekP e137
  have c139 := elP e137
  refine J_aload_n 0 dX12_init_164 rfl rfl ?_
  refine J_sipush (17200 : Int32) dX12_init_165 ks_17200 ?_
  obtain ⟨h140, e141, H⟩ := lt_el H
  refine J_nI (17200) dX12_init_168 (by decide) (by decide) (by decide) e141 ?_
  obtain ⟨g142, H⟩ := gd H
  obtain ⟨h143, e144, H⟩ := lt_el H
  refine J_pF 11 38 dX12_init_170 g142 flX12_73 rfl rfl rfl rfl e144 ?_
  have c145 := ekP e144
  have c146 := elP e144
  refine J_aload_n 0 dX12_init_173 rfl rfl ?_
  refine J_bipush (40 : Int32) dX12_init_174 kb_40 ?_
  obtain ⟨h147, e148, H⟩ := lt_el H
  refine J_nI (40) dX12_init_176 (by decide) (by decide) (by decide) e148 ?_
  obtain ⟨g149, H⟩ := gd H
  obtain ⟨h150, e151, H⟩ := lt_el H
  refine J_pF 11 39 dX12_init_178 g149 flX12_76 rfl rfl rfl rfl e151 ?_
  have c152 := ekP e151
  have c153 := elP e151
  refine J_aload_n 0 dX12_init_181 rfl rfl ?_
  refine J_bipush (40 : Int32) dX12_init_182 kb_40 ?_
  obtain ⟨h154, e155, H⟩ := lt_el H
  refine J_nI (40) dX12_init_184 (by decide) (by decide) (by decide) e155 ?_
  obtain ⟨g156, H⟩ := gd H
  obtain ⟨h157, e158, H⟩ := lt_el H
  refine J_pF 11 40 dX12_init_186 g156 flX12_79 rfl rfl rfl rfl e158 ?_
  have c159 := ekP e158
  have c160 := elP e158
  refine J_aload_n 0 dX12_init_189 rfl rfl ?_
  refine J_sipush (645 : Int32) dX12_init_190 ks_645 ?_
  obtain ⟨h161, e162, H⟩ := lt_el H
  refine J_nI (645) dX12_init_193 (by decide) (by decide) (by decide) e162 ?_
  obtain ⟨g163, H⟩ := gd H
  obtain ⟨h164, e165, H⟩ := lt_el H
  refine J_pF 11 41 dX12_init_195 g163 flX12_82 rfl rfl rfl rfl e165 ?_
  have c166 := ekP e165
  have c167 := elP e165
  refine J_aload_n 0 dX12_init_198 rfl rfl ?_
  refine J_bipush (40 : Int32) dX12_init_199 kb_40 ?_
  obtain ⟨h168, e169, H⟩ := lt_el H
  refine J_nI (40) dX12_init_201 (by decide) (by decide) (by decide) e169 ?_
  obtain ⟨g170, H⟩ := gd H
  obtain ⟨h171, e172, H⟩ := lt_el H
  refine J_pF 11 42 dX12_init_203 g170 flX12_85 rfl rfl rfl rfl e172 ?_
  have c173 := ekP e172
  have c174 := elP e172
  refine J_aload_n 0 dX12_init_206 rfl rfl ?_
  refine J_bipush (40 : Int32) dX12_init_207 kb_40 ?_
  obtain ⟨h175, e176, H⟩ := lt_el H
  refine J_nI (40) dX12_init_209 (by decide) (by decide) (by decide) e176 ?_
  obtain ⟨g177, H⟩ := gd H
  obtain ⟨h178, e179, H⟩ := lt_el H
  refine J_pF 11 43 dX12_init_211 g177 flX12_88 rfl rfl rfl rfl e179 ?_
  have c180 := ekP e179
  have c181 := elP e179
  refine J_aload_n 0 dX12_init_214 rfl rfl ?_
  refine J_sipush (480 : Int32) dX12_init_215 ks_480 ?_
  obtain ⟨h182, e183, H⟩ := lt_el H
  refine J_nI (480) dX12_init_218 (by decide) (by decide) (by decide) e183 ?_
  obtain ⟨g184, H⟩ := gd H
  obtain ⟨h185, e186, H⟩ := lt_el H
  refine J_pF 11 44 dX12_init_220 g184 flX12_91 rfl rfl rfl rfl e186 ?_
  have c187 := ekP e186
  have c188 := elP e186
  refine J_aload_n 0 dX12_init_223 rfl rfl ?_
  refine J_iconst (4 : Int32) dX12_init_224 kc_4 ?_
  obtain ⟨h189, e190, H⟩ := lt_el H
  refine J_nI (4) dX12_init_225 (by decide) (by decide) (by decide) e190 ?_
  obtain ⟨g191, H⟩ := gd H
  obtain ⟨h192, e193, H⟩ := lt_el H
  refine J_pF 11 45 dX12_init_227 g191 flX12_94 rfl rfl rfl rfl e193 ?_
  have c194 := ekP e193
  have c195 := elP e193
  refine J_aload_n 0 dX12_init_230 rfl rfl ?_
  refine J_iconst (4 : Int32) dX12_init_231 kc_4 ?_
  obtain ⟨h196, e197, H⟩ := lt_el H
  refine J_nI (4) dX12_init_232 (by decide) (by decide) (by decide) e197 ?_
  obtain ⟨g198, H⟩ := gd H
  obtain ⟨h199, e200, H⟩ := lt_el H
  refine J_pF 11 46 dX12_init_234 g198 flX12_97 rfl rfl rfl rfl e200 ?_
  have c201 := ekP e200
  have c202 := elP e200
  refine J_aload_n 0 dX12_init_237 rfl rfl ?_
  refine J_iconst (4 : Int32) dX12_init_238 kc_4 ?_
  obtain ⟨h203, e204, H⟩ := lt_el H
  refine J_nI (4) dX12_init_239 (by decide) (by decide) (by decide) e204 ?_
  obtain ⟨g205, H⟩ := gd H
  obtain ⟨h206, e207, H⟩ := lt_el H
  refine J_pF 11 47 dX12_init_241 g205 flX12_100 rfl rfl rfl rfl e207 ?_
  have c208 := ekP e207
  have c209 := elP e207
  refine J_aload_n 0 dX12_init_244 rfl rfl ?_
  refine J_iconst (4 : Int32) dX12_init_245 kc_4 ?_
  obtain ⟨h210, e211, H⟩ := lt_el H
  refine J_nI (4) dX12_init_246 (by decide) (by decide) (by decide) e211 ?_
  obtain ⟨g212, H⟩ := gd H
  obtain ⟨h213, e214, H⟩ := lt_el H
  refine J_pF 11 48 dX12_init_248 g212 flX12_103 rfl rfl rfl rfl e214 ?_
  have c215 := ekP e214
  have c216 := elP e214
  refine J_aload_n 0 dX12_init_251 rfl rfl ?_
  refine J_iconst (4 : Int32) dX12_init_252 kc_4 ?_
  obtain ⟨h217, e218, H⟩ := lt_el H
  refine J_nI (4) dX12_init_253 (by decide) (by decide) (by decide) e218 ?_
  obtain ⟨g219, H⟩ := gd H
  obtain ⟨h220, e221, H⟩ := lt_el H
  refine J_pF 11 49 dX12_init_255 g219 flX12_106 rfl rfl rfl rfl e221 ?_
  have c222 := ekP e221
  have c223 := elP e221
  refine J_aload_n 0 dX12_init_258 rfl rfl ?_
  refine J_iconst (3 : Int32) dX12_init_259 kc_3 ?_
  obtain ⟨h224, e225, H⟩ := lt_el H
  refine J_nI (3) dX12_init_260 (by decide) (by decide) (by decide) e225 ?_
  obtain ⟨g226, H⟩ := gd H
  obtain ⟨h227, e228, H⟩ := lt_el H
  refine J_pF 11 50 dX12_init_262 g226 flX12_109 rfl rfl rfl rfl e228 ?_
  have c229 := ekP e228
  have c230 := elP e228
  refine J_aload_n 0 dX12_init_265 rfl rfl ?_
  refine J_iconst (5 : Int32) dX12_init_266 kc_5 ?_
  obtain ⟨h231, e232, H⟩ := lt_el H
  refine J_nI (5) dX12_init_267 (by decide) (by decide) (by decide) e232 ?_
  obtain ⟨g233, H⟩ := gd H
  obtain ⟨h234, e235, H⟩ := lt_el H
  refine J_pF 11 53 dX12_init_269 g233 flX12_112 rfl rfl rfl rfl e235 ?_
  have c236 := ekP e235
  have c237 := elP e235
  refine J_aload_n 0 dX12_init_272 rfl rfl ?_
  refine J_iconst (5 : Int32) dX12_init_273 kc_5 ?_
  obtain ⟨h238, e239, H⟩ := lt_el H
  refine J_nI (5) dX12_init_274 (by decide) (by decide) (by decide) e239 ?_
  obtain ⟨g240, H⟩ := gd H
  obtain ⟨h241, e242, H⟩ := lt_el H
  refine J_pF 11 54 dX12_init_276 g240 flX12_115 rfl rfl rfl rfl e242 ?_
  have c243 := ekP e242
  have c244 := elP e242
  refine J_aload_n 0 dX12_init_279 rfl rfl ?_
  refine J_iconst (4 : Int32) dX12_init_280 kc_4 ?_
  obtain ⟨h245, e246, H⟩ := lt_el H
  refine J_nI (4) dX12_init_281 (by decide) (by decide) (by decide) e246 ?_
  obtain ⟨g247, H⟩ := gd H
  obtain ⟨h248, e249, H⟩ := lt_el H
  refine J_pF 11 55 dX12_init_283 g247 flX12_118 rfl rfl rfl rfl e249 ?_
  have c250 := ekP e249
  have c251 := elP e249
  refine J_iconst (0 : Int32) dX12_init_286 kc_0 ?_
  refine J_istore_n 1 dX12_init_287 rfl (by decide) (ls' := [.ref v0, .int (0 : Int32)]) rfl ?_
  exact J_dr (kX12_init_288 H ) ⟨rfl, ⟨rfl, trivial⟩⟩
theorem okX12_init {d : Nat} {h : Hp} {v0 : Nat} {h9 : Hp} (H : MX12_init h v0 = some h9) : CT (d) YX12_init [.ref v0] h oV h9 := CT_of (by decide +kernel) (Nat.le_of_ble_eq_true rfl) (eX12_init H)
noncomputable def MX12_act (h : Hp) (v0 : Nat) (v1 : Int32) : Option Hp :=
  gg (β := Hp) (kd h v0 = 11) <|
  gg (β := Hp) (kd h (gP h v0 18) = 20) <|
  gg (β := Hp) (inB (gI h v0 20) (ln h (gP h v0 18)) = true) <|
  lt (α := Hp) (β := Option Hp) (sI h (gP h v0 18) (gI h v0 20).toNatClampNeg v1) fun (h4 : Hp) =>
  lt (α := Hp) (β := Option Hp) (sI h4 v0 20 ((gI h4 v0 20) + (1 : Int32))) fun (h9 : Hp) =>
  some h9
set_option maxRecDepth 100000 in
set_option maxHeartbeats 8000000 in
theorem eX12_act {d : Nat} {h : Hp} {v0 : Nat} {v1 : Int32} {h9 : Hp} (H : MX12_act h v0 v1 = some h9) : J (d) YX12_act 0 [.ref v0, .int v1] [] h oV h9 := by
  unfold MX12_act at H
  refine J_aload_n 0 dX12_act_0 rfl rfl ?_
  obtain ⟨g1, H⟩ := gd H
  refine J_gP 11 18 dX12_act_1 g1 flX12_42 rfl rfl ?_
  refine J_aload_n 0 dX12_act_4 rfl rfl ?_
  refine J_getI 11 20 dX12_act_5 g1 flX12_184 rfl ?_
  refine J_iload_n 1 dX12_act_8 rfl rfl ?_
  obtain ⟨g2, H⟩ := gd H
  obtain ⟨g3, H⟩ := gd H
  obtain ⟨h4, e5, H⟩ := lt_el H
  refine J_sI dX12_act_9 g2 (inB_ok g3) e5 ?_
  have c6 := ekI e5
  have c7 := elI e5
  have c8 := epI e5
  refine J_aload_n 0 dX12_act_10 rfl rfl ?_
  refine J_dup dX12_act_11 rfl ?_
  refine J_getI 11 20 dX12_act_12 (kq c6 g1) flX12_184 rfl ?_
  refine J_iconst (1 : Int32) dX12_act_15 kc_1 ?_
  refine J_iadd dX12_act_16 ?_
  obtain ⟨h9, e10, H⟩ := lt_el H
  refine J_pI 11 20 dX12_act_17 (kq c6 g1) flX12_184 rfl rfl e10 ?_
  have c11 := (ekI e10).trans c6
  have c12 := (elI e10).trans c7
  have c13 := (epI e10).trans c8
  cases H
  exact J_ret dX12_act_20 rfl
theorem okX12_act {d : Nat} {h : Hp} {v0 : Nat} {v1 : Int32} {h9 : Hp} (H : MX12_act h v0 v1 = some h9) : CT (d) YX12_act [.ref v0, .int v1] h oV h9 := CT_of (by decide +kernel) (Nat.le_of_ble_eq_true rfl) (eX12_act H)
noncomputable def MX12_isMachine (h : Hp) (v0 : Nat) (v1 : Int32) : Option Int32 :=
  if v1 < 0 then
    some (0 : Int32)
  else
    gg (β := Int32) (kd h v0 = 11) <|
    gg (β := Int32) (kd h (gP h v0 1) = 20) <|
    gg (β := Int32) (inB (3 : Int32) (ln h (gP h v0 1)) = true) <|
    if (gI h (gP h v0 1) (3 : Int32).toNatClampNeg) ≤ v1 then
      some (0 : Int32)
    else
      some (1 : Int32)
set_option maxRecDepth 100000 in
set_option maxHeartbeats 8000000 in
theorem eX12_isMachine {d : Nat} {h : Hp} {v0 : Nat} {v1 : Int32} {r : Int32} (H : MX12_isMachine h v0 v1 = some r) : J (d) YX12_isMachine 0 [.ref v0, .int v1] [] h (oI r) h := by
  unfold MX12_isMachine at H
  refine J_iload_n 1 dX12_isMachine_0 rfl rfl ?_
  refine J_if_lt 18 dX12_isMachine_1 rfl (fun q1 => ?_) (fun q1 => ?_)
  · replace H := br1 q1 H
    refine J_iconst (0 : Int32) dX12_isMachine_18 kc_0 ?_
    cases H
    exact J_rZ dX12_isMachine_19 rfl rfl
  · replace H := br0 q1 H
    refine J_iload_n 1 dX12_isMachine_4 rfl rfl ?_
    refine J_aload_n 0 dX12_isMachine_5 rfl rfl ?_
    obtain ⟨g2, H⟩ := gd H
    refine J_gP 11 1 dX12_isMachine_6 g2 flX12_8 rfl rfl ?_
    refine J_iconst (3 : Int32) dX12_isMachine_9 kc_3 ?_
    obtain ⟨g3, H⟩ := gd H
    obtain ⟨g4, H⟩ := gd H
    refine J_iald dX12_isMachine_10 g3 (inB_ok g4) ?_
    refine J_icmp_ge 18 dX12_isMachine_11 rfl (fun q5 => ?_) (fun q5 => ?_)
    · replace H := br1 q5 H
      refine J_iconst (0 : Int32) dX12_isMachine_18 kc_0 ?_
      cases H
      exact J_rZ dX12_isMachine_19 rfl rfl
    · replace H := br0 q5 H
      refine J_iconst (1 : Int32) dX12_isMachine_14 kc_1 ?_
      refine J_goto 19 dX12_isMachine_15 rfl ?_
      cases H
      exact J_rZ dX12_isMachine_19 rfl rfl
theorem okX12_isMachine {d : Nat} {h : Hp} {v0 : Nat} {v1 : Int32} {r : Int32} (H : MX12_isMachine h v0 v1 = some r) : CT (d) YX12_isMachine [.ref v0, .int v1] h (oI r) h := CT_of (by decide +kernel) (Nat.le_of_ble_eq_true rfl) (eX12_isMachine H)
noncomputable def MX12_isPart (h : Hp) (v0 : Nat) (v1 : Int32) : Option Int32 :=
  if v1 < 0 then
    some (0 : Int32)
  else
    gg (β := Int32) (kd h v0 = 11) <|
    gg (β := Int32) (kd h (gP h v0 1) = 20) <|
    gg (β := Int32) (inB (1 : Int32) (ln h (gP h v0 1)) = true) <|
    if (gI h (gP h v0 1) (1 : Int32).toNatClampNeg) ≤ (v1 / (5 : Int32)) then
      some (0 : Int32)
    else
      gg (β := Int32) (inB ((110 : Int32) + (v1 / (5 : Int32))) (ln h (gP h v0 1)) = true) <|
      if (gI h (gP h v0 1) ((110 : Int32) + (v1 / (5 : Int32))).toNatClampNeg) ≤ (v1 - v1 / (5 : Int32) * (5 : Int32)) then
        some (0 : Int32)
      else
        some (1 : Int32)
set_option maxRecDepth 100000 in
set_option maxHeartbeats 8000000 in
theorem eX12_isPart {d : Nat} {h : Hp} {v0 : Nat} {v1 : Int32} {r : Int32} (H : MX12_isPart h v0 v1 = some r) : J (d) YX12_isPart 0 [.ref v0, .int v1] [] h (oI r) h := by
  unfold MX12_isPart at H
  refine J_iload_n 1 dX12_isPart_0 rfl rfl ?_
  refine J_if_lt 37 dX12_isPart_1 rfl (fun q1 => ?_) (fun q1 => ?_)
  · replace H := br1 q1 H
    refine J_iconst (0 : Int32) dX12_isPart_37 kc_0 ?_
    cases H
    exact J_rZ dX12_isPart_38 rfl rfl
  · replace H := br0 q1 H
    refine J_iload_n 1 dX12_isPart_4 rfl rfl ?_
    refine J_iconst (5 : Int32) dX12_isPart_5 kc_5 ?_
    refine J_idiv dX12_isPart_6 (by decide) ?_
    refine J_aload_n 0 dX12_isPart_7 rfl rfl ?_
    obtain ⟨g2, H⟩ := gd H
    refine J_gP 11 1 dX12_isPart_8 g2 flX12_8 rfl rfl ?_
    refine J_iconst (1 : Int32) dX12_isPart_11 kc_1 ?_
    obtain ⟨g3, H⟩ := gd H
    obtain ⟨g4, H⟩ := gd H
    refine J_iald dX12_isPart_12 g3 (inB_ok g4) ?_
    refine J_icmp_ge 37 dX12_isPart_13 rfl (fun q5 => ?_) (fun q5 => ?_)
    · replace H := br1 q5 H
      refine J_iconst (0 : Int32) dX12_isPart_37 kc_0 ?_
      cases H
      exact J_rZ dX12_isPart_38 rfl rfl
    · replace H := br0 q5 H
      refine J_iload_n 1 dX12_isPart_16 rfl rfl ?_
      refine J_iconst (5 : Int32) dX12_isPart_17 kc_5 ?_
      refine J_irem dX12_isPart_18 (by decide) ?_
      refine J_aload_n 0 dX12_isPart_19 rfl rfl ?_
      refine J_gP 11 1 dX12_isPart_20 g2 flX12_8 rfl rfl ?_
      refine J_bipush (110 : Int32) dX12_isPart_23 kb_110 ?_
      refine J_iload_n 1 dX12_isPart_25 rfl rfl ?_
      refine J_iconst (5 : Int32) dX12_isPart_26 kc_5 ?_
      refine J_idiv dX12_isPart_27 (by decide) ?_
      refine J_iadd dX12_isPart_28 ?_
      obtain ⟨g6, H⟩ := gd H
      refine J_iald dX12_isPart_29 g3 (inB_ok g6) ?_
      refine J_icmp_ge 37 dX12_isPart_30 rfl (fun q7 => ?_) (fun q7 => ?_)
      · replace H := br1 q7 H
        refine J_iconst (0 : Int32) dX12_isPart_37 kc_0 ?_
        cases H
        exact J_rZ dX12_isPart_38 rfl rfl
      · replace H := br0 q7 H
        refine J_iconst (1 : Int32) dX12_isPart_33 kc_1 ?_
        refine J_goto 38 dX12_isPart_34 rfl ?_
        cases H
        exact J_rZ dX12_isPart_38 rfl rfl
theorem okX12_isPart {d : Nat} {h : Hp} {v0 : Nat} {v1 : Int32} {r : Int32} (H : MX12_isPart h v0 v1 = some r) : CT (d) YX12_isPart [.ref v0, .int v1] h (oI r) h := CT_of (by decide +kernel) (Nat.le_of_ble_eq_true rfl) (eX12_isPart H)
noncomputable def MX12_machine0 (h : Hp) (v0 : Int32) : Option Int32 :=
  some ((320230 : Int32) + ((183 : Int32) * v0))
set_option maxRecDepth 100000 in
set_option maxHeartbeats 8000000 in
theorem eX12_machine0 {d : Nat} {h : Hp} {v0 : Int32} {r : Int32} (H : MX12_machine0 h v0 = some r) : J (d) YX12_machine0 0 [.int v0] [] h (oI r) h := by
  unfold MX12_machine0 at H
  refine J_ldc (320230 : Int32) coX12_126 dX12_machine0_0 ?_
  refine J_sipush (183 : Int32) dX12_machine0_2 ks_183 ?_
  refine J_iload_n 0 dX12_machine0_5 rfl rfl ?_
  refine J_imul dX12_machine0_6 ?_
  refine J_iadd dX12_machine0_7 ?_
  cases H
  exact J_iretI dX12_machine0_8 rfl
theorem okX12_machine0 {d : Nat} {h : Hp} {v0 : Int32} {r : Int32} (H : MX12_machine0 h v0 = some r) : CT (d) YX12_machine0 [.int v0] h (oI r) h := CT_of (by decide +kernel) (Nat.le_of_ble_eq_true rfl) (eX12_machine0 H)
noncomputable def MX12_isIn (h : Hp) (v0 : Int32) (v1 : Int32) (v2 : Int32) : Option Int32 :=
  if v0 < v1 then
    some (0 : Int32)
  else
    if v2 < v0 then
      some (0 : Int32)
    else
      some (1 : Int32)
set_option maxRecDepth 100000 in
set_option maxHeartbeats 8000000 in
theorem eX12_isIn {d : Nat} {h : Hp} {v0 : Int32} {v1 : Int32} {v2 : Int32} {r : Int32} (H : MX12_isIn h v0 v1 v2 = some r) : J (d) YX12_isIn 0 [.int v0, .int v1, .int v2] [] h (oI r) h := by
  unfold MX12_isIn at H
  refine J_iload_n 0 dX12_isIn_0 rfl rfl ?_
  refine J_iload_n 1 dX12_isIn_1 rfl rfl ?_
  refine J_icmp_lt 14 dX12_isIn_2 rfl (fun q1 => ?_) (fun q1 => ?_)
  · replace H := br1 q1 H
    refine J_iconst (0 : Int32) dX12_isIn_14 kc_0 ?_
    cases H
    exact J_rZ dX12_isIn_15 rfl rfl
  · replace H := br0 q1 H
    refine J_iload_n 0 dX12_isIn_5 rfl rfl ?_
    refine J_iload_n 2 dX12_isIn_6 rfl rfl ?_
    refine J_icmp_gt 14 dX12_isIn_7 rfl (fun q2 => ?_) (fun q2 => ?_)
    · replace H := br1 q2 H
      refine J_iconst (0 : Int32) dX12_isIn_14 kc_0 ?_
      cases H
      exact J_rZ dX12_isIn_15 rfl rfl
    · replace H := br0 q2 H
      refine J_iconst (1 : Int32) dX12_isIn_10 kc_1 ?_
      refine J_goto 15 dX12_isIn_11 rfl ?_
      cases H
      exact J_rZ dX12_isIn_15 rfl rfl
theorem okX12_isIn {d : Nat} {h : Hp} {v0 : Int32} {v1 : Int32} {v2 : Int32} {r : Int32} (H : MX12_isIn h v0 v1 v2 = some r) : CT (d) YX12_isIn [.int v0, .int v1, .int v2] h (oI r) h := CT_of (by decide +kernel) (Nat.le_of_ble_eq_true rfl) (eX12_isIn H)
noncomputable def MX12_part0 (h : Hp) (v0 : Int32) : Option Int32 :=
  some ((130 : Int32) + ((645 : Int32) * v0))
set_option maxRecDepth 100000 in
set_option maxHeartbeats 8000000 in
theorem eX12_part0 {d : Nat} {h : Hp} {v0 : Int32} {r : Int32} (H : MX12_part0 h v0 = some r) : J (d) YX12_part0 0 [.int v0] [] h (oI r) h := by
  unfold MX12_part0 at H
  refine J_sipush (130 : Int32) dX12_part0_0 ks_130 ?_
  refine J_sipush (645 : Int32) dX12_part0_3 ks_645 ?_
  refine J_iload_n 0 dX12_part0_6 rfl rfl ?_
  refine J_imul dX12_part0_7 ?_
  refine J_iadd dX12_part0_8 ?_
  cases H
  exact J_iretI dX12_part0_9 rfl
theorem okX12_part0 {d : Nat} {h : Hp} {v0 : Int32} {r : Int32} (H : MX12_part0 h v0 = some r) : CT (d) YX12_part0 [.int v0] h (oI r) h := CT_of (by decide +kernel) (Nat.le_of_ble_eq_true rfl) (eX12_part0 H)
noncomputable def MX12_noPlace (h : Hp) (v0 : Nat) (v1 : Int32) (v2 : Int32) : Option Int32 :=
  Option.bind (α := Int32) (β := Int32) (MX12_part0 h v1) fun (t2 : Int32) =>
  gg (β := Int32) (kd h v0 = 11) <|
  gg (β := Int32) (kd h (gP h v0 1) = 20) <|
  gg (β := Int32) (inB (t2 + (3 : Int32)) (ln h (gP h v0 1)) = true) <|
  if (gI h (gP h v0 1) (t2 + (3 : Int32)).toNatClampNeg) = 0 then
    some (2 : Int32)
  else
    gg (β := Int32) (inB (t2 + (4 : Int32)) (ln h (gP h v0 1)) = true) <|
    Option.bind (α := Int32) (β := Int32) (MX12_isIn h v2 (0 : Int32) ((gI h (gP h v0 1) (t2 + (4 : Int32)).toNatClampNeg) - (1 : Int32))) fun (t9 : Int32) =>
    if t9 = 0 then
      some (1 : Int32)
    else
      some (0 : Int32)
set_option maxRecDepth 100000 in
set_option maxHeartbeats 8000000 in
theorem eX12_noPlace {d : Nat} {h : Hp} {v0 : Nat} {v1 : Int32} {v2 : Int32} {r : Int32} (H : MX12_noPlace h v0 v1 v2 = some r) : J (d + 1) YX12_noPlace 0 [.ref v0, .int v1, .int v2, Value.null] [] h (oI r) h := by
  unfold MX12_noPlace at H
  refine J_iload_n 1 dX12_noPlace_0 rfl rfl ?_
  obtain ⟨t2, e1, H⟩ := bd H
  refine J_cS (as := [.int v1]) YX12_part0 1 dX12_noPlace_1 moX12_part0 msX12_part0 mlX12_164 (okX12_part0 (d := d) e1) rfl rfl [] rfl rfl (st2 := [.int t2]) rfl ?_
  refine J_istore_n 3 dX12_noPlace_4 rfl (by decide) (ls' := [.ref v0, .int v1, .int v2, .int t2]) rfl ?_
  refine J_aload_n 0 dX12_noPlace_5 rfl rfl ?_
  obtain ⟨g3, H⟩ := gd H
  refine J_gP 11 1 dX12_noPlace_6 g3 flX12_8 rfl rfl ?_
  refine J_iload_n 3 dX12_noPlace_9 rfl rfl ?_
  refine J_iconst (3 : Int32) dX12_noPlace_10 kc_3 ?_
  refine J_iadd dX12_noPlace_11 ?_
  obtain ⟨g4, H⟩ := gd H
  obtain ⟨g5, H⟩ := gd H
  refine J_iald dX12_noPlace_12 g4 (inB_ok g5) ?_
  refine J_if_ne 20 dX12_noPlace_13 rfl (fun q6 => ?_) (fun q6 => ?_)
  · replace H := br0 q6 H
    refine J_iload_n 2 dX12_noPlace_20 rfl rfl ?_
    refine J_iconst (0 : Int32) dX12_noPlace_21 kc_0 ?_
    refine J_aload_n 0 dX12_noPlace_22 rfl rfl ?_
    refine J_gP 11 1 dX12_noPlace_23 g3 flX12_8 rfl rfl ?_
    refine J_iload_n 3 dX12_noPlace_26 rfl rfl ?_
    refine J_iconst (4 : Int32) dX12_noPlace_27 kc_4 ?_
    refine J_iadd dX12_noPlace_28 ?_
    obtain ⟨g7, H⟩ := gd H
    refine J_iald dX12_noPlace_29 g4 (inB_ok g7) ?_
    refine J_iconst (1 : Int32) dX12_noPlace_30 kc_1 ?_
    refine J_isub dX12_noPlace_31 ?_
    obtain ⟨t9, e8, H⟩ := bd H
    refine J_cS (as := [.int v2, .int (0 : Int32), .int ((gI h (gP h v0 1) (t2 + (4 : Int32)).toNatClampNeg) - (1 : Int32))]) YX12_isIn 3 dX12_noPlace_32 moX12_isIn msX12_isIn mlX12_157 (okX12_isIn (d := d) e8) rfl rfl [] rfl rfl (st2 := [.int t9]) rfl ?_
    refine J_if_ne 42 dX12_noPlace_35 rfl (fun q10 => ?_) (fun q10 => ?_)
    · replace H := br0 q10 H
      refine J_iconst (0 : Int32) dX12_noPlace_42 kc_0 ?_
      cases H
      exact J_iretI dX12_noPlace_43 rfl
    · replace H := br1 q10 H
      refine J_iconst (1 : Int32) dX12_noPlace_38 kc_1 ?_
      refine J_goto 43 dX12_noPlace_39 rfl ?_
      cases H
      exact J_iretI dX12_noPlace_43 rfl
  · replace H := br1 q6 H
    refine J_iconst (2 : Int32) dX12_noPlace_16 kc_2 ?_
    refine J_goto 43 dX12_noPlace_17 rfl ?_
    cases H
    exact J_iretI dX12_noPlace_43 rfl
theorem okX12_noPlace {d : Nat} {h : Hp} {v0 : Nat} {v1 : Int32} {v2 : Int32} {r : Int32} (H : MX12_noPlace h v0 v1 v2 = some r) : CT (d + 1) YX12_noPlace [.ref v0, .int v1, .int v2] h (oI r) h := CT_of (by decide +kernel) (Nat.le_of_ble_eq_true rfl) (eX12_noPlace H)
noncomputable def MX12_queues (h : Hp) (v0 : Nat) (v1 : Int32) (v2 : Int32) (v3 : Int32) (v4 : Int32) (v5 : Int32) (v6 : Int32) : Option (Int32 × Hp) :=
  Option.bind (α := Int32) (β := (Int32 × Hp)) (MX12_machine0 h v1) fun (t2 : Int32) =>
  gg (β := (Int32 × Hp)) (kd h v0 = 11) <|
  gg (β := (Int32 × Hp)) (kd h (gP h v0 1) = 20) <|
  gg (β := (Int32 × Hp)) (inB (t2 + (29 : Int32)) (ln h (gP h v0 1)) = true) <|
  lt (α := Int32) (β := Option (Int32 × Hp)) ((t2 + (33 : Int32)) + ((5 : Int32) * (gI h (gP h v0 1) (t2 + (29 : Int32)).toNatClampNeg))) fun (w6 : Int32) =>
  gg (β := (Int32 × Hp)) (inB w6 (ln h (gP h v0 1)) = true) <|
  lt (α := Hp) (β := Option (Int32 × Hp)) (sI h (gP h v0 1) w6.toNatClampNeg v2) fun (h9 : Hp) =>
  gg (β := (Int32 × Hp)) (inB (w6 + (1 : Int32)) (ln h (gP h v0 1)) = true) <|
  lt (α := Hp) (β := Option (Int32 × Hp)) (sI h9 (gP h v0 1) (w6 + (1 : Int32)).toNatClampNeg v3) fun (h15 : Hp) =>
  gg (β := (Int32 × Hp)) (inB (w6 + (2 : Int32)) (ln h (gP h v0 1)) = true) <|
  lt (α := Hp) (β := Option (Int32 × Hp)) (sI h15 (gP h v0 1) (w6 + (2 : Int32)).toNatClampNeg v4) fun (h21 : Hp) =>
  gg (β := (Int32 × Hp)) (inB (w6 + (3 : Int32)) (ln h (gP h v0 1)) = true) <|
  lt (α := Hp) (β := Option (Int32 × Hp)) (sI h21 (gP h v0 1) (w6 + (3 : Int32)).toNatClampNeg v5) fun (h27 : Hp) =>
  gg (β := (Int32 × Hp)) (inB (w6 + (4 : Int32)) (ln h (gP h v0 1)) = true) <|
  lt (α := Hp) (β := Option (Int32 × Hp)) (sI h27 (gP h v0 1) (w6 + (4 : Int32)).toNatClampNeg v6) fun (h33 : Hp) =>
  lt (α := Hp) (β := Option (Int32 × Hp)) (sI h33 (gP h v0 1) (t2 + (29 : Int32)).toNatClampNeg ((gI h33 (gP h v0 1) (t2 + (29 : Int32)).toNatClampNeg) + (1 : Int32))) fun (h38 : Hp) =>
  some ((gI h38 (gP h v0 1) (t2 + (29 : Int32)).toNatClampNeg), h38)
set_option maxRecDepth 100000 in
set_option maxHeartbeats 8000000 in
theorem eX12_queues {d : Nat} {h : Hp} {v0 : Nat} {v1 : Int32} {v2 : Int32} {v3 : Int32} {v4 : Int32} {v5 : Int32} {v6 : Int32} {r : Int32} {h9 : Hp} (H : MX12_queues h v0 v1 v2 v3 v4 v5 v6 = some (r, h9)) : J (d + 1) YX12_queues 0 [.ref v0, .int v1, .int v2, .int v3, .int v4, .int v5, .int v6, Value.null, Value.null] [] h (oI r) h9 := by
  unfold MX12_queues at H
  refine J_iload_n 1 dX12_queues_0 rfl rfl ?_
  obtain ⟨t2, e1, H⟩ := bd H
  refine J_cS (as := [.int v1]) YX12_machine0 1 dX12_queues_1 moX12_machine0 msX12_machine0 mlX12_360 (okX12_machine0 (d := d) e1) rfl rfl [] rfl rfl (st2 := [.int t2]) rfl ?_
  refine J_istore dX12_queues_4 (by decide) (ls' := [.ref v0, .int v1, .int v2, .int v3, .int v4, .int v5, .int v6, .int t2, Value.null]) rfl ?_
  refine J_iload dX12_queues_6 rfl ?_
  refine J_bipush (33 : Int32) dX12_queues_8 kb_33 ?_
  refine J_iadd dX12_queues_10 ?_
  refine J_iconst (5 : Int32) dX12_queues_11 kc_5 ?_
  refine J_aload_n 0 dX12_queues_12 rfl rfl ?_
  obtain ⟨g3, H⟩ := gd H
  refine J_gP 11 1 dX12_queues_13 g3 flX12_8 rfl rfl ?_
  refine J_iload dX12_queues_16 rfl ?_
  refine J_bipush (29 : Int32) dX12_queues_18 kb_29 ?_
  refine J_iadd dX12_queues_20 ?_
  obtain ⟨g4, H⟩ := gd H
  obtain ⟨g5, H⟩ := gd H
  refine J_iald dX12_queues_21 g4 (inB_ok g5) ?_
  refine J_imul dX12_queues_22 ?_
  refine J_iadd dX12_queues_23 ?_
  obtain ⟨w6, e7, H⟩ := lt_el H
  refine J_nmI e7 ?_
  refine J_istore dX12_queues_24 (by decide) (ls' := [.ref v0, .int v1, .int v2, .int v3, .int v4, .int v5, .int v6, .int t2, .int w6]) rfl ?_
  refine J_aload_n 0 dX12_queues_26 rfl rfl ?_
  refine J_gP 11 1 dX12_queues_27 g3 flX12_8 rfl rfl ?_
  refine J_iload dX12_queues_30 rfl ?_
  refine J_iload_n 2 dX12_queues_32 rfl rfl ?_
  obtain ⟨g8, H⟩ := gd H
  obtain ⟨h9, e10, H⟩ := lt_el H
  refine J_sI dX12_queues_33 g4 (inB_ok g8) e10 ?_
  have c11 := ekI e10
  have c12 := elI e10
  have c13 := epI e10
  refine J_aload_n 0 dX12_queues_34 rfl rfl ?_
  refine J_gP 11 1 dX12_queues_35 (kq c11 g3) flX12_8 rfl (congrFun (congrFun c13 v0) 1) ?_
  refine J_iload dX12_queues_38 rfl ?_
  refine J_iconst (1 : Int32) dX12_queues_40 kc_1 ?_
  refine J_iadd dX12_queues_41 ?_
  refine J_iload_n 3 dX12_queues_42 rfl rfl ?_
  obtain ⟨g14, H⟩ := gd H
  obtain ⟨h15, e16, H⟩ := lt_el H
  refine J_sI dX12_queues_43 (kq c11 g4) (lq c12 g14) e16 ?_
  have c17 := (ekI e16).trans c11
  have c18 := (elI e16).trans c12
  have c19 := (epI e16).trans c13
  refine J_aload_n 0 dX12_queues_44 rfl rfl ?_
  refine J_gP 11 1 dX12_queues_45 (kq c17 g3) flX12_8 rfl (congrFun (congrFun c19 v0) 1) ?_
  refine J_iload dX12_queues_48 rfl ?_
  refine J_iconst (2 : Int32) dX12_queues_50 kc_2 ?_
  refine J_iadd dX12_queues_51 ?_
  refine J_iload dX12_queues_52 rfl ?_
  obtain ⟨g20, H⟩ := gd H
  obtain ⟨h21, e22, H⟩ := lt_el H
  refine J_sI dX12_queues_54 (kq c17 g4) (lq c18 g20) e22 ?_
  have c23 := (ekI e22).trans c17
  have c24 := (elI e22).trans c18
  have c25 := (epI e22).trans c19
  refine J_aload_n 0 dX12_queues_55 rfl rfl ?_
  refine J_gP 11 1 dX12_queues_56 (kq c23 g3) flX12_8 rfl (congrFun (congrFun c25 v0) 1) ?_
  refine J_iload dX12_queues_59 rfl ?_
  refine J_iconst (3 : Int32) dX12_queues_61 kc_3 ?_
  refine J_iadd dX12_queues_62 ?_
  refine J_iload dX12_queues_63 rfl ?_
  obtain ⟨g26, H⟩ := gd H
  obtain ⟨h27, e28, H⟩ := lt_el H
  refine J_sI dX12_queues_65 (kq c23 g4) (lq c24 g26) e28 ?_
  have c29 := (ekI e28).trans c23
  have c30 := (elI e28).trans c24
  have c31 := (epI e28).trans c25
  refine J_aload_n 0 dX12_queues_66 rfl rfl ?_
  refine J_gP 11 1 dX12_queues_67 (kq c29 g3) flX12_8 rfl (congrFun (congrFun c31 v0) 1) ?_
  refine J_iload dX12_queues_70 rfl ?_
  refine J_iconst (4 : Int32) dX12_queues_72 kc_4 ?_
  refine J_iadd dX12_queues_73 ?_
  refine J_iload dX12_queues_74 rfl ?_
  obtain ⟨g32, H⟩ := gd H
  obtain ⟨h33, e34, H⟩ := lt_el H
  refine J_sI dX12_queues_76 (kq c29 g4) (lq c30 g32) e34 ?_
  have c35 := (ekI e34).trans c29
  have c36 := (elI e34).trans c30
  have c37 := (epI e34).trans c31
  refine J_aload_n 0 dX12_queues_77 rfl rfl ?_
  refine J_gP 11 1 dX12_queues_78 (kq c35 g3) flX12_8 rfl (congrFun (congrFun c37 v0) 1) ?_
  refine J_iload dX12_queues_81 rfl ?_
  refine J_bipush (29 : Int32) dX12_queues_83 kb_29 ?_
  refine J_iadd dX12_queues_85 ?_
  refine J_dup2 dX12_queues_86 rfl rfl ?_
  refine J_iald dX12_queues_87 (kq c35 g4) (lq c36 g5) ?_
  refine J_iconst (1 : Int32) dX12_queues_88 kc_1 ?_
  refine J_iadd dX12_queues_89 ?_
  obtain ⟨h38, e39, H⟩ := lt_el H
  refine J_sI dX12_queues_90 (kq c35 g4) (lq c36 g5) e39 ?_
  have c40 := (ekI e39).trans c35
  have c41 := (elI e39).trans c36
  have c42 := (epI e39).trans c37
  refine J_aload_n 0 dX12_queues_91 rfl rfl ?_
  refine J_gP 11 1 dX12_queues_92 (kq c40 g3) flX12_8 rfl (congrFun (congrFun c42 v0) 1) ?_
  refine J_iload dX12_queues_95 rfl ?_
  refine J_bipush (29 : Int32) dX12_queues_97 kb_29 ?_
  refine J_iadd dX12_queues_99 ?_
  refine J_iald dX12_queues_100 (kq c40 g4) (lq c41 g5) ?_
  cases H
  exact J_iretI dX12_queues_101 rfl
theorem okX12_queues {d : Nat} {h : Hp} {v0 : Nat} {v1 : Int32} {v2 : Int32} {v3 : Int32} {v4 : Int32} {v5 : Int32} {v6 : Int32} {r : Int32} {h9 : Hp} (H : MX12_queues h v0 v1 v2 v3 v4 v5 v6 = some (r, h9)) : CT (d + 1) YX12_queues [.ref v0, .int v1, .int v2, .int v3, .int v4, .int v5, .int v6] h (oI r) h9 := CT_of (by decide +kernel) (Nat.le_of_ble_eq_true rfl) (eX12_queues H)
noncomputable def MX12_again_74 (h : Hp) (v0 : Nat) (v1 : Int32) (v2 : Int32) (v3 : Int32) (s0 : Nat) (s1 : Int32) : Option (Int32 × Hp) :=
  gg (β := (Int32 × Hp)) (kd h s0 = 11) <|
  lt (α := Hp) (β := Option (Int32 × Hp)) (sI h s0 0 s1) fun (h20 : Hp) =>
  gg (β := (Int32 × Hp)) (kd h v0 = 11) <|
  if (gI h20 v0 0) ≤ 0 then
    Option.bind (α := Int32) (β := (Int32 × Hp)) (MX12_part0 h20 v1) fun (t28 : Int32) =>
    gg (β := (Int32 × Hp)) (kd h (gP h v0 1) = 20) <|
    gg (β := (Int32 × Hp)) (inB ((t28 + (45 : Int32)) + v2) (ln h (gP h v0 1)) = true) <|
    if (gI h20 (gP h v0 1) ((t28 + (45 : Int32)) + v2).toNatClampNeg) ≤ 0 then
      b2 (α := Int32) (β := Hp) (γ := (Int32 × Hp)) (MX12_queues h20 v0 v3 v1 v2 (v2 + (1 : Int32)) (0 : Int32) (0 : Int32)) fun (t34 : Int32) (h33 : Hp) =>
      some (t34, h33)
    else
      some ((-1 : Int32), h20)
  else
    some ((0 : Int32), h20)
set_option maxRecDepth 100000 in
set_option maxHeartbeats 8000000 in
theorem kX12_again_74 {d : Nat} {h : Hp} {v0 : Nat} {v1 : Int32} {v2 : Int32} {v3 : Int32} {s0 : Nat} {s1 : Int32} {r : Int32} {h9 : Hp} (H : MX12_again_74 h v0 v1 v2 v3 s0 s1 = some (r, h9)) : J (d + 2) YX12_again 74 [.ref v0, .int v1, .int v2, .int v3, Value.null] [.int s1, .ref s0] h (oI r) h9 := by
  unfold MX12_again_74 at H
  obtain ⟨g19, H⟩ := gd H
  obtain ⟨h20, e21, H⟩ := lt_el H
  refine J_pI 11 0 dX12_again_74 g19 flX12_122 rfl rfl e21 ?_
  have c22 := ekI e21
  have c23 := elI e21
  have c24 := epI e21
  refine J_aload_n 0 dX12_again_77 rfl rfl ?_
  obtain ⟨g25, H⟩ := gd H
  refine J_getI 11 0 dX12_again_78 (kq c22 g25) flX12_122 rfl ?_
  refine J_if_le 86 dX12_again_81 rfl (fun q26 => ?_) (fun q26 => ?_)
  · replace H := br1 q26 H
    refine J_aload_n 0 dX12_again_86 rfl rfl ?_
    refine J_gP 11 1 dX12_again_87 (kq c22 g25) flX12_8 rfl (congrFun (congrFun c24 v0) 1) ?_
    refine J_iload_n 1 dX12_again_90 rfl rfl ?_
    obtain ⟨t28, e27, H⟩ := bd H
    refine J_cS (as := [.int v1]) YX12_part0 1 dX12_again_91 moX12_part0 msX12_part0 mlX12_164 (okX12_part0 (d := d + 1) e27) rfl rfl [.ref (gP h v0 1)] rfl rfl (st2 := [.int t28, .ref (gP h v0 1)]) rfl ?_
    refine J_bipush (45 : Int32) dX12_again_94 kb_45 ?_
    refine J_iadd dX12_again_96 ?_
    refine J_iload_n 2 dX12_again_97 rfl rfl ?_
    refine J_iadd dX12_again_98 ?_
    obtain ⟨g29, H⟩ := gd H
    obtain ⟨g30, H⟩ := gd H
    refine J_iald dX12_again_99 (kq c22 g29) (lq c23 g30) ?_
    refine J_if_le 107 dX12_again_100 rfl (fun q31 => ?_) (fun q31 => ?_)
    · replace H := br1 q31 H
      refine J_aload_n 0 dX12_again_107 rfl rfl ?_
      refine J_iload_n 3 dX12_again_108 rfl rfl ?_
      refine J_iload_n 1 dX12_again_109 rfl rfl ?_
      refine J_iload_n 2 dX12_again_110 rfl rfl ?_
      refine J_iload_n 2 dX12_again_111 rfl rfl ?_
      refine J_iconst (1 : Int32) dX12_again_112 kc_1 ?_
      refine J_iadd dX12_again_113 ?_
      refine J_iconst (0 : Int32) dX12_again_114 kc_0 ?_
      refine J_iconst (0 : Int32) dX12_again_115 kc_0 ?_
      obtain ⟨t34, h33, e32, H⟩ := b2_el H
      refine J_cV (as := [.int v3, .int v1, .int v2, .int (v2 + (1 : Int32)), .int (0 : Int32), .int (0 : Int32)]) 11 YX12_queues 6 dX12_again_116 moX12_queues mvX12_queues mlX12_369 (kq c22 g25) rfl rfl (okX12_queues (d := d) e32) rfl rfl [] rfl rfl (st2 := [.int t34]) rfl ?_
      cases H
      exact J_iretI dX12_again_119 rfl
    · replace H := br0 q31 H
      refine J_iconst (-1 : Int32) dX12_again_103 kc_m1 ?_
      refine J_goto 119 dX12_again_104 rfl ?_
      cases H
      exact J_iretI dX12_again_119 rfl
  · replace H := br0 q26 H
    refine J_iconst (0 : Int32) dX12_again_84 kc_0 ?_
    cases H
    exact J_iretI dX12_again_85 rfl
noncomputable def MX12_again_61 (h : Hp) (v0 : Nat) (v1 : Int32) (v2 : Int32) (v3 : Int32) (s0 : Int32) : Option (Int32 × Hp) :=
  if s0 = 0 then
    MX12_again_74 h v0 v1 v2 v3 v0 (3 : Int32)
  else
    MX12_again_74 h v0 v1 v2 v3 v0 (0 : Int32)
set_option maxRecDepth 100000 in
set_option maxHeartbeats 8000000 in
theorem kX12_again_61 {d : Nat} {h : Hp} {v0 : Nat} {v1 : Int32} {v2 : Int32} {v3 : Int32} {s0 : Int32} {r : Int32} {h9 : Hp} (H : MX12_again_61 h v0 v1 v2 v3 s0 = some (r, h9)) : J (d + 2) YX12_again 61 [.ref v0, .int v1, .int v2, .int v3, Value.null] [.int s0] h (oI r) h9 := by
  unfold MX12_again_61 at H
  refine J_istore dX12_again_61 (by decide) (ls' := [.ref v0, .int v1, .int v2, .int v3, .int s0]) rfl ?_
  refine J_aload_n 0 dX12_again_63 rfl rfl ?_
  refine J_iload dX12_again_64 rfl ?_
  refine J_if_ne 73 dX12_again_66 rfl (fun q18 => ?_) (fun q18 => ?_)
  · replace H := br0 q18 H
    refine J_iconst (0 : Int32) dX12_again_73 kc_0 ?_
    exact J_dr (kX12_again_74 H ) ⟨rfl, ⟨rfl, ⟨rfl, ⟨rfl, trivial⟩⟩⟩⟩
  · replace H := br1 q18 H
    refine J_iconst (3 : Int32) dX12_again_69 kc_3 ?_
    refine J_goto 74 dX12_again_70 rfl ?_
    exact J_dr (kX12_again_74 H ) ⟨rfl, ⟨rfl, ⟨rfl, ⟨rfl, trivial⟩⟩⟩⟩
noncomputable def MX12_again_27 (h : Hp) (v0 : Nat) (v1 : Int32) (v2 : Int32) (v3 : Int32) (s0 : Nat) (s1 : Int32) : Option (Int32 × Hp) :=
  gg (β := (Int32 × Hp)) (kd h s0 = 11) <|
  lt (α := Hp) (β := Option (Int32 × Hp)) (sI h s0 0 s1) fun (h6 : Hp) =>
  gg (β := (Int32 × Hp)) (kd h v0 = 11) <|
  if (gI h6 v0 0) ≤ 0 then
    Option.bind (α := Int32) (β := (Int32 × Hp)) (MX12_machine0 h6 v3) fun (t14 : Int32) =>
    gg (β := (Int32 × Hp)) (kd h (gP h v0 1) = 20) <|
    gg (β := (Int32 × Hp)) (inB (t14 + (29 : Int32)) (ln h (gP h v0 1)) = true) <|
    if (30 : Int32) ≤ (gI h6 (gP h v0 1) (t14 + (29 : Int32)).toNatClampNeg) then
      MX12_again_61 h6 v0 v1 v2 v3 (0 : Int32)
    else
      MX12_again_61 h6 v0 v1 v2 v3 (1 : Int32)
  else
    some ((0 : Int32), h6)
set_option maxRecDepth 100000 in
set_option maxHeartbeats 8000000 in
theorem kX12_again_27 {d : Nat} {h : Hp} {v0 : Nat} {v1 : Int32} {v2 : Int32} {v3 : Int32} {s0 : Nat} {s1 : Int32} {r : Int32} {h9 : Hp} (H : MX12_again_27 h v0 v1 v2 v3 s0 s1 = some (r, h9)) : J (d + 2) YX12_again 27 [.ref v0, .int v1, .int v2, .int v3, Value.null] [.int s1, .ref s0] h (oI r) h9 := by
  unfold MX12_again_27 at H
  obtain ⟨g5, H⟩ := gd H
  obtain ⟨h6, e7, H⟩ := lt_el H
  refine J_pI 11 0 dX12_again_27 g5 flX12_122 rfl rfl e7 ?_
  have c8 := ekI e7
  have c9 := elI e7
  have c10 := epI e7
  refine J_aload_n 0 dX12_again_30 rfl rfl ?_
  obtain ⟨g11, H⟩ := gd H
  refine J_getI 11 0 dX12_again_31 (kq c8 g11) flX12_122 rfl ?_
  refine J_if_le 39 dX12_again_34 rfl (fun q12 => ?_) (fun q12 => ?_)
  · replace H := br1 q12 H
    refine J_aload_n 0 dX12_again_39 rfl rfl ?_
    refine J_gP 11 1 dX12_again_40 (kq c8 g11) flX12_8 rfl (congrFun (congrFun c10 v0) 1) ?_
    refine J_iload_n 3 dX12_again_43 rfl rfl ?_
    obtain ⟨t14, e13, H⟩ := bd H
    refine J_cS (as := [.int v3]) YX12_machine0 1 dX12_again_44 moX12_machine0 msX12_machine0 mlX12_360 (okX12_machine0 (d := d + 1) e13) rfl rfl [.ref (gP h v0 1)] rfl rfl (st2 := [.int t14, .ref (gP h v0 1)]) rfl ?_
    refine J_bipush (29 : Int32) dX12_again_47 kb_29 ?_
    refine J_iadd dX12_again_49 ?_
    obtain ⟨g15, H⟩ := gd H
    obtain ⟨g16, H⟩ := gd H
    refine J_iald dX12_again_50 (kq c8 g15) (lq c9 g16) ?_
    refine J_bipush (30 : Int32) dX12_again_51 kb_30 ?_
    refine J_icmp_ge 60 dX12_again_53 rfl (fun q17 => ?_) (fun q17 => ?_)
    · replace H := br1 q17 H
      refine J_iconst (0 : Int32) dX12_again_60 kc_0 ?_
      exact J_dr (kX12_again_61 H ) ⟨rfl, ⟨rfl, ⟨rfl, ⟨rfl, trivial⟩⟩⟩⟩
    · replace H := br0 q17 H
      refine J_iconst (1 : Int32) dX12_again_56 kc_1 ?_
      refine J_goto 61 dX12_again_57 rfl ?_
      exact J_dr (kX12_again_61 H ) ⟨rfl, ⟨rfl, ⟨rfl, ⟨rfl, trivial⟩⟩⟩⟩
  · replace H := br0 q12 H
    refine J_iconst (0 : Int32) dX12_again_37 kc_0 ?_
    cases H
    exact J_iretI dX12_again_38 rfl
noncomputable def MX12_again_17 (h : Hp) (v0 : Nat) (v1 : Int32) (v2 : Int32) (v3 : Int32) (s0 : Nat) : Option (Int32 × Hp) :=
  MX12_again_27 h v0 v1 v2 v3 s0 (1 : Int32)
set_option maxRecDepth 100000 in
set_option maxHeartbeats 8000000 in
theorem kX12_again_17 {d : Nat} {h : Hp} {v0 : Nat} {v1 : Int32} {v2 : Int32} {v3 : Int32} {s0 : Nat} {r : Int32} {h9 : Hp} (H : MX12_again_17 h v0 v1 v2 v3 s0 = some (r, h9)) : J (d + 2) YX12_again 17 [.ref v0, .int v1, .int v2, .int v3, Value.null] [.ref s0] h (oI r) h9 := by
  unfold MX12_again_17 at H
  refine J_iconst (1 : Int32) dX12_again_17 kc_1 ?_
  refine J_goto 27 dX12_again_18 rfl ?_
  exact J_dr (kX12_again_27 H ) ⟨rfl, ⟨rfl, ⟨rfl, ⟨rfl, trivial⟩⟩⟩⟩
noncomputable def MX12_again (h : Hp) (v0 : Nat) (v1 : Int32) (v2 : Int32) (v3 : Int32) : Option (Int32 × Hp) :=
  gg (β := (Int32 × Hp)) (kd h v0 = 11) <|
  Option.bind (α := Int32) (β := (Int32 × Hp)) (MX12_isPart h v0 v1) fun (t3 : Int32) =>
  if t3 = 0 then
    MX12_again_17 h v0 v1 v2 v3 v0
  else
    Option.bind (α := Int32) (β := (Int32 × Hp)) (MX12_isMachine h v0 v3) fun (t36 : Int32) =>
    if t36 = 0 then
      MX12_again_17 h v0 v1 v2 v3 v0
    else
      Option.bind (α := Int32) (β := (Int32 × Hp)) (MX12_noPlace h v0 v1 v2) fun (t39 : Int32) =>
      MX12_again_27 h v0 v1 v2 v3 v0 t39
set_option maxRecDepth 100000 in
set_option maxHeartbeats 8000000 in
theorem eX12_again {d : Nat} {h : Hp} {v0 : Nat} {v1 : Int32} {v2 : Int32} {v3 : Int32} {r : Int32} {h9 : Hp} (H : MX12_again h v0 v1 v2 v3 = some (r, h9)) : J (d + 2) YX12_again 0 [.ref v0, .int v1, .int v2, .int v3, Value.null] [] h (oI r) h9 := by
  unfold MX12_again at H
  refine J_aload_n 0 dX12_again_0 rfl rfl ?_
  refine J_aload_n 0 dX12_again_1 rfl rfl ?_
  refine J_iload_n 1 dX12_again_2 rfl rfl ?_
  obtain ⟨g2, H⟩ := gd H
  obtain ⟨t3, e1, H⟩ := bd H
  refine J_cV (as := [.int v1]) 11 YX12_isPart 1 dX12_again_3 moX12_isPart mvX12_isPart mlX12_311 g2 rfl rfl (okX12_isPart (d := d + 1) e1) rfl rfl [.ref v0] rfl rfl (st2 := [.int t3, .ref v0]) rfl ?_
  refine J_if_eq 17 dX12_again_6 rfl (fun q4 => ?_) (fun q4 => ?_)
  · replace H := br1 q4 H
    exact J_dr (kX12_again_17 H ) ⟨rfl, ⟨rfl, ⟨rfl, ⟨rfl, trivial⟩⟩⟩⟩
  · replace H := br0 q4 H
    refine J_aload_n 0 dX12_again_9 rfl rfl ?_
    refine J_iload_n 3 dX12_again_10 rfl rfl ?_
    obtain ⟨t36, e35, H⟩ := bd H
    refine J_cV (as := [.int v3]) 11 YX12_isMachine 1 dX12_again_11 moX12_isMachine mvX12_isMachine mlX12_363 g2 rfl rfl (okX12_isMachine (d := d + 1) e35) rfl rfl [.ref v0] rfl rfl (st2 := [.int t36, .ref v0]) rfl ?_
    refine J_if_ne 21 dX12_again_14 rfl (fun q37 => ?_) (fun q37 => ?_)
    · replace H := br0 q37 H
      refine J_aload_n 0 dX12_again_21 rfl rfl ?_
      refine J_iload_n 1 dX12_again_22 rfl rfl ?_
      refine J_iload_n 2 dX12_again_23 rfl rfl ?_
      obtain ⟨t39, e38, H⟩ := bd H
      refine J_cV (as := [.int v1, .int v2]) 11 YX12_noPlace 2 dX12_again_24 moX12_noPlace mvX12_noPlace mlX12_402 g2 rfl rfl (okX12_noPlace (d := d) e38) rfl rfl [.ref v0] rfl rfl (st2 := [.int t39, .ref v0]) rfl ?_
      exact J_dr (kX12_again_27 H ) ⟨rfl, ⟨rfl, ⟨rfl, ⟨rfl, trivial⟩⟩⟩⟩
    · replace H := br1 q37 H
      exact J_dr (kX12_again_17 H ) ⟨rfl, ⟨rfl, ⟨rfl, ⟨rfl, trivial⟩⟩⟩⟩
theorem okX12_again {d : Nat} {h : Hp} {v0 : Nat} {v1 : Int32} {v2 : Int32} {v3 : Int32} {r : Int32} {h9 : Hp} (H : MX12_again h v0 v1 v2 v3 = some (r, h9)) : CT (d + 2) YX12_again [.ref v0, .int v1, .int v2, .int v3] h (oI r) h9 := CT_of (by decide +kernel) (Nat.le_of_ble_eq_true rfl) (eX12_again H)
noncomputable def BX12_jobs_4 (h : Hp) (v0 : Nat) (v1 : Int32) (v2 : Int32) : Option ((Int32 × Int32) ⊕ Int32) :=
  gg (β := ((Int32 × Int32) ⊕ Int32)) (kd h v0 = 11) <|
  gg (β := ((Int32 × Int32) ⊕ Int32)) (kd h (gP h v0 1) = 20) <|
  gg (β := ((Int32 × Int32) ⊕ Int32)) (inB (3 : Int32) (ln h (gP h v0 1)) = true) <|
  if (gI h (gP h v0 1) (3 : Int32).toNatClampNeg) ≤ v2 then
    some (.inr (v1))
  else
    Option.bind (α := Int32) (β := ((Int32 × Int32) ⊕ Int32)) (MX12_machine0 h v2) fun (t6 : Int32) =>
    gg (β := ((Int32 × Int32) ⊕ Int32)) (inB (t6 + (29 : Int32)) (ln h (gP h v0 1)) = true) <|
    some (.inl ((v1 + (gI h (gP h v0 1) (t6 + (29 : Int32)).toNatClampNeg)), (v2 + (1 : Int32))))
set_option maxRecDepth 100000 in
set_option maxHeartbeats 8000000 in
theorem bX12_jobs_4 {d : Nat} {h : Hp} {v0 : Nat} {v1 : Int32} {v2 : Int32} {r : Int32} {x : ((Int32 × Int32) ⊕ Int32)} (H : BX12_jobs_4 h v0 v1 v2 = some x) (hb0 : ∀ s : Int32 × Int32, x = .inl s → J (d + 1) YX12_jobs 4 [.ref v0, .int s.1, .int s.2] [] h (oI r) h) (hx : ∀ z : Int32, x = .inr (z) → z = r) : J (d + 1) YX12_jobs 4 [.ref v0, .int v1, .int v2] [] h (oI r) h := by
  unfold BX12_jobs_4 at H
  refine J_iload_n 2 dX12_jobs_4 rfl rfl ?_
  refine J_aload_n 0 dX12_jobs_5 rfl rfl ?_
  obtain ⟨g1, H⟩ := gd H
  refine J_gP 11 1 dX12_jobs_6 g1 flX12_8 rfl rfl ?_
  refine J_iconst (3 : Int32) dX12_jobs_9 kc_3 ?_
  obtain ⟨g2, H⟩ := gd H
  obtain ⟨g3, H⟩ := gd H
  refine J_iald dX12_jobs_10 g2 (inB_ok g3) ?_
  refine J_icmp_ge 35 dX12_jobs_11 rfl (fun q4 => ?_) (fun q4 => ?_)
  · replace H := br1 q4 H
    refine J_iload_n 1 dX12_jobs_35 rfl rfl ?_
    cases H
    cases hx _ rfl
    exact J_iretI dX12_jobs_36 rfl
  · replace H := br0 q4 H
    refine J_iload_n 1 dX12_jobs_14 rfl rfl ?_
    refine J_aload_n 0 dX12_jobs_15 rfl rfl ?_
    refine J_gP 11 1 dX12_jobs_16 g1 flX12_8 rfl rfl ?_
    refine J_iload_n 2 dX12_jobs_19 rfl rfl ?_
    obtain ⟨t6, e5, H⟩ := bd H
    refine J_cS (as := [.int v2]) YX12_machine0 1 dX12_jobs_20 moX12_machine0 msX12_machine0 mlX12_360 (okX12_machine0 (d := d) e5) rfl rfl [.ref (gP h v0 1), .int v1] rfl rfl (st2 := [.int t6, .ref (gP h v0 1), .int v1]) rfl ?_
    refine J_bipush (29 : Int32) dX12_jobs_23 kb_29 ?_
    refine J_iadd dX12_jobs_25 ?_
    obtain ⟨g7, H⟩ := gd H
    refine J_iald dX12_jobs_26 g2 (inB_ok g7) ?_
    refine J_iadd dX12_jobs_27 ?_
    refine J_istore_n 1 dX12_jobs_28 rfl (by decide) (ls' := [.ref v0, .int (v1 + (gI h (gP h v0 1) (t6 + (29 : Int32)).toNatClampNeg)), .int v2]) rfl ?_
    refine J_iinc (v2 + (1 : Int32)) dX12_jobs_29 rfl (congrArg (HAdd.hAdd v2) kc_1) (by decide) (ls' := [.ref v0, .int (v1 + (gI h (gP h v0 1) (t6 + (29 : Int32)).toNatClampNeg)), .int (v2 + (1 : Int32))]) rfl ?_
    refine J_goto 4 dX12_jobs_32 rfl ?_
    cases H
    exact J_dr (hb0 _ rfl) ⟨rfl, ⟨rfl, ⟨rfl, trivial⟩⟩⟩
noncomputable def MX12_jobs_4 (h : Hp) (v0 : Nat) (v1 : Int32) (v2 : Int32) : Option Int32 := it (fun q : Int32 × Int32 => BX12_jobs_4 h v0 q.1 q.2) (v1, v2)
set_option maxRecDepth 100000 in
set_option maxHeartbeats 8000000 in
theorem kX12_jobs_4 {d : Nat} {h : Hp} {v0 : Nat} {v1 : Int32} {v2 : Int32} {r : Int32} (H : MX12_jobs_4 h v0 v1 v2 = some r) : J (d + 1) YX12_jobs 4 [.ref v0, .int v1, .int v2] [] h (oI r) h := by
  unfold MX12_jobs_4 at H
  refine it_J (G := (fun q : Int32 × Int32 => J (d + 1) YX12_jobs 4 [.ref v0, .int q.1, .int q.2] [] h (oI r) h)) (Q := (fun y : Int32 => y = r)) (fun q x Hq hm => ?_) H rfl
  exact bX12_jobs_4 Hq (fun s hs => by subst hs; exact hm) (fun z hz => by subst hz; exact hm)
noncomputable def MX12_jobs (h : Hp) (v0 : Nat) : Option Int32 :=
  MX12_jobs_4 h v0 (0 : Int32) (0 : Int32)
set_option maxRecDepth 100000 in
set_option maxHeartbeats 8000000 in
theorem eX12_jobs {d : Nat} {h : Hp} {v0 : Nat} {r : Int32} (H : MX12_jobs h v0 = some r) : J (d + 1) YX12_jobs 0 [.ref v0, Value.null, Value.null] [] h (oI r) h := by
  unfold MX12_jobs at H
  refine J_iconst (0 : Int32) dX12_jobs_0 kc_0 ?_
  refine J_istore_n 1 dX12_jobs_1 rfl (by decide) (ls' := [.ref v0, .int (0 : Int32), Value.null]) rfl ?_
  refine J_iconst (0 : Int32) dX12_jobs_2 kc_0 ?_
  refine J_istore_n 2 dX12_jobs_3 rfl (by decide) (ls' := [.ref v0, .int (0 : Int32), .int (0 : Int32)]) rfl ?_
  exact J_dr (kX12_jobs_4 H ) ⟨rfl, ⟨rfl, ⟨rfl, trivial⟩⟩⟩
theorem okX12_jobs {d : Nat} {h : Hp} {v0 : Nat} {r : Int32} (H : MX12_jobs h v0 = some r) : CT (d + 1) YX12_jobs [.ref v0] h (oI r) h := CT_of (by decide +kernel) (Nat.le_of_ble_eq_true rfl) (eX12_jobs H)
noncomputable def MX12_away_44 (h : Hp) (v0 : Nat) (v2 : Int32) : Option Hp :=
  gg (β := Hp) (kd h v0 = 11) <|
  gg (β := Hp) (kd h (gP h v0 1) = 20) <|
  gg (β := Hp) (inB (v2 + (29 : Int32)) (ln h (gP h v0 1)) = true) <|
  lt (α := Hp) (β := Option Hp) (sI h (gP h v0 1) (v2 + (29 : Int32)).toNatClampNeg ((gI h (gP h v0 1) (v2 + (29 : Int32)).toNatClampNeg) - (1 : Int32))) fun (h7 : Hp) =>
  some h7
set_option maxRecDepth 100000 in
set_option maxHeartbeats 8000000 in
theorem kX12_away_44 {d : Nat} {h : Hp} {v0 : Nat} {v2 : Int32} {h9 : Hp} (H : MX12_away_44 h v0 v2 = some h9) : J (d + 1) YX12_away 44 [.ref v0, Value.null, .int v2, Value.null] [] h oV h9 := by
  unfold MX12_away_44 at H
  refine J_aload_n 0 dX12_away_44 rfl rfl ?_
  obtain ⟨g4, H⟩ := gd H
  refine J_gP 11 1 dX12_away_45 g4 flX12_8 rfl rfl ?_
  refine J_iload_n 2 dX12_away_48 rfl rfl ?_
  refine J_bipush (29 : Int32) dX12_away_49 kb_29 ?_
  refine J_iadd dX12_away_51 ?_
  refine J_dup2 dX12_away_52 rfl rfl ?_
  obtain ⟨g5, H⟩ := gd H
  obtain ⟨g6, H⟩ := gd H
  refine J_iald dX12_away_53 g5 (inB_ok g6) ?_
  refine J_iconst (1 : Int32) dX12_away_54 kc_1 ?_
  refine J_isub dX12_away_55 ?_
  obtain ⟨h7, e8, H⟩ := lt_el H
  refine J_sI dX12_away_56 g5 (inB_ok g6) e8 ?_
  have c9 := ekI e8
  have c10 := elI e8
  have c11 := epI e8
  cases H
  exact J_ret dX12_away_57 rfl
noncomputable def BX12_away_7 (h : Hp) (v0 : Nat) (v2 : Int32) (v3 : Int32) : Option ((Int32 × Hp) ⊕ Hp) :=
  if (145 : Int32) ≤ v3 then
    up1 (MX12_away_44 h v0 v2)
  else
    gg (β := ((Int32 × Hp) ⊕ Hp)) (kd h v0 = 11) <|
    gg (β := ((Int32 × Hp) ⊕ Hp)) (kd h (gP h v0 1) = 20) <|
    gg (β := ((Int32 × Hp) ⊕ Hp)) (inB (((v2 + (33 : Int32)) + v3) + (5 : Int32)) (ln h (gP h v0 1)) = true) <|
    gg (β := ((Int32 × Hp) ⊕ Hp)) (inB ((v2 + (33 : Int32)) + v3) (ln h (gP h v0 1)) = true) <|
    lt (α := Hp) (β := Option ((Int32 × Hp) ⊕ Hp)) (sI h (gP h v0 1) ((v2 + (33 : Int32)) + v3).toNatClampNeg (gI h (gP h v0 1) (((v2 + (33 : Int32)) + v3) + (5 : Int32)).toNatClampNeg)) fun (h16 : Hp) =>
    some (.inl ((v3 + (1 : Int32)), h16))
set_option maxRecDepth 100000 in
set_option maxHeartbeats 8000000 in
theorem bX12_away_7 {d : Nat} {h : Hp} {v0 : Nat} {v2 : Int32} {v3 : Int32} {h9 : Hp} {x : ((Int32 × Hp) ⊕ Hp)} (H : BX12_away_7 h v0 v2 v3 = some x) (hb0 : ∀ s : Int32 × Hp, x = .inl s → J (d + 1) YX12_away 7 [.ref v0, Value.null, .int v2, .int s.1] [] s.2 oV h9) (hx : ∀ z : Hp, x = .inr (z) → z = h9) : J (d + 1) YX12_away 7 [.ref v0, Value.null, .int v2, .int v3] [] h oV h9 := by
  unfold BX12_away_7 at H
  refine J_iload_n 3 dX12_away_7 rfl rfl ?_
  refine J_sipush (145 : Int32) dX12_away_8 ks_145 ?_
  refine J_icmp_ge 44 dX12_away_11 rfl (fun q3 => ?_) (fun q3 => ?_)
  · replace H := br1 q3 H
    obtain ⟨y0, H90, rfl⟩ := up1_el H
    replace H := H90
    obtain rfl := hx _ rfl
    exact J_dr (kX12_away_44 H ) ⟨rfl, ⟨rfl, trivial⟩⟩
  · replace H := br0 q3 H
    refine J_aload_n 0 dX12_away_14 rfl rfl ?_
    obtain ⟨g12, H⟩ := gd H
    refine J_gP 11 1 dX12_away_15 g12 flX12_8 rfl rfl ?_
    refine J_iload_n 2 dX12_away_18 rfl rfl ?_
    refine J_bipush (33 : Int32) dX12_away_19 kb_33 ?_
    refine J_iadd dX12_away_21 ?_
    refine J_iload_n 3 dX12_away_22 rfl rfl ?_
    refine J_iadd dX12_away_23 ?_
    refine J_aload_n 0 dX12_away_24 rfl rfl ?_
    refine J_gP 11 1 dX12_away_25 g12 flX12_8 rfl rfl ?_
    refine J_iload_n 2 dX12_away_28 rfl rfl ?_
    refine J_bipush (33 : Int32) dX12_away_29 kb_33 ?_
    refine J_iadd dX12_away_31 ?_
    refine J_iload_n 3 dX12_away_32 rfl rfl ?_
    refine J_iadd dX12_away_33 ?_
    refine J_iconst (5 : Int32) dX12_away_34 kc_5 ?_
    refine J_iadd dX12_away_35 ?_
    obtain ⟨g13, H⟩ := gd H
    obtain ⟨g14, H⟩ := gd H
    refine J_iald dX12_away_36 g13 (inB_ok g14) ?_
    obtain ⟨g15, H⟩ := gd H
    obtain ⟨h16, e17, H⟩ := lt_el H
    refine J_sI dX12_away_37 g13 (inB_ok g15) e17 ?_
    have c18 := ekI e17
    have c19 := elI e17
    have c20 := epI e17
    refine J_iinc (v3 + (1 : Int32)) dX12_away_38 rfl (congrArg (HAdd.hAdd v3) kc_1) (by decide) (ls' := [.ref v0, Value.null, .int v2, .int (v3 + (1 : Int32))]) rfl ?_
    refine J_goto 7 dX12_away_41 rfl ?_
    cases H
    exact J_dr (hb0 _ rfl) ⟨rfl, ⟨rfl, ⟨rfl, trivial⟩⟩⟩
noncomputable def MX12_away_7 (h : Hp) (v0 : Nat) (v2 : Int32) (v3 : Int32) : Option Hp := it (fun q : Int32 × Hp => BX12_away_7 q.2 v0 v2 q.1) (v3, h)
set_option maxRecDepth 100000 in
set_option maxHeartbeats 8000000 in
theorem kX12_away_7 {d : Nat} {h : Hp} {v0 : Nat} {v2 : Int32} {v3 : Int32} {h9 : Hp} (H : MX12_away_7 h v0 v2 v3 = some h9) : J (d + 1) YX12_away 7 [.ref v0, Value.null, .int v2, .int v3] [] h oV h9 := by
  unfold MX12_away_7 at H
  refine it_J (G := (fun q : Int32 × Hp => J (d + 1) YX12_away 7 [.ref v0, Value.null, .int v2, .int q.1] [] q.2 oV h9)) (Q := (fun y : Hp => y = h9)) (fun q x Hq hm => ?_) H rfl
  exact bX12_away_7 Hq (fun s hs => by subst hs; exact hm) (fun z hz => by subst hz; exact hm)
noncomputable def MX12_away (h : Hp) (v0 : Nat) (v1 : Int32) : Option Hp :=
  Option.bind (α := Int32) (β := Hp) (MX12_machine0 h v1) fun (t2 : Int32) =>
  MX12_away_7 h v0 t2 (0 : Int32)
set_option maxRecDepth 100000 in
set_option maxHeartbeats 8000000 in
theorem eX12_away {d : Nat} {h : Hp} {v0 : Nat} {v1 : Int32} {h9 : Hp} (H : MX12_away h v0 v1 = some h9) : J (d + 1) YX12_away 0 [.ref v0, .int v1, Value.null, Value.null] [] h oV h9 := by
  unfold MX12_away at H
  refine J_iload_n 1 dX12_away_0 rfl rfl ?_
  obtain ⟨t2, e1, H⟩ := bd H
  refine J_cS (as := [.int v1]) YX12_machine0 1 dX12_away_1 moX12_machine0 msX12_machine0 mlX12_360 (okX12_machine0 (d := d) e1) rfl rfl [] rfl rfl (st2 := [.int t2]) rfl ?_
  refine J_istore_n 2 dX12_away_4 rfl (by decide) (ls' := [.ref v0, .int v1, .int t2, Value.null]) rfl ?_
  refine J_iconst (0 : Int32) dX12_away_5 kc_0 ?_
  refine J_istore_n 3 dX12_away_6 rfl (by decide) (ls' := [.ref v0, .int v1, .int t2, .int (0 : Int32)]) rfl ?_
  exact J_dr (kX12_away_7 H ) ⟨rfl, ⟨rfl, ⟨rfl, trivial⟩⟩⟩
theorem okX12_away {d : Nat} {h : Hp} {v0 : Nat} {v1 : Int32} {h9 : Hp} (H : MX12_away h v0 v1 = some h9) : CT (d + 1) YX12_away [.ref v0, .int v1] h oV h9 := CT_of (by decide +kernel) (Nat.le_of_ble_eq_true rfl) (eX12_away H)
noncomputable def MX12_slug0 (h : Hp) (v0 : Int32) : Option Int32 :=
  some ((64630 : Int32) + ((852 : Int32) * v0))
set_option maxRecDepth 100000 in
set_option maxHeartbeats 8000000 in
theorem eX12_slug0 {d : Nat} {h : Hp} {v0 : Int32} {r : Int32} (H : MX12_slug0 h v0 = some r) : J (d) YX12_slug0 0 [.int v0] [] h (oI r) h := by
  unfold MX12_slug0 at H
  refine J_ldc (64630 : Int32) coX12_125 dX12_slug0_0 ?_
  refine J_sipush (852 : Int32) dX12_slug0_2 ks_852 ?_
  refine J_iload_n 0 dX12_slug0_5 rfl rfl ?_
  refine J_imul dX12_slug0_6 ?_
  refine J_iadd dX12_slug0_7 ?_
  cases H
  exact J_iretI dX12_slug0_8 rfl
theorem okX12_slug0 {d : Nat} {h : Hp} {v0 : Int32} {r : Int32} (H : MX12_slug0 h v0 = some r) : CT (d) YX12_slug0 [.int v0] h (oI r) h := CT_of (by decide +kernel) (Nat.le_of_ble_eq_true rfl) (eX12_slug0 H)
noncomputable def MX12_pots (h : Hp) (v0 : Nat) (v1 : Int32) : Option Hp :=
  if v1 = (-1 : Int32) then
    some h
  else
    gg (β := Hp) (kd h v0 = 11) <|
    Option.bind (α := Int32) (β := Hp) (MX12_slug0 h v1) fun (t4 : Int32) =>
    gg (β := Hp) (kd h (gP h v0 1) = 20) <|
    gg (β := Hp) (inB (t4 + (4 : Int32)) (ln h (gP h v0 1)) = true) <|
    lt (α := Hp) (β := Option Hp) (sI h (gP h v0 1) (t4 + (4 : Int32)).toNatClampNeg (2 : Int32)) fun (h7 : Hp) =>
    Option.bind (α := Int32) (β := Hp) (MX12_slug0 h7 v1) fun (t13 : Int32) =>
    gg (β := Hp) (inB (t13 + (5 : Int32)) (ln h (gP h v0 1)) = true) <|
    lt (α := Hp) (β := Option Hp) (sI h7 (gP h v0 1) (t13 + (5 : Int32)).toNatClampNeg (-1 : Int32)) fun (h15 : Hp) =>
    Option.bind (α := Int32) (β := Hp) (MX12_slug0 h15 v1) fun (t21 : Int32) =>
    gg (β := Hp) (inB (t21 + (6 : Int32)) (ln h (gP h v0 1)) = true) <|
    lt (α := Hp) (β := Option Hp) (sI h15 (gP h v0 1) (t21 + (6 : Int32)).toNatClampNeg (-1 : Int32)) fun (h23 : Hp) =>
    some h23
set_option maxRecDepth 100000 in
set_option maxHeartbeats 8000000 in
theorem eX12_pots {d : Nat} {h : Hp} {v0 : Nat} {v1 : Int32} {h9 : Hp} (H : MX12_pots h v0 v1 = some h9) : J (d + 1) YX12_pots 0 [.ref v0, .int v1] [] h oV h9 := by
  unfold MX12_pots at H
  refine J_iload_n 1 dX12_pots_0 rfl rfl ?_
  refine J_iconst (-1 : Int32) dX12_pots_1 kc_m1 ?_
  refine J_icmp_ne 6 dX12_pots_2 rfl (fun q1 => ?_) (fun q1 => ?_)
  · replace H := br0 q1 H
    refine J_aload_n 0 dX12_pots_6 rfl rfl ?_
    obtain ⟨g2, H⟩ := gd H
    refine J_gP 11 1 dX12_pots_7 g2 flX12_8 rfl rfl ?_
    refine J_iload_n 1 dX12_pots_10 rfl rfl ?_
    obtain ⟨t4, e3, H⟩ := bd H
    refine J_cS (as := [.int v1]) YX12_slug0 1 dX12_pots_11 moX12_slug0 msX12_slug0 mlX12_342 (okX12_slug0 (d := d) e3) rfl rfl [.ref (gP h v0 1)] rfl rfl (st2 := [.int t4, .ref (gP h v0 1)]) rfl ?_
    refine J_iconst (4 : Int32) dX12_pots_14 kc_4 ?_
    refine J_iadd dX12_pots_15 ?_
    refine J_iconst (2 : Int32) dX12_pots_16 kc_2 ?_
    obtain ⟨g5, H⟩ := gd H
    obtain ⟨g6, H⟩ := gd H
    obtain ⟨h7, e8, H⟩ := lt_el H
    refine J_sI dX12_pots_17 g5 (inB_ok g6) e8 ?_
    have c9 := ekI e8
    have c10 := elI e8
    have c11 := epI e8
    refine J_aload_n 0 dX12_pots_18 rfl rfl ?_
    refine J_gP 11 1 dX12_pots_19 (kq c9 g2) flX12_8 rfl (congrFun (congrFun c11 v0) 1) ?_
    refine J_iload_n 1 dX12_pots_22 rfl rfl ?_
    obtain ⟨t13, e12, H⟩ := bd H
    refine J_cS (as := [.int v1]) YX12_slug0 1 dX12_pots_23 moX12_slug0 msX12_slug0 mlX12_342 (okX12_slug0 (d := d) e12) rfl rfl [.ref (gP h v0 1)] rfl rfl (st2 := [.int t13, .ref (gP h v0 1)]) rfl ?_
    refine J_iconst (5 : Int32) dX12_pots_26 kc_5 ?_
    refine J_iadd dX12_pots_27 ?_
    refine J_iconst (-1 : Int32) dX12_pots_28 kc_m1 ?_
    obtain ⟨g14, H⟩ := gd H
    obtain ⟨h15, e16, H⟩ := lt_el H
    refine J_sI dX12_pots_29 (kq c9 g5) (lq c10 g14) e16 ?_
    have c17 := (ekI e16).trans c9
    have c18 := (elI e16).trans c10
    have c19 := (epI e16).trans c11
    refine J_aload_n 0 dX12_pots_30 rfl rfl ?_
    refine J_gP 11 1 dX12_pots_31 (kq c17 g2) flX12_8 rfl (congrFun (congrFun c19 v0) 1) ?_
    refine J_iload_n 1 dX12_pots_34 rfl rfl ?_
    obtain ⟨t21, e20, H⟩ := bd H
    refine J_cS (as := [.int v1]) YX12_slug0 1 dX12_pots_35 moX12_slug0 msX12_slug0 mlX12_342 (okX12_slug0 (d := d) e20) rfl rfl [.ref (gP h v0 1)] rfl rfl (st2 := [.int t21, .ref (gP h v0 1)]) rfl ?_
    refine J_bipush (6 : Int32) dX12_pots_38 kb_6 ?_
    refine J_iadd dX12_pots_40 ?_
    refine J_iconst (-1 : Int32) dX12_pots_41 kc_m1 ?_
    obtain ⟨g22, H⟩ := gd H
    obtain ⟨h23, e24, H⟩ := lt_el H
    refine J_sI dX12_pots_42 (kq c17 g5) (lq c18 g22) e24 ?_
    have c25 := (ekI e24).trans c17
    have c26 := (elI e24).trans c18
    have c27 := (epI e24).trans c19
    cases H
    exact J_ret dX12_pots_43 rfl
  · replace H := br1 q1 H
    cases H
    exact J_ret dX12_pots_5 rfl
theorem okX12_pots {d : Nat} {h : Hp} {v0 : Nat} {v1 : Int32} {h9 : Hp} (H : MX12_pots h v0 v1 = some h9) : CT (d + 1) YX12_pots [.ref v0, .int v1] h oV h9 := CT_of (by decide +kernel) (Nat.le_of_ble_eq_true rfl) (eX12_pots H)
noncomputable def MX12_puts (h : Hp) (v0 : Nat) (v1 : Int32) (v2 : Int32) (v3 : Int32) : Option Hp :=
  gg (β := Hp) (kd h v0 = 11) <|
  Option.bind (α := Int32) (β := Hp) (MX12_slug0 h v1) fun (t3 : Int32) =>
  gg (β := Hp) (kd h (gP h v0 1) = 20) <|
  gg (β := Hp) (inB (t3 + (5 : Int32)) (ln h (gP h v0 1)) = true) <|
  lt (α := Hp) (β := Option Hp) (sI h (gP h v0 1) (t3 + (5 : Int32)).toNatClampNeg v3) fun (h6 : Hp) =>
  Option.bind (α := Int32) (β := Hp) (MX12_slug0 h6 v1) fun (t12 : Int32) =>
  gg (β := Hp) (inB (t12 + (6 : Int32)) (ln h (gP h v0 1)) = true) <|
  lt (α := Hp) (β := Option Hp) (sI h6 (gP h v0 1) (t12 + (6 : Int32)).toNatClampNeg v2) fun (h14 : Hp) =>
  Option.bind (α := Int32) (β := Hp) (MX12_part0 h14 v2) fun (t20 : Int32) =>
  gg (β := Hp) (inB ((t20 + (45 : Int32)) + v3) (ln h (gP h v0 1)) = true) <|
  lt (α := Hp) (β := Option Hp) (sI h14 (gP h v0 1) ((t20 + (45 : Int32)) + v3).toNatClampNeg (v1 + (1 : Int32))) fun (h22 : Hp) =>
  some h22
set_option maxRecDepth 100000 in
set_option maxHeartbeats 8000000 in
theorem eX12_puts {d : Nat} {h : Hp} {v0 : Nat} {v1 : Int32} {v2 : Int32} {v3 : Int32} {h9 : Hp} (H : MX12_puts h v0 v1 v2 v3 = some h9) : J (d + 1) YX12_puts 0 [.ref v0, .int v1, .int v2, .int v3] [] h oV h9 := by
  unfold MX12_puts at H
  refine J_aload_n 0 dX12_puts_0 rfl rfl ?_
  obtain ⟨g1, H⟩ := gd H
  refine J_gP 11 1 dX12_puts_1 g1 flX12_8 rfl rfl ?_
  refine J_iload_n 1 dX12_puts_4 rfl rfl ?_
  obtain ⟨t3, e2, H⟩ := bd H
  refine J_cS (as := [.int v1]) YX12_slug0 1 dX12_puts_5 moX12_slug0 msX12_slug0 mlX12_342 (okX12_slug0 (d := d) e2) rfl rfl [.ref (gP h v0 1)] rfl rfl (st2 := [.int t3, .ref (gP h v0 1)]) rfl ?_
  refine J_iconst (5 : Int32) dX12_puts_8 kc_5 ?_
  refine J_iadd dX12_puts_9 ?_
  refine J_iload_n 3 dX12_puts_10 rfl rfl ?_
  obtain ⟨g4, H⟩ := gd H
  obtain ⟨g5, H⟩ := gd H
  obtain ⟨h6, e7, H⟩ := lt_el H
  refine J_sI dX12_puts_11 g4 (inB_ok g5) e7 ?_
  have c8 := ekI e7
  have c9 := elI e7
  have c10 := epI e7
  refine J_aload_n 0 dX12_puts_12 rfl rfl ?_
  refine J_gP 11 1 dX12_puts_13 (kq c8 g1) flX12_8 rfl (congrFun (congrFun c10 v0) 1) ?_
  refine J_iload_n 1 dX12_puts_16 rfl rfl ?_
  obtain ⟨t12, e11, H⟩ := bd H
  refine J_cS (as := [.int v1]) YX12_slug0 1 dX12_puts_17 moX12_slug0 msX12_slug0 mlX12_342 (okX12_slug0 (d := d) e11) rfl rfl [.ref (gP h v0 1)] rfl rfl (st2 := [.int t12, .ref (gP h v0 1)]) rfl ?_
  refine J_bipush (6 : Int32) dX12_puts_20 kb_6 ?_
  refine J_iadd dX12_puts_22 ?_
  refine J_iload_n 2 dX12_puts_23 rfl rfl ?_
  obtain ⟨g13, H⟩ := gd H
  obtain ⟨h14, e15, H⟩ := lt_el H
  refine J_sI dX12_puts_24 (kq c8 g4) (lq c9 g13) e15 ?_
  have c16 := (ekI e15).trans c8
  have c17 := (elI e15).trans c9
  have c18 := (epI e15).trans c10
  refine J_aload_n 0 dX12_puts_25 rfl rfl ?_
  refine J_gP 11 1 dX12_puts_26 (kq c16 g1) flX12_8 rfl (congrFun (congrFun c18 v0) 1) ?_
  refine J_iload_n 2 dX12_puts_29 rfl rfl ?_
  obtain ⟨t20, e19, H⟩ := bd H
  refine J_cS (as := [.int v2]) YX12_part0 1 dX12_puts_30 moX12_part0 msX12_part0 mlX12_164 (okX12_part0 (d := d) e19) rfl rfl [.ref (gP h v0 1)] rfl rfl (st2 := [.int t20, .ref (gP h v0 1)]) rfl ?_
  refine J_bipush (45 : Int32) dX12_puts_33 kb_45 ?_
  refine J_iadd dX12_puts_35 ?_
  refine J_iload_n 3 dX12_puts_36 rfl rfl ?_
  refine J_iadd dX12_puts_37 ?_
  refine J_iload_n 1 dX12_puts_38 rfl rfl ?_
  refine J_iconst (1 : Int32) dX12_puts_39 kc_1 ?_
  refine J_iadd dX12_puts_40 ?_
  obtain ⟨g21, H⟩ := gd H
  obtain ⟨h22, e23, H⟩ := lt_el H
  refine J_sI dX12_puts_41 (kq c16 g4) (lq c17 g21) e23 ?_
  have c24 := (ekI e23).trans c16
  have c25 := (elI e23).trans c17
  have c26 := (epI e23).trans c18
  cases H
  exact J_ret dX12_puts_42 rfl
theorem okX12_puts {d : Nat} {h : Hp} {v0 : Nat} {v1 : Int32} {v2 : Int32} {v3 : Int32} {h9 : Hp} (H : MX12_puts h v0 v1 v2 v3 = some h9) : CT (d + 1) YX12_puts [.ref v0, .int v1, .int v2, .int v3] h oV h9 := CT_of (by decide +kernel) (Nat.le_of_ble_eq_true rfl) (eX12_puts H)
noncomputable def MX12_casts_140 (h : Hp) (v0 : Nat) (v1 : Int32) (v2 : Int32) (v3 : Int32) (v4 : Int32) (v5 : Int32) (v6 : Int32) (v7 : Int32) (v8 : Int32) : Option Hp :=
  gg (β := Hp) (kd h v0 = 11) <|
  gg (β := Hp) (kd h (gP h v0 1) = 20) <|
  gg (β := Hp) (inB (v6 + (3 : Int32)) (ln h (gP h v0 1)) = true) <|
  lt (α := Hp) (β := Option Hp) (sI h (gP h v0 1) (v6 + (3 : Int32)).toNatClampNeg v8) fun (h32 : Hp) =>
  gg (β := Hp) (inB (v6 + (9 : Int32)) (ln h (gP h v0 1)) = true) <|
  lt (α := Hp) (β := Option Hp) (sI h32 (gP h v0 1) (v6 + (9 : Int32)).toNatClampNeg (gI h32 v0 35)) fun (h38 : Hp) =>
  gg (β := Hp) (inB (v6 + (4 : Int32)) (ln h (gP h v0 1)) = true) <|
  lt (α := Hp) (β := Option Hp) (sI h38 (gP h v0 1) (v6 + (4 : Int32)).toNatClampNeg (0 : Int32)) fun (h44 : Hp) =>
  gg (β := Hp) (inB (v6 + (7 : Int32)) (ln h (gP h v0 1)) = true) <|
  lt (α := Hp) (β := Option Hp) (sI h44 (gP h v0 1) (v6 + (7 : Int32)).toNatClampNeg v4) fun (h50 : Hp) =>
  gg (β := Hp) (inB (v6 + (8 : Int32)) (ln h (gP h v0 1)) = true) <|
  lt (α := Hp) (β := Option Hp) (sI h50 (gP h v0 1) (v6 + (8 : Int32)).toNatClampNeg v3) fun (h56 : Hp) =>
  gg (β := Hp) (inB (v6 + (10 : Int32)) (ln h (gP h v0 1)) = true) <|
  lt (α := Hp) (β := Option Hp) (sI h56 (gP h v0 1) (v6 + (10 : Int32)).toNatClampNeg (0 : Int32)) fun (h62 : Hp) =>
  gg (β := Hp) (inB ((v6 + (10 : Int32)) + (1 : Int32)) (ln h (gP h v0 1)) = true) <|
  lt (α := Hp) (β := Option Hp) (sI h62 (gP h v0 1) ((v6 + (10 : Int32)) + (1 : Int32)).toNatClampNeg (0 : Int32)) fun (h68 : Hp) =>
  gg (β := Hp) (inB ((v7 + (45 : Int32)) + v3) (ln h (gP h v0 1)) = true) <|
  Option.bind (α := Hp) (β := Hp) (MX12_pots h68 v0 ((gI h68 (gP h v0 1) ((v7 + (45 : Int32)) + v3).toNatClampNeg) - (1 : Int32))) fun (h75 : Hp) =>
  gg (β := Hp) (kd h75 v0 = 11) <|
  Option.bind (α := Hp) (β := Hp) (MX12_puts h75 v0 v5 v2 v3) fun (h78 : Hp) =>
  gg (β := Hp) (kd h78 v0 = 11) <|
  gg (β := Hp) (kd h78 (gP h78 v0 1) = 20) <|
  gg (β := Hp) (inB (4 : Int32) (ln h78 (gP h78 v0 1)) = true) <|
  lt (α := Hp) (β := Option Hp) (sI h78 (gP h78 v0 1) (4 : Int32).toNatClampNeg ((gI h78 (gP h78 v0 1) (4 : Int32).toNatClampNeg) + (1 : Int32))) fun (h82 : Hp) =>
  Option.bind (α := Int32) (β := Hp) (MX12_machine0 h82 v1) fun (t88 : Int32) =>
  gg (β := Hp) (inB (t88 + (30 : Int32)) (ln h78 (gP h78 v0 1)) = true) <|
  lt (α := Hp) (β := Option Hp) (sI h82 (gP h78 v0 1) (t88 + (30 : Int32)).toNatClampNeg ((gI h82 (gP h78 v0 1) (t88 + (30 : Int32)).toNatClampNeg) + (1 : Int32))) fun (h90 : Hp) =>
  gg (β := Hp) (inB (7 : Int32) (ln h78 (gP h78 v0 1)) = true) <|
  gg (β := Hp) (inB ((((337180 : Int32) + ((5 : Int32) * ((gI h90 (gP h78 v0 1) (7 : Int32).toNatClampNeg) - (1 : Int32)))) + (1 : Int32)) + v1) (ln h78 (gP h78 v0 1)) = true) <|
  lt (α := Hp) (β := Option Hp) (sI h90 (gP h78 v0 1) ((((337180 : Int32) + ((5 : Int32) * ((gI h90 (gP h78 v0 1) (7 : Int32).toNatClampNeg) - (1 : Int32)))) + (1 : Int32)) + v1).toNatClampNeg v5) fun (h97 : Hp) =>
  some h97
set_option maxRecDepth 100000 in
set_option maxHeartbeats 8000000 in
theorem kX12_casts_140 {d : Nat} {h : Hp} {v0 : Nat} {v1 : Int32} {v2 : Int32} {v3 : Int32} {v4 : Int32} {v5 : Int32} {v6 : Int32} {v7 : Int32} {v8 : Int32} {h9 : Hp} (H : MX12_casts_140 h v0 v1 v2 v3 v4 v5 v6 v7 v8 = some h9) : J (d + 2) YX12_casts 140 [.ref v0, .int v1, .int v2, .int v3, .int v4, .int v5, .int v6, .int v7, .int v8, Value.null] [] h oV h9 := by
  unfold MX12_casts_140 at H
  refine J_aload_n 0 dX12_casts_140 rfl rfl ?_
  obtain ⟨g29, H⟩ := gd H
  refine J_gP 11 1 dX12_casts_141 g29 flX12_8 rfl rfl ?_
  refine J_iload dX12_casts_144 rfl ?_
  refine J_iconst (3 : Int32) dX12_casts_146 kc_3 ?_
  refine J_iadd dX12_casts_147 ?_
  refine J_iload dX12_casts_148 rfl ?_
  obtain ⟨g30, H⟩ := gd H
  obtain ⟨g31, H⟩ := gd H
  obtain ⟨h32, e33, H⟩ := lt_el H
  refine J_sI dX12_casts_150 g30 (inB_ok g31) e33 ?_
  have c34 := ekI e33
  have c35 := elI e33
  have c36 := epI e33
  refine J_aload_n 0 dX12_casts_151 rfl rfl ?_
  refine J_gP 11 1 dX12_casts_152 (kq c34 g29) flX12_8 rfl (congrFun (congrFun c36 v0) 1) ?_
  refine J_iload dX12_casts_155 rfl ?_
  refine J_bipush (9 : Int32) dX12_casts_157 kb_9 ?_
  refine J_iadd dX12_casts_159 ?_
  refine J_aload_n 0 dX12_casts_160 rfl rfl ?_
  refine J_getI 11 35 dX12_casts_161 (kq c34 g29) flX12_351 rfl ?_
  obtain ⟨g37, H⟩ := gd H
  obtain ⟨h38, e39, H⟩ := lt_el H
  refine J_sI dX12_casts_164 (kq c34 g30) (lq c35 g37) e39 ?_
  have c40 := (ekI e39).trans c34
  have c41 := (elI e39).trans c35
  have c42 := (epI e39).trans c36
  refine J_aload_n 0 dX12_casts_165 rfl rfl ?_
  refine J_gP 11 1 dX12_casts_166 (kq c40 g29) flX12_8 rfl (congrFun (congrFun c42 v0) 1) ?_
  refine J_iload dX12_casts_169 rfl ?_
  refine J_iconst (4 : Int32) dX12_casts_171 kc_4 ?_
  refine J_iadd dX12_casts_172 ?_
  refine J_iconst (0 : Int32) dX12_casts_173 kc_0 ?_
  obtain ⟨g43, H⟩ := gd H
  obtain ⟨h44, e45, H⟩ := lt_el H
  refine J_sI dX12_casts_174 (kq c40 g30) (lq c41 g43) e45 ?_
  have c46 := (ekI e45).trans c40
  have c47 := (elI e45).trans c41
  have c48 := (epI e45).trans c42
  refine J_aload_n 0 dX12_casts_175 rfl rfl ?_
  refine J_gP 11 1 dX12_casts_176 (kq c46 g29) flX12_8 rfl (congrFun (congrFun c48 v0) 1) ?_
  refine J_iload dX12_casts_179 rfl ?_
  refine J_bipush (7 : Int32) dX12_casts_181 kb_7 ?_
  refine J_iadd dX12_casts_183 ?_
  refine J_iload dX12_casts_184 rfl ?_
  obtain ⟨g49, H⟩ := gd H
  obtain ⟨h50, e51, H⟩ := lt_el H
  refine J_sI dX12_casts_186 (kq c46 g30) (lq c47 g49) e51 ?_
  have c52 := (ekI e51).trans c46
  have c53 := (elI e51).trans c47
  have c54 := (epI e51).trans c48
  refine J_aload_n 0 dX12_casts_187 rfl rfl ?_
  refine J_gP 11 1 dX12_casts_188 (kq c52 g29) flX12_8 rfl (congrFun (congrFun c54 v0) 1) ?_
  refine J_iload dX12_casts_191 rfl ?_
  refine J_bipush (8 : Int32) dX12_casts_193 kb_8 ?_
  refine J_iadd dX12_casts_195 ?_
  refine J_iload_n 3 dX12_casts_196 rfl rfl ?_
  obtain ⟨g55, H⟩ := gd H
  obtain ⟨h56, e57, H⟩ := lt_el H
  refine J_sI dX12_casts_197 (kq c52 g30) (lq c53 g55) e57 ?_
  have c58 := (ekI e57).trans c52
  have c59 := (elI e57).trans c53
  have c60 := (epI e57).trans c54
  refine J_aload_n 0 dX12_casts_198 rfl rfl ?_
  refine J_gP 11 1 dX12_casts_199 (kq c58 g29) flX12_8 rfl (congrFun (congrFun c60 v0) 1) ?_
  refine J_iload dX12_casts_202 rfl ?_
  refine J_bipush (10 : Int32) dX12_casts_204 kb_10 ?_
  refine J_iadd dX12_casts_206 ?_
  refine J_iconst (0 : Int32) dX12_casts_207 kc_0 ?_
  obtain ⟨g61, H⟩ := gd H
  obtain ⟨h62, e63, H⟩ := lt_el H
  refine J_sI dX12_casts_208 (kq c58 g30) (lq c59 g61) e63 ?_
  have c64 := (ekI e63).trans c58
  have c65 := (elI e63).trans c59
  have c66 := (epI e63).trans c60
  refine J_aload_n 0 dX12_casts_209 rfl rfl ?_
  refine J_gP 11 1 dX12_casts_210 (kq c64 g29) flX12_8 rfl (congrFun (congrFun c66 v0) 1) ?_
  refine J_iload dX12_casts_213 rfl ?_
  refine J_bipush (10 : Int32) dX12_casts_215 kb_10 ?_
  refine J_iadd dX12_casts_217 ?_
  refine J_iconst (1 : Int32) dX12_casts_218 kc_1 ?_
  refine J_iadd dX12_casts_219 ?_
  refine J_iconst (0 : Int32) dX12_casts_220 kc_0 ?_
  obtain ⟨g67, H⟩ := gd H
  obtain ⟨h68, e69, H⟩ := lt_el H
  refine J_sI dX12_casts_221 (kq c64 g30) (lq c65 g67) e69 ?_
  have c70 := (ekI e69).trans c64
  have c71 := (elI e69).trans c65
  have c72 := (epI e69).trans c66
  refine J_aload_n 0 dX12_casts_222 rfl rfl ?_
  refine J_aload_n 0 dX12_casts_223 rfl rfl ?_
  refine J_gP 11 1 dX12_casts_224 (kq c70 g29) flX12_8 rfl (congrFun (congrFun c72 v0) 1) ?_
  refine J_iload dX12_casts_227 rfl ?_
  refine J_bipush (45 : Int32) dX12_casts_229 kb_45 ?_
  refine J_iadd dX12_casts_231 ?_
  refine J_iload_n 3 dX12_casts_232 rfl rfl ?_
  refine J_iadd dX12_casts_233 ?_
  obtain ⟨g73, H⟩ := gd H
  refine J_iald dX12_casts_234 (kq c70 g30) (lq c71 g73) ?_
  refine J_iconst (1 : Int32) dX12_casts_235 kc_1 ?_
  refine J_isub dX12_casts_236 ?_
  obtain ⟨h75, e74, H⟩ := bd H
  refine J_cV (as := [.int ((gI h68 (gP h v0 1) ((v7 + (45 : Int32)) + v3).toNatClampNeg) - (1 : Int32))]) 11 YX12_pots 1 dX12_casts_237 moX12_pots mvX12_pots mlX12_383 (kq c70 g29) rfl rfl (okX12_pots (d := d) e74) rfl rfl [] rfl rfl (st2 := []) rfl ?_
  refine J_aload_n 0 dX12_casts_240 rfl rfl ?_
  refine J_iload dX12_casts_241 rfl ?_
  refine J_iload_n 2 dX12_casts_243 rfl rfl ?_
  refine J_iload_n 3 dX12_casts_244 rfl rfl ?_
  obtain ⟨g77, H⟩ := gd H
  obtain ⟨h78, e76, H⟩ := bd H
  refine J_cV (as := [.int v5, .int v2, .int v3]) 11 YX12_puts 3 dX12_casts_245 moX12_puts mvX12_puts mlX12_386 g77 rfl rfl (okX12_puts (d := d) e76) rfl rfl [] rfl rfl (st2 := []) rfl ?_
  refine J_aload_n 0 dX12_casts_248 rfl rfl ?_
  obtain ⟨g79, H⟩ := gd H
  refine J_gP 11 1 dX12_casts_249 g79 flX12_8 rfl rfl ?_
  refine J_iconst (4 : Int32) dX12_casts_252 kc_4 ?_
  refine J_dup2 dX12_casts_253 rfl rfl ?_
  obtain ⟨g80, H⟩ := gd H
  obtain ⟨g81, H⟩ := gd H
  refine J_iald dX12_casts_254 g80 (inB_ok g81) ?_
  refine J_iconst (1 : Int32) dX12_casts_255 kc_1 ?_
  refine J_iadd dX12_casts_256 ?_
  obtain ⟨h82, e83, H⟩ := lt_el H
  refine J_sI dX12_casts_257 g80 (inB_ok g81) e83 ?_
  have c84 := ekI e83
  have c85 := elI e83
  have c86 := epI e83
  refine J_aload_n 0 dX12_casts_258 rfl rfl ?_
  refine J_gP 11 1 dX12_casts_259 (kq c84 g79) flX12_8 rfl (congrFun (congrFun c86 v0) 1) ?_
  refine J_iload_n 1 dX12_casts_262 rfl rfl ?_
  obtain ⟨t88, e87, H⟩ := bd H
  refine J_cS (as := [.int v1]) YX12_machine0 1 dX12_casts_263 moX12_machine0 msX12_machine0 mlX12_360 (okX12_machine0 (d := d + 1) e87) rfl rfl [.ref (gP h78 v0 1)] rfl rfl (st2 := [.int t88, .ref (gP h78 v0 1)]) rfl ?_
  refine J_bipush (30 : Int32) dX12_casts_266 kb_30 ?_
  refine J_iadd dX12_casts_268 ?_
  refine J_dup2 dX12_casts_269 rfl rfl ?_
  obtain ⟨g89, H⟩ := gd H
  refine J_iald dX12_casts_270 (kq c84 g80) (lq c85 g89) ?_
  refine J_iconst (1 : Int32) dX12_casts_271 kc_1 ?_
  refine J_iadd dX12_casts_272 ?_
  obtain ⟨h90, e91, H⟩ := lt_el H
  refine J_sI dX12_casts_273 (kq c84 g80) (lq c85 g89) e91 ?_
  have c92 := (ekI e91).trans c84
  have c93 := (elI e91).trans c85
  have c94 := (epI e91).trans c86
  refine J_aload_n 0 dX12_casts_274 rfl rfl ?_
  refine J_gP 11 1 dX12_casts_275 (kq c92 g79) flX12_8 rfl (congrFun (congrFun c94 v0) 1) ?_
  refine J_ldcw (337180 : Int32) coX12_390 dX12_casts_278 ?_
  refine J_iconst (5 : Int32) dX12_casts_281 kc_5 ?_
  refine J_aload_n 0 dX12_casts_282 rfl rfl ?_
  refine J_gP 11 1 dX12_casts_283 (kq c92 g79) flX12_8 rfl (congrFun (congrFun c94 v0) 1) ?_
  refine J_bipush (7 : Int32) dX12_casts_286 kb_7 ?_
  obtain ⟨g95, H⟩ := gd H
  refine J_iald dX12_casts_288 (kq c92 g80) (lq c93 g95) ?_
  refine J_iconst (1 : Int32) dX12_casts_289 kc_1 ?_
  refine J_isub dX12_casts_290 ?_
  refine J_imul dX12_casts_291 ?_
  refine J_iadd dX12_casts_292 ?_
  refine J_iconst (1 : Int32) dX12_casts_293 kc_1 ?_
  refine J_iadd dX12_casts_294 ?_
  refine J_iload_n 1 dX12_casts_295 rfl rfl ?_
  refine J_iadd dX12_casts_296 ?_
  refine J_iload dX12_casts_297 rfl ?_
  obtain ⟨g96, H⟩ := gd H
  obtain ⟨h97, e98, H⟩ := lt_el H
  refine J_sI dX12_casts_299 (kq c92 g80) (lq c93 g96) e98 ?_
  have c99 := (ekI e98).trans c92
  have c100 := (elI e98).trans c93
  have c101 := (epI e98).trans c94
  cases H
  exact J_ret dX12_casts_300 rfl
noncomputable def MX12_casts_131 (h : Hp) (v0 : Nat) (v1 : Int32) (v2 : Int32) (v3 : Int32) (v4 : Int32) (v5 : Int32) (v6 : Int32) (v7 : Int32) (v9 : Int32) (s0 : Int32) (s1 : Int32) : Option ((Int32 × Int32 × Hp) ⊕ Hp) :=
  some (.inl ((s0 + s1), (v9 + (1 : Int32)), h))
set_option maxRecDepth 100000 in
set_option maxHeartbeats 8000000 in
theorem kX12_casts_131 {d : Nat} {h : Hp} {v0 : Nat} {v1 : Int32} {v2 : Int32} {v3 : Int32} {v4 : Int32} {v5 : Int32} {v6 : Int32} {v7 : Int32} {v9 : Int32} {s0 : Int32} {s1 : Int32} {h9 : Hp} {x : ((Int32 × Int32 × Hp) ⊕ Hp)} (H : MX12_casts_131 h v0 v1 v2 v3 v4 v5 v6 v7 v9 s0 s1 = some x) (hb0 : ∀ s : Int32 × Int32 × Hp, x = .inl s → J (d + 2) YX12_casts 62 [.ref v0, .int v1, .int v2, .int v3, .int v4, .int v5, .int v6, .int v7, .int s.1, .int s.2.1] [] s.2.2 oV h9) (hx : ∀ z : Hp, x = .inr (z) → z = h9) : J (d + 2) YX12_casts 131 [.ref v0, .int v1, .int v2, .int v3, .int v4, .int v5, .int v6, .int v7, Value.null, .int v9] [.int s1, .int s0] h oV h9 := by
  unfold MX12_casts_131 at H
  refine J_iadd dX12_casts_131 ?_
  refine J_istore dX12_casts_132 (by decide) (ls' := [.ref v0, .int v1, .int v2, .int v3, .int v4, .int v5, .int v6, .int v7, .int (s0 + s1), .int v9]) rfl ?_
  refine J_iinc (v9 + (1 : Int32)) dX12_casts_134 rfl (congrArg (HAdd.hAdd v9) kc_1) (by decide) (ls' := [.ref v0, .int v1, .int v2, .int v3, .int v4, .int v5, .int v6, .int v7, .int (s0 + s1), .int (v9 + (1 : Int32))]) rfl ?_
  refine J_goto 62 dX12_casts_137 rfl ?_
  cases H
  exact J_dr (hb0 _ rfl) ⟨rfl, ⟨rfl, ⟨rfl, ⟨rfl, ⟨rfl, ⟨rfl, ⟨rfl, ⟨rfl, ⟨rfl, ⟨rfl, trivial⟩⟩⟩⟩⟩⟩⟩⟩⟩⟩
noncomputable def BX12_casts_62 (h : Hp) (v0 : Nat) (v1 : Int32) (v2 : Int32) (v3 : Int32) (v4 : Int32) (v5 : Int32) (v6 : Int32) (v7 : Int32) (v8 : Int32) (v9 : Int32) : Option ((Int32 × Int32 × Hp) ⊕ Hp) :=
  gg (β := ((Int32 × Int32 × Hp) ⊕ Hp)) (kd h v0 = 11) <|
  if (gI h v0 35) ≤ v9 then
    up1 (MX12_casts_140 h v0 v1 v2 v3 v4 v5 v6 v7 v8)
  else
    gg (β := ((Int32 × Int32 × Hp) ⊕ Hp)) (kd h (gP h v0 34) = 20) <|
    gg (β := ((Int32 × Int32 × Hp) ⊕ Hp)) (inB v9 (ln h (gP h v0 34)) = true) <|
    gg (β := ((Int32 × Int32 × Hp) ⊕ Hp)) (kd h (gP h v0 1) = 20) <|
    gg (β := ((Int32 × Int32 × Hp) ⊕ Hp)) (inB ((v6 + (12 : Int32)) + v9) (ln h (gP h v0 1)) = true) <|
    lt (α := Hp) (β := Option ((Int32 × Int32 × Hp) ⊕ Hp)) (sI h (gP h v0 1) ((v6 + (12 : Int32)) + v9).toNatClampNeg (gI h (gP h v0 34) v9.toNatClampNeg)) fun (h106 : Hp) =>
    gg (β := ((Int32 × Int32 × Hp) ⊕ Hp)) (inB ((v6 + (432 : Int32)) + v9) (ln h (gP h v0 1)) = true) <|
    lt (α := Hp) (β := Option ((Int32 × Int32 × Hp) ⊕ Hp)) (sI h106 (gP h v0 1) ((v6 + (432 : Int32)) + v9).toNatClampNeg (gI h106 (gP h v0 34) v9.toNatClampNeg)) fun (h112 : Hp) =>
    if (gI h112 (gP h v0 34) v9.toNatClampNeg) = (32 : Int32) then
      MX12_casts_131 h112 v0 v1 v2 v3 v4 v5 v6 v7 v9 v8 (0 : Int32)
    else
      MX12_casts_131 h112 v0 v1 v2 v3 v4 v5 v6 v7 v9 v8 (1 : Int32)
set_option maxRecDepth 100000 in
set_option maxHeartbeats 8000000 in
theorem bX12_casts_62 {d : Nat} {h : Hp} {v0 : Nat} {v1 : Int32} {v2 : Int32} {v3 : Int32} {v4 : Int32} {v5 : Int32} {v6 : Int32} {v7 : Int32} {v8 : Int32} {v9 : Int32} {h9 : Hp} {x : ((Int32 × Int32 × Hp) ⊕ Hp)} (H : BX12_casts_62 h v0 v1 v2 v3 v4 v5 v6 v7 v8 v9 = some x) (hb0 : ∀ s : Int32 × Int32 × Hp, x = .inl s → J (d + 2) YX12_casts 62 [.ref v0, .int v1, .int v2, .int v3, .int v4, .int v5, .int v6, .int v7, .int s.1, .int s.2.1] [] s.2.2 oV h9) (hx : ∀ z : Hp, x = .inr (z) → z = h9) : J (d + 2) YX12_casts 62 [.ref v0, .int v1, .int v2, .int v3, .int v4, .int v5, .int v6, .int v7, .int v8, .int v9] [] h oV h9 := by
  unfold BX12_casts_62 at H
  refine J_iload dX12_casts_62 rfl ?_
  refine J_aload_n 0 dX12_casts_64 rfl rfl ?_
  obtain ⟨g27, H⟩ := gd H
  refine J_getI 11 35 dX12_casts_65 g27 flX12_351 rfl ?_
  refine J_icmp_ge 140 dX12_casts_68 rfl (fun q28 => ?_) (fun q28 => ?_)
  · replace H := br1 q28 H
    obtain ⟨y0, H90, rfl⟩ := up1_el H
    replace H := H90
    obtain rfl := hx _ rfl
    exact J_dr (kX12_casts_140 H ) ⟨rfl, ⟨rfl, ⟨rfl, ⟨rfl, ⟨rfl, ⟨rfl, ⟨rfl, ⟨rfl, ⟨rfl, trivial⟩⟩⟩⟩⟩⟩⟩⟩⟩
  · replace H := br0 q28 H
    refine J_aload_n 0 dX12_casts_71 rfl rfl ?_
    refine J_gP 11 1 dX12_casts_72 g27 flX12_8 rfl rfl ?_
    refine J_iload dX12_casts_75 rfl ?_
    refine J_bipush (12 : Int32) dX12_casts_77 kb_12 ?_
    refine J_iadd dX12_casts_79 ?_
    refine J_iload dX12_casts_80 rfl ?_
    refine J_iadd dX12_casts_82 ?_
    refine J_aload_n 0 dX12_casts_83 rfl rfl ?_
    refine J_gP 11 34 dX12_casts_84 g27 flX12_64 rfl rfl ?_
    refine J_iload dX12_casts_87 rfl ?_
    obtain ⟨g102, H⟩ := gd H
    obtain ⟨g103, H⟩ := gd H
    refine J_iald dX12_casts_89 g102 (inB_ok g103) ?_
    obtain ⟨g104, H⟩ := gd H
    obtain ⟨g105, H⟩ := gd H
    obtain ⟨h106, e107, H⟩ := lt_el H
    refine J_sI dX12_casts_90 g104 (inB_ok g105) e107 ?_
    have c108 := ekI e107
    have c109 := elI e107
    have c110 := epI e107
    refine J_aload_n 0 dX12_casts_91 rfl rfl ?_
    refine J_gP 11 1 dX12_casts_92 (kq c108 g27) flX12_8 rfl (congrFun (congrFun c110 v0) 1) ?_
    refine J_iload dX12_casts_95 rfl ?_
    refine J_sipush (432 : Int32) dX12_casts_97 ks_432 ?_
    refine J_iadd dX12_casts_100 ?_
    refine J_iload dX12_casts_101 rfl ?_
    refine J_iadd dX12_casts_103 ?_
    refine J_aload_n 0 dX12_casts_104 rfl rfl ?_
    refine J_gP 11 34 dX12_casts_105 (kq c108 g27) flX12_64 rfl (congrFun (congrFun c110 v0) 34) ?_
    refine J_iload dX12_casts_108 rfl ?_
    refine J_iald dX12_casts_110 (kq c108 g102) (lq c109 g103) ?_
    obtain ⟨g111, H⟩ := gd H
    obtain ⟨h112, e113, H⟩ := lt_el H
    refine J_sI dX12_casts_111 (kq c108 g104) (lq c109 g111) e113 ?_
    have c114 := (ekI e113).trans c108
    have c115 := (elI e113).trans c109
    have c116 := (epI e113).trans c110
    refine J_iload dX12_casts_112 rfl ?_
    refine J_aload_n 0 dX12_casts_114 rfl rfl ?_
    refine J_gP 11 34 dX12_casts_115 (kq c114 g27) flX12_64 rfl (congrFun (congrFun c116 v0) 34) ?_
    refine J_iload dX12_casts_118 rfl ?_
    refine J_iald dX12_casts_120 (kq c114 g102) (lq c115 g103) ?_
    refine J_bipush (32 : Int32) dX12_casts_121 kb_32 ?_
    refine J_icmp_ne 130 dX12_casts_123 rfl (fun q117 => ?_) (fun q117 => ?_)
    · replace H := br0 q117 H
      refine J_iconst (1 : Int32) dX12_casts_130 kc_1 ?_
      exact J_dr (kX12_casts_131 H hb0 hx) ⟨rfl, ⟨rfl, ⟨rfl, ⟨rfl, ⟨rfl, ⟨rfl, ⟨rfl, ⟨rfl, ⟨rfl, trivial⟩⟩⟩⟩⟩⟩⟩⟩⟩
    · replace H := br1 q117 H
      refine J_iconst (0 : Int32) dX12_casts_126 kc_0 ?_
      refine J_goto 131 dX12_casts_127 rfl ?_
      exact J_dr (kX12_casts_131 H hb0 hx) ⟨rfl, ⟨rfl, ⟨rfl, ⟨rfl, ⟨rfl, ⟨rfl, ⟨rfl, ⟨rfl, ⟨rfl, trivial⟩⟩⟩⟩⟩⟩⟩⟩⟩
noncomputable def MX12_casts_62 (h : Hp) (v0 : Nat) (v1 : Int32) (v2 : Int32) (v3 : Int32) (v4 : Int32) (v5 : Int32) (v6 : Int32) (v7 : Int32) (v8 : Int32) (v9 : Int32) : Option Hp := it (fun q : Int32 × Int32 × Hp => BX12_casts_62 q.2.2 v0 v1 v2 v3 v4 v5 v6 v7 q.1 q.2.1) (v8, v9, h)
set_option maxRecDepth 100000 in
set_option maxHeartbeats 8000000 in
theorem kX12_casts_62 {d : Nat} {h : Hp} {v0 : Nat} {v1 : Int32} {v2 : Int32} {v3 : Int32} {v4 : Int32} {v5 : Int32} {v6 : Int32} {v7 : Int32} {v8 : Int32} {v9 : Int32} {h9 : Hp} (H : MX12_casts_62 h v0 v1 v2 v3 v4 v5 v6 v7 v8 v9 = some h9) : J (d + 2) YX12_casts 62 [.ref v0, .int v1, .int v2, .int v3, .int v4, .int v5, .int v6, .int v7, .int v8, .int v9] [] h oV h9 := by
  unfold MX12_casts_62 at H
  refine it_J (G := (fun q : Int32 × Int32 × Hp => J (d + 2) YX12_casts 62 [.ref v0, .int v1, .int v2, .int v3, .int v4, .int v5, .int v6, .int v7, .int q.1, .int q.2.1] [] q.2.2 oV h9)) (Q := (fun y : Hp => y = h9)) (fun q x Hq hm => ?_) H rfl
  exact bX12_casts_62 Hq (fun s hs => by subst hs; exact hm) (fun z hz => by subst hz; exact hm)
noncomputable def MX12_casts (h : Hp) (v0 : Nat) (v1 : Int32) (v2 : Int32) (v3 : Int32) (v4 : Int32) : Option Hp :=
  gg (β := Hp) (kd h v0 = 11) <|
  gg (β := Hp) (kd h (gP h v0 1) = 20) <|
  gg (β := Hp) (inB (4 : Int32) (ln h (gP h v0 1)) = true) <|
  Option.bind (α := Int32) (β := Hp) (MX12_slug0 h (gI h (gP h v0 1) (4 : Int32).toNatClampNeg)) fun (t5 : Int32) =>
  Option.bind (α := Int32) (β := Hp) (MX12_part0 h v2) fun (t7 : Int32) =>
  gg (β := Hp) (inB (t5 + (0 : Int32)) (ln h (gP h v0 1)) = true) <|
  lt (α := Hp) (β := Option Hp) (sI h (gP h v0 1) (t5 + (0 : Int32)).toNatClampNeg v2) fun (h9 : Hp) =>
  gg (β := Hp) (inB (t5 + (1 : Int32)) (ln h (gP h v0 1)) = true) <|
  lt (α := Hp) (β := Option Hp) (sI h9 (gP h v0 1) (t5 + (1 : Int32)).toNatClampNeg v1) fun (h15 : Hp) =>
  gg (β := Hp) (inB (0 : Int32) (ln h (gP h v0 1)) = true) <|
  gg (β := Hp) (inB (t5 + (2 : Int32)) (ln h (gP h v0 1)) = true) <|
  lt (α := Hp) (β := Option Hp) (sI h15 (gP h v0 1) (t5 + (2 : Int32)).toNatClampNeg (gI h15 (gP h v0 1) (0 : Int32).toNatClampNeg)) fun (h22 : Hp) =>
  MX12_casts_62 h22 v0 v1 v2 v3 v4 (gI h (gP h v0 1) (4 : Int32).toNatClampNeg) t5 t7 (0 : Int32) (0 : Int32)
set_option maxRecDepth 100000 in
set_option maxHeartbeats 8000000 in
theorem eX12_casts {d : Nat} {h : Hp} {v0 : Nat} {v1 : Int32} {v2 : Int32} {v3 : Int32} {v4 : Int32} {h9 : Hp} (H : MX12_casts h v0 v1 v2 v3 v4 = some h9) : J (d + 2) YX12_casts 0 [.ref v0, .int v1, .int v2, .int v3, .int v4, Value.null, Value.null, Value.null, Value.null, Value.null] [] h oV h9 := by
  unfold MX12_casts at H
  refine J_aload_n 0 dX12_casts_0 rfl rfl ?_
  obtain ⟨g1, H⟩ := gd H
  refine J_gP 11 1 dX12_casts_1 g1 flX12_8 rfl rfl ?_
  refine J_iconst (4 : Int32) dX12_casts_4 kc_4 ?_
  obtain ⟨g2, H⟩ := gd H
  obtain ⟨g3, H⟩ := gd H
  refine J_iald dX12_casts_5 g2 (inB_ok g3) ?_
  refine J_istore dX12_casts_6 (by decide) (ls' := [.ref v0, .int v1, .int v2, .int v3, .int v4, .int (gI h (gP h v0 1) (4 : Int32).toNatClampNeg), Value.null, Value.null, Value.null, Value.null]) rfl ?_
  refine J_iload dX12_casts_8 rfl ?_
  obtain ⟨t5, e4, H⟩ := bd H
  refine J_cS (as := [.int (gI h (gP h v0 1) (4 : Int32).toNatClampNeg)]) YX12_slug0 1 dX12_casts_10 moX12_slug0 msX12_slug0 mlX12_342 (okX12_slug0 (d := d + 1) e4) rfl rfl [] rfl rfl (st2 := [.int t5]) rfl ?_
  refine J_istore dX12_casts_13 (by decide) (ls' := [.ref v0, .int v1, .int v2, .int v3, .int v4, .int (gI h (gP h v0 1) (4 : Int32).toNatClampNeg), .int t5, Value.null, Value.null, Value.null]) rfl ?_
  refine J_iload_n 2 dX12_casts_15 rfl rfl ?_
  obtain ⟨t7, e6, H⟩ := bd H
  refine J_cS (as := [.int v2]) YX12_part0 1 dX12_casts_16 moX12_part0 msX12_part0 mlX12_164 (okX12_part0 (d := d + 1) e6) rfl rfl [] rfl rfl (st2 := [.int t7]) rfl ?_
  refine J_istore dX12_casts_19 (by decide) (ls' := [.ref v0, .int v1, .int v2, .int v3, .int v4, .int (gI h (gP h v0 1) (4 : Int32).toNatClampNeg), .int t5, .int t7, Value.null, Value.null]) rfl ?_
  refine J_aload_n 0 dX12_casts_21 rfl rfl ?_
  refine J_gP 11 1 dX12_casts_22 g1 flX12_8 rfl rfl ?_
  refine J_iload dX12_casts_25 rfl ?_
  refine J_iconst (0 : Int32) dX12_casts_27 kc_0 ?_
  refine J_iadd dX12_casts_28 ?_
  refine J_iload_n 2 dX12_casts_29 rfl rfl ?_
  obtain ⟨g8, H⟩ := gd H
  obtain ⟨h9, e10, H⟩ := lt_el H
  refine J_sI dX12_casts_30 g2 (inB_ok g8) e10 ?_
  have c11 := ekI e10
  have c12 := elI e10
  have c13 := epI e10
  refine J_aload_n 0 dX12_casts_31 rfl rfl ?_
  refine J_gP 11 1 dX12_casts_32 (kq c11 g1) flX12_8 rfl (congrFun (congrFun c13 v0) 1) ?_
  refine J_iload dX12_casts_35 rfl ?_
  refine J_iconst (1 : Int32) dX12_casts_37 kc_1 ?_
  refine J_iadd dX12_casts_38 ?_
  refine J_iload_n 1 dX12_casts_39 rfl rfl ?_
  obtain ⟨g14, H⟩ := gd H
  obtain ⟨h15, e16, H⟩ := lt_el H
  refine J_sI dX12_casts_40 (kq c11 g2) (lq c12 g14) e16 ?_
  have c17 := (ekI e16).trans c11
  have c18 := (elI e16).trans c12
  have c19 := (epI e16).trans c13
  refine J_aload_n 0 dX12_casts_41 rfl rfl ?_
  refine J_gP 11 1 dX12_casts_42 (kq c17 g1) flX12_8 rfl (congrFun (congrFun c19 v0) 1) ?_
  refine J_iload dX12_casts_45 rfl ?_
  refine J_iconst (2 : Int32) dX12_casts_47 kc_2 ?_
  refine J_iadd dX12_casts_48 ?_
  refine J_aload_n 0 dX12_casts_49 rfl rfl ?_
  refine J_gP 11 1 dX12_casts_50 (kq c17 g1) flX12_8 rfl (congrFun (congrFun c19 v0) 1) ?_
  refine J_iconst (0 : Int32) dX12_casts_53 kc_0 ?_
  obtain ⟨g20, H⟩ := gd H
  refine J_iald dX12_casts_54 (kq c17 g2) (lq c18 g20) ?_
  obtain ⟨g21, H⟩ := gd H
  obtain ⟨h22, e23, H⟩ := lt_el H
  refine J_sI dX12_casts_55 (kq c17 g2) (lq c18 g21) e23 ?_
  have c24 := (ekI e23).trans c17
  have c25 := (elI e23).trans c18
  have c26 := (epI e23).trans c19
  refine J_iconst (0 : Int32) dX12_casts_56 kc_0 ?_
  refine J_istore dX12_casts_57 (by decide) (ls' := [.ref v0, .int v1, .int v2, .int v3, .int v4, .int (gI h (gP h v0 1) (4 : Int32).toNatClampNeg), .int t5, .int t7, .int (0 : Int32), Value.null]) rfl ?_
  refine J_iconst (0 : Int32) dX12_casts_59 kc_0 ?_
  refine J_istore dX12_casts_60 (by decide) (ls' := [.ref v0, .int v1, .int v2, .int v3, .int v4, .int (gI h (gP h v0 1) (4 : Int32).toNatClampNeg), .int t5, .int t7, .int (0 : Int32), .int (0 : Int32)]) rfl ?_
  exact J_dr (kX12_casts_62 H ) ⟨rfl, ⟨rfl, ⟨rfl, ⟨rfl, ⟨rfl, ⟨rfl, ⟨rfl, ⟨rfl, ⟨rfl, ⟨rfl, trivial⟩⟩⟩⟩⟩⟩⟩⟩⟩⟩
theorem okX12_casts {d : Nat} {h : Hp} {v0 : Nat} {v1 : Int32} {v2 : Int32} {v3 : Int32} {v4 : Int32} {h9 : Hp} (H : MX12_casts h v0 v1 v2 v3 v4 = some h9) : CT (d + 2) YX12_casts [.ref v0, .int v1, .int v2, .int v3, .int v4] h oV h9 := CT_of (by decide +kernel) (Nat.le_of_ble_eq_true rfl) (eX12_casts H)
noncomputable def MX12_spikes (h : Hp) (v0 : Nat) (v1 : Int32) : Option Hp :=
  gg (β := Hp) (kd h v0 = 11) <|
  Option.bind (α := Int32) (β := Hp) (MX12_machine0 h v1) fun (t3 : Int32) =>
  gg (β := Hp) (kd h (gP h v0 1) = 20) <|
  gg (β := Hp) (inB (t3 + (32 : Int32)) (ln h (gP h v0 1)) = true) <|
  lt (α := Hp) (β := Option Hp) (sI h (gP h v0 1) (t3 + (32 : Int32)).toNatClampNeg ((gI h (gP h v0 1) (t3 + (32 : Int32)).toNatClampNeg) + (1 : Int32))) fun (h6 : Hp) =>
  Option.bind (α := Hp) (β := Hp) (MX12_away h6 v0 v1) fun (h12 : Hp) =>
  some h12
set_option maxRecDepth 100000 in
set_option maxHeartbeats 8000000 in
theorem eX12_spikes {d : Nat} {h : Hp} {v0 : Nat} {v1 : Int32} {h9 : Hp} (H : MX12_spikes h v0 v1 = some h9) : J (d + 2) YX12_spikes 0 [.ref v0, .int v1] [] h oV h9 := by
  unfold MX12_spikes at H
  refine J_aload_n 0 dX12_spikes_0 rfl rfl ?_
  obtain ⟨g1, H⟩ := gd H
  refine J_gP 11 1 dX12_spikes_1 g1 flX12_8 rfl rfl ?_
  refine J_iload_n 1 dX12_spikes_4 rfl rfl ?_
  obtain ⟨t3, e2, H⟩ := bd H
  refine J_cS (as := [.int v1]) YX12_machine0 1 dX12_spikes_5 moX12_machine0 msX12_machine0 mlX12_360 (okX12_machine0 (d := d + 1) e2) rfl rfl [.ref (gP h v0 1)] rfl rfl (st2 := [.int t3, .ref (gP h v0 1)]) rfl ?_
  refine J_bipush (32 : Int32) dX12_spikes_8 kb_32 ?_
  refine J_iadd dX12_spikes_10 ?_
  refine J_dup2 dX12_spikes_11 rfl rfl ?_
  obtain ⟨g4, H⟩ := gd H
  obtain ⟨g5, H⟩ := gd H
  refine J_iald dX12_spikes_12 g4 (inB_ok g5) ?_
  refine J_iconst (1 : Int32) dX12_spikes_13 kc_1 ?_
  refine J_iadd dX12_spikes_14 ?_
  obtain ⟨h6, e7, H⟩ := lt_el H
  refine J_sI dX12_spikes_15 g4 (inB_ok g5) e7 ?_
  have c8 := ekI e7
  have c9 := elI e7
  have c10 := epI e7
  refine J_aload_n 0 dX12_spikes_16 rfl rfl ?_
  refine J_iload_n 1 dX12_spikes_17 rfl rfl ?_
  obtain ⟨h12, e11, H⟩ := bd H
  refine J_cV (as := [.int v1]) 11 YX12_away 1 dX12_spikes_18 moX12_away mvX12_away mlX12_373 (kq c8 g1) rfl rfl (okX12_away (d := d) e11) rfl rfl [] rfl rfl (st2 := []) rfl ?_
  cases H
  exact J_ret dX12_spikes_21 rfl
theorem okX12_spikes {d : Nat} {h : Hp} {v0 : Nat} {v1 : Int32} {h9 : Hp} (H : MX12_spikes h v0 v1 = some h9) : CT (d + 2) YX12_spikes [.ref v0, .int v1] h oV h9 := CT_of (by decide +kernel) (Nat.le_of_ble_eq_true rfl) (eX12_spikes H)
noncomputable def MX12_there_172 (h : Hp) (v4 : Int32) : Option Int32 :=
  if 0 ≤ v4 then
    some v4
  else
    some (0 : Int32)
set_option maxRecDepth 100000 in
set_option maxHeartbeats 8000000 in
theorem kX12_there_172 {d : Nat} {h : Hp} {v4 : Int32} {r : Int32} (H : MX12_there_172 h v4 = some r) : J (d + 1) YX12_there 172 [Value.null, Value.null, Value.null, Value.null, .int v4, Value.null, Value.null, Value.null, Value.null, Value.null] [] h (oI r) h := by
  unfold MX12_there_172 at H
  refine J_iload dX12_there_172 rfl ?_
  refine J_if_ge 181 dX12_there_174 rfl (fun q11 => ?_) (fun q11 => ?_)
  · replace H := br1 q11 H
    refine J_iload dX12_there_181 rfl ?_
    cases H
    exact J_iretI dX12_there_183 rfl
  · replace H := br0 q11 H
    refine J_iconst (0 : Int32) dX12_there_177 kc_0 ?_
    refine J_goto 183 dX12_there_178 rfl ?_
    cases H
    exact J_iretI dX12_there_183 rfl
noncomputable def MX12_there_157 (h : Hp) (v0 : Nat) (v1 : Int32) (v2 : Int32) (v3 : Int32) (v5 : Int32) (v6 : Int32) (v7 : Int32) (v8 : Int32) (s0 : Int32) (s1 : Int32) : Option ((Int32 × Int32) ⊕ ((Int32 × Int32) ⊕ Int32)) :=
  some (.inl ((s0 - s1), (v8 + (1 : Int32))))
set_option maxRecDepth 100000 in
set_option maxHeartbeats 8000000 in
theorem kX12_there_157 {d : Nat} {h : Hp} {v0 : Nat} {v1 : Int32} {v2 : Int32} {v3 : Int32} {v5 : Int32} {v6 : Int32} {v7 : Int32} {v8 : Int32} {s0 : Int32} {s1 : Int32} {r : Int32} {x : ((Int32 × Int32) ⊕ ((Int32 × Int32) ⊕ Int32))} (H : MX12_there_157 h v0 v1 v2 v3 v5 v6 v7 v8 s0 s1 = some x) (hb0 : ∀ s : Int32 × Int32, x = .inl s → J (d + 1) YX12_there 100 [.ref v0, .int v1, .int v2, .int v3, .int s.1, .int v5, .int v6, .int v7, .int s.2, Value.null] [] h (oI r) h) (hb1 : ∀ s : Int32 × Int32, x = .inr (.inl s) → J (d + 1) YX12_there 39 [.ref v0, .int v1, .int v2, .int v3, .int s.1, .int v5, .int s.2, Value.null, Value.null, Value.null] [] h (oI r) h) (hx : ∀ z : Int32, x = .inr (.inr (z)) → z = r) : J (d + 1) YX12_there 157 [.ref v0, .int v1, .int v2, .int v3, Value.null, .int v5, .int v6, .int v7, .int v8, Value.null] [.int s1, .int s0] h (oI r) h := by
  unfold MX12_there_157 at H
  refine J_isub dX12_there_157 ?_
  refine J_istore dX12_there_158 (by decide) (ls' := [.ref v0, .int v1, .int v2, .int v3, .int (s0 - s1), .int v5, .int v6, .int v7, .int v8, Value.null]) rfl ?_
  refine J_iinc (v8 + (1 : Int32)) dX12_there_160 rfl (congrArg (HAdd.hAdd v8) kc_1) (by decide) (ls' := [.ref v0, .int v1, .int v2, .int v3, .int (s0 - s1), .int v5, .int v6, .int v7, .int (v8 + (1 : Int32)), Value.null]) rfl ?_
  refine J_goto 100 dX12_there_163 rfl ?_
  cases H
  exact J_dr (hb0 _ rfl) ⟨rfl, ⟨rfl, ⟨rfl, ⟨rfl, ⟨rfl, ⟨rfl, ⟨rfl, ⟨rfl, ⟨rfl, trivial⟩⟩⟩⟩⟩⟩⟩⟩⟩
noncomputable def MX12_there_149 (h : Hp) (v0 : Nat) (v1 : Int32) (v2 : Int32) (v3 : Int32) (v5 : Int32) (v6 : Int32) (v7 : Int32) (v8 : Int32) (s0 : Int32) (s1 : Int32) (s2 : Int32) : Option ((Int32 × Int32) ⊕ ((Int32 × Int32) ⊕ Int32)) :=
  if s1 = s2 then
    MX12_there_157 h v0 v1 v2 v3 v5 v6 v7 v8 s0 (1 : Int32)
  else
    MX12_there_157 h v0 v1 v2 v3 v5 v6 v7 v8 s0 (0 : Int32)
set_option maxRecDepth 100000 in
set_option maxHeartbeats 8000000 in
theorem kX12_there_149 {d : Nat} {h : Hp} {v0 : Nat} {v1 : Int32} {v2 : Int32} {v3 : Int32} {v5 : Int32} {v6 : Int32} {v7 : Int32} {v8 : Int32} {s0 : Int32} {s1 : Int32} {s2 : Int32} {r : Int32} {x : ((Int32 × Int32) ⊕ ((Int32 × Int32) ⊕ Int32))} (H : MX12_there_149 h v0 v1 v2 v3 v5 v6 v7 v8 s0 s1 s2 = some x) (hb0 : ∀ s : Int32 × Int32, x = .inl s → J (d + 1) YX12_there 100 [.ref v0, .int v1, .int v2, .int v3, .int s.1, .int v5, .int v6, .int v7, .int s.2, Value.null] [] h (oI r) h) (hb1 : ∀ s : Int32 × Int32, x = .inr (.inl s) → J (d + 1) YX12_there 39 [.ref v0, .int v1, .int v2, .int v3, .int s.1, .int v5, .int s.2, Value.null, Value.null, Value.null] [] h (oI r) h) (hx : ∀ z : Int32, x = .inr (.inr (z)) → z = r) : J (d + 1) YX12_there 149 [.ref v0, .int v1, .int v2, .int v3, Value.null, .int v5, .int v6, .int v7, .int v8, Value.null] [.int s2, .int s1, .int s0] h (oI r) h := by
  unfold MX12_there_149 at H
  refine J_icmp_ne 156 dX12_there_149 rfl (fun q30 => ?_) (fun q30 => ?_)
  · replace H := br0 q30 H
    refine J_iconst (0 : Int32) dX12_there_156 kc_0 ?_
    exact J_dr (kX12_there_157 H hb0 hb1 hx) ⟨rfl, ⟨rfl, ⟨rfl, ⟨rfl, ⟨rfl, ⟨rfl, ⟨rfl, ⟨rfl, trivial⟩⟩⟩⟩⟩⟩⟩⟩
  · replace H := br1 q30 H
    refine J_iconst (1 : Int32) dX12_there_152 kc_1 ?_
    refine J_goto 157 dX12_there_153 rfl ?_
    exact J_dr (kX12_there_157 H hb0 hb1 hx) ⟨rfl, ⟨rfl, ⟨rfl, ⟨rfl, ⟨rfl, ⟨rfl, ⟨rfl, ⟨rfl, trivial⟩⟩⟩⟩⟩⟩⟩⟩
noncomputable def BX12_there_100 (h : Hp) (v0 : Nat) (v1 : Int32) (v2 : Int32) (v3 : Int32) (v4 : Int32) (v5 : Int32) (v6 : Int32) (v7 : Int32) (v8 : Int32) : Option ((Int32 × Int32) ⊕ ((Int32 × Int32) ⊕ Int32)) :=
  gg (β := ((Int32 × Int32) ⊕ ((Int32 × Int32) ⊕ Int32))) (kd h v0 = 11) <|
  gg (β := ((Int32 × Int32) ⊕ ((Int32 × Int32) ⊕ Int32))) (kd h (gP h v0 1) = 20) <|
  gg (β := ((Int32 × Int32) ⊕ ((Int32 × Int32) ⊕ Int32))) (inB (v7 + (9 : Int32)) (ln h (gP h v0 1)) = true) <|
  if (gI h (gP h v0 1) (v7 + (9 : Int32)).toNatClampNeg) ≤ v8 then
    some (.inr (.inl (v4, (v6 + (-1 : Int32)))))
  else
    gg (β := ((Int32 × Int32) ⊕ ((Int32 × Int32) ⊕ Int32))) (inB ((v7 + (12 : Int32)) + v8) (ln h (gP h v0 1)) = true) <|
    if v2 = (26 : Int32) then
      MX12_there_149 h v0 v1 v2 v3 v5 v6 v7 v8 v4 (gI h (gP h v0 1) ((v7 + (12 : Int32)) + v8).toNatClampNeg) (45 : Int32)
    else
      MX12_there_149 h v0 v1 v2 v3 v5 v6 v7 v8 v4 (gI h (gP h v0 1) ((v7 + (12 : Int32)) + v8).toNatClampNeg) ((97 : Int32) + v2)
set_option maxRecDepth 100000 in
set_option maxHeartbeats 8000000 in
theorem bX12_there_100 {d : Nat} {h : Hp} {v0 : Nat} {v1 : Int32} {v2 : Int32} {v3 : Int32} {v4 : Int32} {v5 : Int32} {v6 : Int32} {v7 : Int32} {v8 : Int32} {r : Int32} {x : ((Int32 × Int32) ⊕ ((Int32 × Int32) ⊕ Int32))} (H : BX12_there_100 h v0 v1 v2 v3 v4 v5 v6 v7 v8 = some x) (hb0 : ∀ s : Int32 × Int32, x = .inl s → J (d + 1) YX12_there 100 [.ref v0, .int v1, .int v2, .int v3, .int s.1, .int v5, .int v6, .int v7, .int s.2, Value.null] [] h (oI r) h) (hb1 : ∀ s : Int32 × Int32, x = .inr (.inl s) → J (d + 1) YX12_there 39 [.ref v0, .int v1, .int v2, .int v3, .int s.1, .int v5, .int s.2, Value.null, Value.null, Value.null] [] h (oI r) h) (hx : ∀ z : Int32, x = .inr (.inr (z)) → z = r) : J (d + 1) YX12_there 100 [.ref v0, .int v1, .int v2, .int v3, .int v4, .int v5, .int v6, .int v7, .int v8, Value.null] [] h (oI r) h := by
  unfold BX12_there_100 at H
  refine J_iload dX12_there_100 rfl ?_
  refine J_aload_n 0 dX12_there_102 rfl rfl ?_
  obtain ⟨g24, H⟩ := gd H
  refine J_gP 11 1 dX12_there_103 g24 flX12_8 rfl rfl ?_
  refine J_iload dX12_there_106 rfl ?_
  refine J_bipush (9 : Int32) dX12_there_108 kb_9 ?_
  refine J_iadd dX12_there_110 ?_
  obtain ⟨g25, H⟩ := gd H
  obtain ⟨g26, H⟩ := gd H
  refine J_iald dX12_there_111 g25 (inB_ok g26) ?_
  refine J_icmp_ge 166 dX12_there_112 rfl (fun q27 => ?_) (fun q27 => ?_)
  · replace H := br1 q27 H
    refine J_iinc (v6 + (-1 : Int32)) dX12_there_166 rfl (congrArg (HAdd.hAdd v6) kc_m1) (by decide) (ls' := [.ref v0, .int v1, .int v2, .int v3, .int v4, .int v5, .int (v6 + (-1 : Int32)), .int v7, .int v8, Value.null]) rfl ?_
    refine J_goto 39 dX12_there_169 rfl ?_
    cases H
    exact J_dr (hb1 _ rfl) ⟨rfl, ⟨rfl, ⟨rfl, ⟨rfl, ⟨rfl, ⟨rfl, ⟨rfl, trivial⟩⟩⟩⟩⟩⟩⟩
  · replace H := br0 q27 H
    refine J_aload_n 0 dX12_there_115 rfl rfl ?_
    refine J_gP 11 1 dX12_there_116 g24 flX12_8 rfl rfl ?_
    refine J_iload dX12_there_119 rfl ?_
    refine J_bipush (12 : Int32) dX12_there_121 kb_12 ?_
    refine J_iadd dX12_there_123 ?_
    refine J_iload dX12_there_124 rfl ?_
    refine J_iadd dX12_there_126 ?_
    obtain ⟨g28, H⟩ := gd H
    refine J_iald dX12_there_127 g25 (inB_ok g28) ?_
    refine J_istore dX12_there_128 (by decide) (ls' := [.ref v0, .int v1, .int v2, .int v3, .int v4, .int v5, .int v6, .int v7, .int v8, .int (gI h (gP h v0 1) ((v7 + (12 : Int32)) + v8).toNatClampNeg)]) rfl ?_
    refine J_iload dX12_there_130 rfl ?_
    refine J_iload dX12_there_132 rfl ?_
    refine J_iload_n 2 dX12_there_134 rfl rfl ?_
    refine J_bipush (26 : Int32) dX12_there_135 kb_26 ?_
    refine J_icmp_ne 145 dX12_there_137 rfl (fun q29 => ?_) (fun q29 => ?_)
    · replace H := br0 q29 H
      refine J_bipush (97 : Int32) dX12_there_145 kb_97 ?_
      refine J_iload_n 2 dX12_there_147 rfl rfl ?_
      refine J_iadd dX12_there_148 ?_
      exact J_dr (kX12_there_149 H hb0 hb1 hx) ⟨rfl, ⟨rfl, ⟨rfl, ⟨rfl, ⟨rfl, ⟨rfl, ⟨rfl, ⟨rfl, trivial⟩⟩⟩⟩⟩⟩⟩⟩
    · replace H := br1 q29 H
      refine J_bipush (45 : Int32) dX12_there_140 kb_45 ?_
      refine J_goto 149 dX12_there_142 rfl ?_
      exact J_dr (kX12_there_149 H hb0 hb1 hx) ⟨rfl, ⟨rfl, ⟨rfl, ⟨rfl, ⟨rfl, ⟨rfl, ⟨rfl, ⟨rfl, trivial⟩⟩⟩⟩⟩⟩⟩⟩
noncomputable def MX12_there_100 (h : Hp) (v0 : Nat) (v1 : Int32) (v2 : Int32) (v3 : Int32) (v4 : Int32) (v5 : Int32) (v6 : Int32) (v7 : Int32) (v8 : Int32) : Option ((Int32 × Int32) ⊕ Int32) := it (fun q : Int32 × Int32 => BX12_there_100 h v0 v1 v2 v3 q.1 v5 v6 v7 q.2) (v4, v8)
set_option maxRecDepth 100000 in
set_option maxHeartbeats 8000000 in
theorem kX12_there_100 {d : Nat} {h : Hp} {v0 : Nat} {v1 : Int32} {v2 : Int32} {v3 : Int32} {v4 : Int32} {v5 : Int32} {v6 : Int32} {v7 : Int32} {v8 : Int32} {r : Int32} {x : ((Int32 × Int32) ⊕ Int32)} (H : MX12_there_100 h v0 v1 v2 v3 v4 v5 v6 v7 v8 = some x) (hb0 : ∀ s : Int32 × Int32, x = .inl s → J (d + 1) YX12_there 39 [.ref v0, .int v1, .int v2, .int v3, .int s.1, .int v5, .int s.2, Value.null, Value.null, Value.null] [] h (oI r) h) (hx : ∀ z : Int32, x = .inr (z) → z = r) : J (d + 1) YX12_there 100 [.ref v0, .int v1, .int v2, .int v3, .int v4, .int v5, .int v6, .int v7, .int v8, Value.null] [] h (oI r) h := by
  unfold MX12_there_100 at H
  refine it_J (G := (fun q : Int32 × Int32 => J (d + 1) YX12_there 100 [.ref v0, .int v1, .int v2, .int v3, .int q.1, .int v5, .int v6, .int v7, .int q.2, Value.null] [] h (oI r) h)) (Q := (fun y : ((Int32 × Int32) ⊕ Int32) => (∀ s : Int32 × Int32, y = .inl s → J (d + 1) YX12_there 39 [.ref v0, .int v1, .int v2, .int v3, .int s.1, .int v5, .int s.2, Value.null, Value.null, Value.null] [] h (oI r) h) ∧ (∀ z : Int32, y = .inr (z) → z = r))) (fun q x Hq hm => ?_) H ⟨hb0, hx⟩
  exact bX12_there_100 Hq (fun s hs => by subst hs; exact hm) (fun s hs => by subst hs; exact (hm.1) s rfl) (fun z hz => by subst hz; exact (hm.2) z rfl)
noncomputable def BX12_there_39 (h : Hp) (v0 : Nat) (v1 : Int32) (v2 : Int32) (v3 : Int32) (v4 : Int32) (v5 : Int32) (v6 : Int32) : Option ((Int32 × Int32) ⊕ Int32) :=
  if v6 < 0 then
    up1 (MX12_there_172 h v4)
  else
    gg (β := ((Int32 × Int32) ⊕ Int32)) (kd h v0 = 11) <|
    Option.bind (α := Int32) (β := ((Int32 × Int32) ⊕ Int32)) (MX12_slug0 h v6) fun (t14 : Int32) =>
    gg (β := ((Int32 × Int32) ⊕ Int32)) (kd h (gP h v0 1) = 20) <|
    gg (β := ((Int32 × Int32) ⊕ Int32)) (inB (t14 + (2 : Int32)) (ln h (gP h v0 1)) = true) <|
    if (gI h (gP h v0 1) (t14 + (2 : Int32)).toNatClampNeg) < v5 then
      up1 (MX12_there_172 h v4)
    else
      Option.bind (α := Int32) (β := ((Int32 × Int32) ⊕ Int32)) (MX12_slug0 h v6) fun (t19 : Int32) =>
      gg (β := ((Int32 × Int32) ⊕ Int32)) (inB (t19 + (1 : Int32)) (ln h (gP h v0 1)) = true) <|
      if (gI h (gP h v0 1) (t19 + (1 : Int32)).toNatClampNeg) = v1 then
        gg (β := ((Int32 × Int32) ⊕ Int32)) (inB (t19 + (2 : Int32)) (ln h (gP h v0 1)) = true) <|
        if (gI h (gP h v0 1) (t19 + (2 : Int32)).toNatClampNeg) < v3 then
          MX12_there_100 h v0 v1 v2 v3 v4 v5 v6 t19 (0 : Int32)
        else
          some (.inl (v4, (v6 + (-1 : Int32))))
      else
        some (.inl (v4, (v6 + (-1 : Int32))))
set_option maxRecDepth 100000 in
set_option maxHeartbeats 8000000 in
theorem bX12_there_39 {d : Nat} {h : Hp} {v0 : Nat} {v1 : Int32} {v2 : Int32} {v3 : Int32} {v4 : Int32} {v5 : Int32} {v6 : Int32} {r : Int32} {x : ((Int32 × Int32) ⊕ Int32)} (H : BX12_there_39 h v0 v1 v2 v3 v4 v5 v6 = some x) (hb0 : ∀ s : Int32 × Int32, x = .inl s → J (d + 1) YX12_there 39 [.ref v0, .int v1, .int v2, .int v3, .int s.1, .int v5, .int s.2, Value.null, Value.null, Value.null] [] h (oI r) h) (hx : ∀ z : Int32, x = .inr (z) → z = r) : J (d + 1) YX12_there 39 [.ref v0, .int v1, .int v2, .int v3, .int v4, .int v5, .int v6, Value.null, Value.null, Value.null] [] h (oI r) h := by
  unfold BX12_there_39 at H
  refine J_iload dX12_there_39 rfl ?_
  refine J_if_lt 172 dX12_there_41 rfl (fun q10 => ?_) (fun q10 => ?_)
  · replace H := br1 q10 H
    obtain ⟨y0, H90, rfl⟩ := up1_el H
    replace H := H90
    obtain rfl := hx _ rfl
    exact J_dr (kX12_there_172 H ) ⟨rfl, trivial⟩
  · replace H := br0 q10 H
    refine J_aload_n 0 dX12_there_44 rfl rfl ?_
    obtain ⟨g12, H⟩ := gd H
    refine J_gP 11 1 dX12_there_45 g12 flX12_8 rfl rfl ?_
    refine J_iload dX12_there_48 rfl ?_
    obtain ⟨t14, e13, H⟩ := bd H
    refine J_cS (as := [.int v6]) YX12_slug0 1 dX12_there_50 moX12_slug0 msX12_slug0 mlX12_342 (okX12_slug0 (d := d) e13) rfl rfl [.ref (gP h v0 1)] rfl rfl (st2 := [.int t14, .ref (gP h v0 1)]) rfl ?_
    refine J_iconst (2 : Int32) dX12_there_53 kc_2 ?_
    refine J_iadd dX12_there_54 ?_
    obtain ⟨g15, H⟩ := gd H
    obtain ⟨g16, H⟩ := gd H
    refine J_iald dX12_there_55 g15 (inB_ok g16) ?_
    refine J_iload dX12_there_56 rfl ?_
    refine J_icmp_lt 172 dX12_there_58 rfl (fun q17 => ?_) (fun q17 => ?_)
    · replace H := br1 q17 H
      obtain ⟨y0, H90, rfl⟩ := up1_el H
      replace H := H90
      obtain rfl := hx _ rfl
      exact J_dr (kX12_there_172 H ) ⟨rfl, trivial⟩
    · replace H := br0 q17 H
      refine J_iload dX12_there_61 rfl ?_
      obtain ⟨t19, e18, H⟩ := bd H
      refine J_cS (as := [.int v6]) YX12_slug0 1 dX12_there_63 moX12_slug0 msX12_slug0 mlX12_342 (okX12_slug0 (d := d) e18) rfl rfl [] rfl rfl (st2 := [.int t19]) rfl ?_
      refine J_istore dX12_there_66 (by decide) (ls' := [.ref v0, .int v1, .int v2, .int v3, .int v4, .int v5, .int v6, .int t19, Value.null, Value.null]) rfl ?_
      refine J_aload_n 0 dX12_there_68 rfl rfl ?_
      refine J_gP 11 1 dX12_there_69 g12 flX12_8 rfl rfl ?_
      refine J_iload dX12_there_72 rfl ?_
      refine J_iconst (1 : Int32) dX12_there_74 kc_1 ?_
      refine J_iadd dX12_there_75 ?_
      obtain ⟨g20, H⟩ := gd H
      refine J_iald dX12_there_76 g15 (inB_ok g20) ?_
      refine J_iload_n 1 dX12_there_77 rfl rfl ?_
      refine J_icmp_ne 166 dX12_there_78 rfl (fun q21 => ?_) (fun q21 => ?_)
      · replace H := br0 q21 H
        refine J_iinc (v6 + (-1 : Int32)) dX12_there_166 rfl (congrArg (HAdd.hAdd v6) kc_m1) (by decide) (ls' := [.ref v0, .int v1, .int v2, .int v3, .int v4, .int v5, .int (v6 + (-1 : Int32)), .int t19, Value.null, Value.null]) rfl ?_
        refine J_goto 39 dX12_there_169 rfl ?_
        cases H
        exact J_dr (hb0 _ rfl) ⟨rfl, ⟨rfl, ⟨rfl, ⟨rfl, ⟨rfl, ⟨rfl, ⟨rfl, trivial⟩⟩⟩⟩⟩⟩⟩
      · replace H := br1 q21 H
        refine J_aload_n 0 dX12_there_81 rfl rfl ?_
        refine J_gP 11 1 dX12_there_82 g12 flX12_8 rfl rfl ?_
        refine J_iload dX12_there_85 rfl ?_
        refine J_iconst (2 : Int32) dX12_there_87 kc_2 ?_
        refine J_iadd dX12_there_88 ?_
        obtain ⟨g22, H⟩ := gd H
        refine J_iald dX12_there_89 g15 (inB_ok g22) ?_
        refine J_iload_n 3 dX12_there_90 rfl rfl ?_
        refine J_icmp_lt 97 dX12_there_91 rfl (fun q23 => ?_) (fun q23 => ?_)
        · replace H := br1 q23 H
          refine J_iconst (0 : Int32) dX12_there_97 kc_0 ?_
          refine J_istore dX12_there_98 (by decide) (ls' := [.ref v0, .int v1, .int v2, .int v3, .int v4, .int v5, .int v6, .int t19, .int (0 : Int32), Value.null]) rfl ?_
          exact J_dr (kX12_there_100 H hb0 hx) ⟨rfl, ⟨rfl, ⟨rfl, ⟨rfl, ⟨rfl, ⟨rfl, ⟨rfl, ⟨rfl, ⟨rfl, trivial⟩⟩⟩⟩⟩⟩⟩⟩⟩
        · replace H := br0 q23 H
          refine J_goto 166 dX12_there_94 rfl ?_
          refine J_iinc (v6 + (-1 : Int32)) dX12_there_166 rfl (congrArg (HAdd.hAdd v6) kc_m1) (by decide) (ls' := [.ref v0, .int v1, .int v2, .int v3, .int v4, .int v5, .int (v6 + (-1 : Int32)), .int t19, Value.null, Value.null]) rfl ?_
          refine J_goto 39 dX12_there_169 rfl ?_
          cases H
          exact J_dr (hb0 _ rfl) ⟨rfl, ⟨rfl, ⟨rfl, ⟨rfl, ⟨rfl, ⟨rfl, ⟨rfl, trivial⟩⟩⟩⟩⟩⟩⟩
noncomputable def MX12_there_39 (h : Hp) (v0 : Nat) (v1 : Int32) (v2 : Int32) (v3 : Int32) (v4 : Int32) (v5 : Int32) (v6 : Int32) : Option Int32 := it (fun q : Int32 × Int32 => BX12_there_39 h v0 v1 v2 v3 q.1 v5 q.2) (v4, v6)
set_option maxRecDepth 100000 in
set_option maxHeartbeats 8000000 in
theorem kX12_there_39 {d : Nat} {h : Hp} {v0 : Nat} {v1 : Int32} {v2 : Int32} {v3 : Int32} {v4 : Int32} {v5 : Int32} {v6 : Int32} {r : Int32} (H : MX12_there_39 h v0 v1 v2 v3 v4 v5 v6 = some r) : J (d + 1) YX12_there 39 [.ref v0, .int v1, .int v2, .int v3, .int v4, .int v5, .int v6, Value.null, Value.null, Value.null] [] h (oI r) h := by
  unfold MX12_there_39 at H
  refine it_J (G := (fun q : Int32 × Int32 => J (d + 1) YX12_there 39 [.ref v0, .int v1, .int v2, .int v3, .int q.1, .int v5, .int q.2, Value.null, Value.null, Value.null] [] h (oI r) h)) (Q := (fun y : Int32 => y = r)) (fun q x Hq hm => ?_) H rfl
  exact bX12_there_39 Hq (fun s hs => by subst hs; exact hm) (fun z hz => by subst hz; exact hm)
noncomputable def MX12_there (h : Hp) (v0 : Nat) (v1 : Int32) (v2 : Int32) (v3 : Int32) : Option Int32 :=
  gg (β := Int32) (kd h v0 = 11) <|
  Option.bind (α := Int32) (β := Int32) (MX12_machine0 h v1) fun (t3 : Int32) =>
  gg (β := Int32) (kd h (gP h v0 1) = 20) <|
  gg (β := Int32) (inB (t3 + v2) (ln h (gP h v0 1)) = true) <|
  Option.bind (α := Int32) (β := Int32) (MX12_machine0 h v1) fun (t7 : Int32) =>
  gg (β := Int32) (inB (t7 + (27 : Int32)) (ln h (gP h v0 1)) = true) <|
  gg (β := Int32) (inB (4 : Int32) (ln h (gP h v0 1)) = true) <|
  MX12_there_39 h v0 v1 v2 v3 (gI h (gP h v0 1) (t3 + v2).toNatClampNeg) (v3 - (gI h (gP h v0 1) (t7 + (27 : Int32)).toNatClampNeg)) ((gI h (gP h v0 1) (4 : Int32).toNatClampNeg) - (1 : Int32))
set_option maxRecDepth 100000 in
set_option maxHeartbeats 8000000 in
theorem eX12_there {d : Nat} {h : Hp} {v0 : Nat} {v1 : Int32} {v2 : Int32} {v3 : Int32} {r : Int32} (H : MX12_there h v0 v1 v2 v3 = some r) : J (d + 1) YX12_there 0 [.ref v0, .int v1, .int v2, .int v3, Value.null, Value.null, Value.null, Value.null, Value.null, Value.null] [] h (oI r) h := by
  unfold MX12_there at H
  refine J_aload_n 0 dX12_there_0 rfl rfl ?_
  obtain ⟨g1, H⟩ := gd H
  refine J_gP 11 1 dX12_there_1 g1 flX12_8 rfl rfl ?_
  refine J_iload_n 1 dX12_there_4 rfl rfl ?_
  obtain ⟨t3, e2, H⟩ := bd H
  refine J_cS (as := [.int v1]) YX12_machine0 1 dX12_there_5 moX12_machine0 msX12_machine0 mlX12_360 (okX12_machine0 (d := d) e2) rfl rfl [.ref (gP h v0 1)] rfl rfl (st2 := [.int t3, .ref (gP h v0 1)]) rfl ?_
  refine J_iload_n 2 dX12_there_8 rfl rfl ?_
  refine J_iadd dX12_there_9 ?_
  obtain ⟨g4, H⟩ := gd H
  obtain ⟨g5, H⟩ := gd H
  refine J_iald dX12_there_10 g4 (inB_ok g5) ?_
  refine J_istore dX12_there_11 (by decide) (ls' := [.ref v0, .int v1, .int v2, .int v3, .int (gI h (gP h v0 1) (t3 + v2).toNatClampNeg), Value.null, Value.null, Value.null, Value.null, Value.null]) rfl ?_
  refine J_iload_n 3 dX12_there_13 rfl rfl ?_
  refine J_aload_n 0 dX12_there_14 rfl rfl ?_
  refine J_gP 11 1 dX12_there_15 g1 flX12_8 rfl rfl ?_
  refine J_iload_n 1 dX12_there_18 rfl rfl ?_
  obtain ⟨t7, e6, H⟩ := bd H
  refine J_cS (as := [.int v1]) YX12_machine0 1 dX12_there_19 moX12_machine0 msX12_machine0 mlX12_360 (okX12_machine0 (d := d) e6) rfl rfl [.ref (gP h v0 1), .int v3] rfl rfl (st2 := [.int t7, .ref (gP h v0 1), .int v3]) rfl ?_
  refine J_bipush (27 : Int32) dX12_there_22 kb_27 ?_
  refine J_iadd dX12_there_24 ?_
  obtain ⟨g8, H⟩ := gd H
  refine J_iald dX12_there_25 g4 (inB_ok g8) ?_
  refine J_isub dX12_there_26 ?_
  refine J_istore dX12_there_27 (by decide) (ls' := [.ref v0, .int v1, .int v2, .int v3, .int (gI h (gP h v0 1) (t3 + v2).toNatClampNeg), .int (v3 - (gI h (gP h v0 1) (t7 + (27 : Int32)).toNatClampNeg)), Value.null, Value.null, Value.null, Value.null]) rfl ?_
  refine J_aload_n 0 dX12_there_29 rfl rfl ?_
  refine J_gP 11 1 dX12_there_30 g1 flX12_8 rfl rfl ?_
  refine J_iconst (4 : Int32) dX12_there_33 kc_4 ?_
  obtain ⟨g9, H⟩ := gd H
  refine J_iald dX12_there_34 g4 (inB_ok g9) ?_
  refine J_iconst (1 : Int32) dX12_there_35 kc_1 ?_
  refine J_isub dX12_there_36 ?_
  refine J_istore dX12_there_37 (by decide) (ls' := [.ref v0, .int v1, .int v2, .int v3, .int (gI h (gP h v0 1) (t3 + v2).toNatClampNeg), .int (v3 - (gI h (gP h v0 1) (t7 + (27 : Int32)).toNatClampNeg)), .int ((gI h (gP h v0 1) (4 : Int32).toNatClampNeg) - (1 : Int32)), Value.null, Value.null, Value.null]) rfl ?_
  exact J_dr (kX12_there_39 H ) ⟨rfl, ⟨rfl, ⟨rfl, ⟨rfl, ⟨rfl, ⟨rfl, ⟨rfl, trivial⟩⟩⟩⟩⟩⟩⟩
theorem okX12_there {d : Nat} {h : Hp} {v0 : Nat} {v1 : Int32} {v2 : Int32} {v3 : Int32} {r : Int32} (H : MX12_there h v0 v1 v2 v3 = some r) : CT (d + 1) YX12_there [.ref v0, .int v1, .int v2, .int v3] h (oI r) h := CT_of (by decide +kernel) (Nat.le_of_ble_eq_true rfl) (eX12_there H)
noncomputable def MX12_endsWord (h : Hp) (v0 : Nat) (v1 : Int32) (v2 : Int32) : Option Int32 :=
  gg (β := Int32) (kd h v0 = 11) <|
  gg (β := Int32) (kd h (gP h v0 1) = 20) <|
  gg (β := Int32) (inB (v1 + (1 : Int32)) (ln h (gP h v0 1)) = true) <|
  if v2 = ((gI h (gP h v0 1) (v1 + (1 : Int32)).toNatClampNeg) - (1 : Int32)) then
    some (1 : Int32)
  else
    gg (β := Int32) (inB ((v1 + (85 : Int32)) + v2) (ln h (gP h v0 1)) = true) <|
    gg (β := Int32) (inB (((v1 + (85 : Int32)) + v2) + (1 : Int32)) (ln h (gP h v0 1)) = true) <|
    if (gI h (gP h v0 1) ((v1 + (85 : Int32)) + v2).toNatClampNeg) = (gI h (gP h v0 1) (((v1 + (85 : Int32)) + v2) + (1 : Int32)).toNatClampNeg) then
      some (0 : Int32)
    else
      some (1 : Int32)
set_option maxRecDepth 100000 in
set_option maxHeartbeats 8000000 in
theorem eX12_endsWord {d : Nat} {h : Hp} {v0 : Nat} {v1 : Int32} {v2 : Int32} {r : Int32} (H : MX12_endsWord h v0 v1 v2 = some r) : J (d) YX12_endsWord 0 [.ref v0, .int v1, .int v2] [] h (oI r) h := by
  unfold MX12_endsWord at H
  refine J_iload_n 2 dX12_endsWord_0 rfl rfl ?_
  refine J_aload_n 0 dX12_endsWord_1 rfl rfl ?_
  obtain ⟨g1, H⟩ := gd H
  refine J_gP 11 1 dX12_endsWord_2 g1 flX12_8 rfl rfl ?_
  refine J_iload_n 1 dX12_endsWord_5 rfl rfl ?_
  refine J_iconst (1 : Int32) dX12_endsWord_6 kc_1 ?_
  refine J_iadd dX12_endsWord_7 ?_
  obtain ⟨g2, H⟩ := gd H
  obtain ⟨g3, H⟩ := gd H
  refine J_iald dX12_endsWord_8 g2 (inB_ok g3) ?_
  refine J_iconst (1 : Int32) dX12_endsWord_9 kc_1 ?_
  refine J_isub dX12_endsWord_10 ?_
  refine J_icmp_eq 41 dX12_endsWord_11 rfl (fun q4 => ?_) (fun q4 => ?_)
  · replace H := br1 q4 H
    refine J_iconst (1 : Int32) dX12_endsWord_41 kc_1 ?_
    refine J_goto 46 dX12_endsWord_42 rfl ?_
    cases H
    exact J_rZ dX12_endsWord_46 rfl rfl
  · replace H := br0 q4 H
    refine J_aload_n 0 dX12_endsWord_14 rfl rfl ?_
    refine J_gP 11 1 dX12_endsWord_15 g1 flX12_8 rfl rfl ?_
    refine J_iload_n 1 dX12_endsWord_18 rfl rfl ?_
    refine J_bipush (85 : Int32) dX12_endsWord_19 kb_85 ?_
    refine J_iadd dX12_endsWord_21 ?_
    refine J_iload_n 2 dX12_endsWord_22 rfl rfl ?_
    refine J_iadd dX12_endsWord_23 ?_
    obtain ⟨g5, H⟩ := gd H
    refine J_iald dX12_endsWord_24 g2 (inB_ok g5) ?_
    refine J_aload_n 0 dX12_endsWord_25 rfl rfl ?_
    refine J_gP 11 1 dX12_endsWord_26 g1 flX12_8 rfl rfl ?_
    refine J_iload_n 1 dX12_endsWord_29 rfl rfl ?_
    refine J_bipush (85 : Int32) dX12_endsWord_30 kb_85 ?_
    refine J_iadd dX12_endsWord_32 ?_
    refine J_iload_n 2 dX12_endsWord_33 rfl rfl ?_
    refine J_iadd dX12_endsWord_34 ?_
    refine J_iconst (1 : Int32) dX12_endsWord_35 kc_1 ?_
    refine J_iadd dX12_endsWord_36 ?_
    obtain ⟨g6, H⟩ := gd H
    refine J_iald dX12_endsWord_37 g2 (inB_ok g6) ?_
    refine J_icmp_eq 45 dX12_endsWord_38 rfl (fun q7 => ?_) (fun q7 => ?_)
    · replace H := br1 q7 H
      refine J_iconst (0 : Int32) dX12_endsWord_45 kc_0 ?_
      cases H
      exact J_rZ dX12_endsWord_46 rfl rfl
    · replace H := br0 q7 H
      refine J_iconst (1 : Int32) dX12_endsWord_41 kc_1 ?_
      refine J_goto 46 dX12_endsWord_42 rfl ?_
      cases H
      exact J_rZ dX12_endsWord_46 rfl rfl
theorem okX12_endsWord {d : Nat} {h : Hp} {v0 : Nat} {v1 : Int32} {v2 : Int32} {r : Int32} (H : MX12_endsWord h v0 v1 v2 = some r) : CT (d) YX12_endsWord [.ref v0, .int v1, .int v2] h (oI r) h := CT_of (by decide +kernel) (Nat.le_of_ble_eq_true rfl) (eX12_endsWord H)
noncomputable def MX12_isLast (h : Hp) (v0 : Nat) (v1 : Int32) (v2 : Int32) : Option Int32 :=
  gg (β := Int32) (kd h v0 = 11) <|
  Option.bind (α := Int32) (β := Int32) (MX12_part0 h v1) fun (t3 : Int32) =>
  gg (β := Int32) (kd h (gP h v0 1) = 20) <|
  gg (β := Int32) (inB (t3 + (1 : Int32)) (ln h (gP h v0 1)) = true) <|
  if v2 = ((gI h (gP h v0 1) (t3 + (1 : Int32)).toNatClampNeg) - (1 : Int32)) then
    some (1 : Int32)
  else
    some (0 : Int32)
set_option maxRecDepth 100000 in
set_option maxHeartbeats 8000000 in
theorem eX12_isLast {d : Nat} {h : Hp} {v0 : Nat} {v1 : Int32} {v2 : Int32} {r : Int32} (H : MX12_isLast h v0 v1 v2 = some r) : J (d + 1) YX12_isLast 0 [.ref v0, .int v1, .int v2] [] h (oI r) h := by
  unfold MX12_isLast at H
  refine J_iload_n 2 dX12_isLast_0 rfl rfl ?_
  refine J_aload_n 0 dX12_isLast_1 rfl rfl ?_
  obtain ⟨g1, H⟩ := gd H
  refine J_gP 11 1 dX12_isLast_2 g1 flX12_8 rfl rfl ?_
  refine J_iload_n 1 dX12_isLast_5 rfl rfl ?_
  obtain ⟨t3, e2, H⟩ := bd H
  refine J_cS (as := [.int v1]) YX12_part0 1 dX12_isLast_6 moX12_part0 msX12_part0 mlX12_164 (okX12_part0 (d := d) e2) rfl rfl [.ref (gP h v0 1), .int v2] rfl rfl (st2 := [.int t3, .ref (gP h v0 1), .int v2]) rfl ?_
  refine J_iconst (1 : Int32) dX12_isLast_9 kc_1 ?_
  refine J_iadd dX12_isLast_10 ?_
  obtain ⟨g4, H⟩ := gd H
  obtain ⟨g5, H⟩ := gd H
  refine J_iald dX12_isLast_11 g4 (inB_ok g5) ?_
  refine J_iconst (1 : Int32) dX12_isLast_12 kc_1 ?_
  refine J_isub dX12_isLast_13 ?_
  refine J_icmp_ne 21 dX12_isLast_14 rfl (fun q6 => ?_) (fun q6 => ?_)
  · replace H := br0 q6 H
    refine J_iconst (0 : Int32) dX12_isLast_21 kc_0 ?_
    cases H
    exact J_rZ dX12_isLast_22 rfl rfl
  · replace H := br1 q6 H
    refine J_iconst (1 : Int32) dX12_isLast_17 kc_1 ?_
    refine J_goto 22 dX12_isLast_18 rfl ?_
    cases H
    exact J_rZ dX12_isLast_22 rfl rfl
theorem okX12_isLast {d : Nat} {h : Hp} {v0 : Nat} {v1 : Int32} {v2 : Int32} {r : Int32} (H : MX12_isLast h v0 v1 v2 = some r) : CT (d + 1) YX12_isLast [.ref v0, .int v1, .int v2] h (oI r) h := CT_of (by decide +kernel) (Nat.le_of_ble_eq_true rfl) (eX12_isLast H)
noncomputable def MX12_gapsOf (h : Hp) (v0 : Nat) (v1 : Int32) (v2 : Int32) (v3 : Int32) : Option Int32 :=
  gg (β := Int32) (kd h v0 = 11) <|
  gg (β := Int32) (kd h (gP h v0 1) = 20) <|
  gg (β := Int32) (inB ((v1 + (85 : Int32)) + v3) (ln h (gP h v0 1)) = true) <|
  gg (β := Int32) (inB ((v1 + (85 : Int32)) + v2) (ln h (gP h v0 1)) = true) <|
  some ((gI h (gP h v0 1) ((v1 + (85 : Int32)) + v3).toNatClampNeg) - (gI h (gP h v0 1) ((v1 + (85 : Int32)) + v2).toNatClampNeg))
set_option maxRecDepth 100000 in
set_option maxHeartbeats 8000000 in
theorem eX12_gapsOf {d : Nat} {h : Hp} {v0 : Nat} {v1 : Int32} {v2 : Int32} {v3 : Int32} {r : Int32} (H : MX12_gapsOf h v0 v1 v2 v3 = some r) : J (d) YX12_gapsOf 0 [.ref v0, .int v1, .int v2, .int v3] [] h (oI r) h := by
  unfold MX12_gapsOf at H
  refine J_aload_n 0 dX12_gapsOf_0 rfl rfl ?_
  obtain ⟨g1, H⟩ := gd H
  refine J_gP 11 1 dX12_gapsOf_1 g1 flX12_8 rfl rfl ?_
  refine J_iload_n 1 dX12_gapsOf_4 rfl rfl ?_
  refine J_bipush (85 : Int32) dX12_gapsOf_5 kb_85 ?_
  refine J_iadd dX12_gapsOf_7 ?_
  refine J_iload_n 3 dX12_gapsOf_8 rfl rfl ?_
  refine J_iadd dX12_gapsOf_9 ?_
  obtain ⟨g2, H⟩ := gd H
  obtain ⟨g3, H⟩ := gd H
  refine J_iald dX12_gapsOf_10 g2 (inB_ok g3) ?_
  refine J_aload_n 0 dX12_gapsOf_11 rfl rfl ?_
  refine J_gP 11 1 dX12_gapsOf_12 g1 flX12_8 rfl rfl ?_
  refine J_iload_n 1 dX12_gapsOf_15 rfl rfl ?_
  refine J_bipush (85 : Int32) dX12_gapsOf_16 kb_85 ?_
  refine J_iadd dX12_gapsOf_18 ?_
  refine J_iload_n 2 dX12_gapsOf_19 rfl rfl ?_
  refine J_iadd dX12_gapsOf_20 ?_
  obtain ⟨g4, H⟩ := gd H
  refine J_iald dX12_gapsOf_21 g2 (inB_ok g4) ?_
  refine J_isub dX12_gapsOf_22 ?_
  cases H
  exact J_iretI dX12_gapsOf_23 rfl
theorem okX12_gapsOf {d : Nat} {h : Hp} {v0 : Nat} {v1 : Int32} {v2 : Int32} {v3 : Int32} {r : Int32} (H : MX12_gapsOf h v0 v1 v2 v3 = some r) : CT (d) YX12_gapsOf [.ref v0, .int v1, .int v2, .int v3] h (oI r) h := CT_of (by decide +kernel) (Nat.le_of_ble_eq_true rfl) (eX12_gapsOf H)
noncomputable def BX12_wide_63 (h : Hp) (v0 : Nat) (v3 : Int32) (v4 : Int32) (v5 : Int32) (v6 : Int32) (v7 : Int32) (v8 : Int32) : Option ((Int32 × Int32) ⊕ ((Int32 × Int32) ⊕ Int32)) :=
  gg (β := ((Int32 × Int32) ⊕ ((Int32 × Int32) ⊕ Int32))) (kd h v0 = 11) <|
  gg (β := ((Int32 × Int32) ⊕ ((Int32 × Int32) ⊕ Int32))) (kd h (gP h v0 1) = 20) <|
  gg (β := ((Int32 × Int32) ⊕ ((Int32 × Int32) ⊕ Int32))) (inB ((v4 + (125 : Int32)) + v7) (ln h (gP h v0 1)) = true) <|
  if (gI h (gP h v0 1) ((v4 + (125 : Int32)) + v7).toNatClampNeg) ≤ v8 then
    some (.inr (.inl (v6, (v7 + (1 : Int32)))))
  else
    gg (β := ((Int32 × Int32) ⊕ ((Int32 × Int32) ⊕ Int32))) (inB (((v4 + (165 : Int32)) + ((12 : Int32) * v7)) + v8) (ln h (gP h v0 1)) = true) <|
    gg (β := ((Int32 × Int32) ⊕ ((Int32 × Int32) ⊕ Int32))) (inB (v5 + (gI h (gP h v0 1) (((v4 + (165 : Int32)) + ((12 : Int32) * v7)) + v8).toNatClampNeg)) (ln h (gP h v0 1)) = true) <|
    lt (α := Int32) (β := Option ((Int32 × Int32) ⊕ ((Int32 × Int32) ⊕ Int32))) (v6 + (gI h (gP h v0 1) (v5 + (gI h (gP h v0 1) (((v4 + (165 : Int32)) + ((12 : Int32) * v7)) + v8).toNatClampNeg)).toNatClampNeg)) fun (w19 : Int32) =>
    some (.inl (w19, (v8 + (1 : Int32))))
set_option maxRecDepth 100000 in
set_option maxHeartbeats 8000000 in
theorem bX12_wide_63 {d : Nat} {h : Hp} {v0 : Nat} {v3 : Int32} {v4 : Int32} {v5 : Int32} {v6 : Int32} {v7 : Int32} {v8 : Int32} {r : Int32} {x : ((Int32 × Int32) ⊕ ((Int32 × Int32) ⊕ Int32))} (H : BX12_wide_63 h v0 v3 v4 v5 v6 v7 v8 = some x) (hb0 : ∀ s : Int32 × Int32, x = .inl s → J (d + 1) YX12_wide 63 [.ref v0, Value.null, Value.null, .int v3, .int v4, .int v5, .int s.1, .int v7, .int s.2] [] h (oI r) h) (hb1 : ∀ s : Int32 × Int32, x = .inr (.inl s) → J (d + 1) YX12_wide 54 [.ref v0, Value.null, Value.null, .int v3, .int v4, .int v5, .int s.1, .int s.2, Value.null] [] h (oI r) h) (hx : ∀ z : Int32, x = .inr (.inr (z)) → z = r) : J (d + 1) YX12_wide 63 [.ref v0, Value.null, Value.null, .int v3, .int v4, .int v5, .int v6, .int v7, .int v8] [] h (oI r) h := by
  unfold BX12_wide_63 at H
  refine J_iload dX12_wide_63 rfl ?_
  refine J_aload_n 0 dX12_wide_65 rfl rfl ?_
  obtain ⟨g13, H⟩ := gd H
  refine J_gP 11 1 dX12_wide_66 g13 flX12_8 rfl rfl ?_
  refine J_iload dX12_wide_69 rfl ?_
  refine J_bipush (125 : Int32) dX12_wide_71 kb_125 ?_
  refine J_iadd dX12_wide_73 ?_
  refine J_iload dX12_wide_74 rfl ?_
  refine J_iadd dX12_wide_76 ?_
  obtain ⟨g14, H⟩ := gd H
  obtain ⟨g15, H⟩ := gd H
  refine J_iald dX12_wide_77 g14 (inB_ok g15) ?_
  refine J_icmp_ge 120 dX12_wide_78 rfl (fun q16 => ?_) (fun q16 => ?_)
  · replace H := br1 q16 H
    refine J_iinc (v7 + (1 : Int32)) dX12_wide_120 rfl (congrArg (HAdd.hAdd v7) kc_1) (by decide) (ls' := [.ref v0, Value.null, Value.null, .int v3, .int v4, .int v5, .int v6, .int (v7 + (1 : Int32)), .int v8]) rfl ?_
    refine J_goto 54 dX12_wide_123 rfl ?_
    cases H
    exact J_dr (hb1 _ rfl) ⟨rfl, ⟨rfl, ⟨rfl, ⟨rfl, ⟨rfl, ⟨rfl, trivial⟩⟩⟩⟩⟩⟩
  · replace H := br0 q16 H
    refine J_iload dX12_wide_81 rfl ?_
    refine J_aload_n 0 dX12_wide_83 rfl rfl ?_
    refine J_gP 11 1 dX12_wide_84 g13 flX12_8 rfl rfl ?_
    refine J_iload dX12_wide_87 rfl ?_
    refine J_aload_n 0 dX12_wide_89 rfl rfl ?_
    refine J_gP 11 1 dX12_wide_90 g13 flX12_8 rfl rfl ?_
    refine J_iload dX12_wide_93 rfl ?_
    refine J_sipush (165 : Int32) dX12_wide_95 ks_165 ?_
    refine J_iadd dX12_wide_98 ?_
    refine J_bipush (12 : Int32) dX12_wide_99 kb_12 ?_
    refine J_iload dX12_wide_101 rfl ?_
    refine J_imul dX12_wide_103 ?_
    refine J_iadd dX12_wide_104 ?_
    refine J_iload dX12_wide_105 rfl ?_
    refine J_iadd dX12_wide_107 ?_
    obtain ⟨g17, H⟩ := gd H
    refine J_iald dX12_wide_108 g14 (inB_ok g17) ?_
    refine J_iadd dX12_wide_109 ?_
    obtain ⟨g18, H⟩ := gd H
    refine J_iald dX12_wide_110 g14 (inB_ok g18) ?_
    refine J_iadd dX12_wide_111 ?_
    obtain ⟨w19, e20, H⟩ := lt_el H
    refine J_nmI e20 ?_
    refine J_istore dX12_wide_112 (by decide) (ls' := [.ref v0, Value.null, Value.null, .int v3, .int v4, .int v5, .int w19, .int v7, .int v8]) rfl ?_
    refine J_iinc (v8 + (1 : Int32)) dX12_wide_114 rfl (congrArg (HAdd.hAdd v8) kc_1) (by decide) (ls' := [.ref v0, Value.null, Value.null, .int v3, .int v4, .int v5, .int w19, .int v7, .int (v8 + (1 : Int32))]) rfl ?_
    refine J_goto 63 dX12_wide_117 rfl ?_
    cases H
    exact J_dr (hb0 _ rfl) ⟨rfl, ⟨rfl, ⟨rfl, ⟨rfl, ⟨rfl, ⟨rfl, ⟨rfl, trivial⟩⟩⟩⟩⟩⟩⟩
noncomputable def MX12_wide_63 (h : Hp) (v0 : Nat) (v3 : Int32) (v4 : Int32) (v5 : Int32) (v6 : Int32) (v7 : Int32) (v8 : Int32) : Option ((Int32 × Int32) ⊕ Int32) := it (fun q : Int32 × Int32 => BX12_wide_63 h v0 v3 v4 v5 q.1 v7 q.2) (v6, v8)
set_option maxRecDepth 100000 in
set_option maxHeartbeats 8000000 in
theorem kX12_wide_63 {d : Nat} {h : Hp} {v0 : Nat} {v3 : Int32} {v4 : Int32} {v5 : Int32} {v6 : Int32} {v7 : Int32} {v8 : Int32} {r : Int32} {x : ((Int32 × Int32) ⊕ Int32)} (H : MX12_wide_63 h v0 v3 v4 v5 v6 v7 v8 = some x) (hb0 : ∀ s : Int32 × Int32, x = .inl s → J (d + 1) YX12_wide 54 [.ref v0, Value.null, Value.null, .int v3, .int v4, .int v5, .int s.1, .int s.2, Value.null] [] h (oI r) h) (hx : ∀ z : Int32, x = .inr (z) → z = r) : J (d + 1) YX12_wide 63 [.ref v0, Value.null, Value.null, .int v3, .int v4, .int v5, .int v6, .int v7, .int v8] [] h (oI r) h := by
  unfold MX12_wide_63 at H
  refine it_J (G := (fun q : Int32 × Int32 => J (d + 1) YX12_wide 63 [.ref v0, Value.null, Value.null, .int v3, .int v4, .int v5, .int q.1, .int v7, .int q.2] [] h (oI r) h)) (Q := (fun y : ((Int32 × Int32) ⊕ Int32) => (∀ s : Int32 × Int32, y = .inl s → J (d + 1) YX12_wide 54 [.ref v0, Value.null, Value.null, .int v3, .int v4, .int v5, .int s.1, .int s.2, Value.null] [] h (oI r) h) ∧ (∀ z : Int32, y = .inr (z) → z = r))) (fun q x Hq hm => ?_) H ⟨hb0, hx⟩
  exact bX12_wide_63 Hq (fun s hs => by subst hs; exact hm) (fun s hs => by subst hs; exact (hm.1) s rfl) (fun z hz => by subst hz; exact (hm.2) z rfl)
noncomputable def BX12_wide_54 (h : Hp) (v0 : Nat) (v3 : Int32) (v4 : Int32) (v5 : Int32) (v6 : Int32) (v7 : Int32) : Option ((Int32 × Int32) ⊕ Int32) :=
  if v3 < v7 then
    some (.inr (v6))
  else
    MX12_wide_63 h v0 v3 v4 v5 v6 v7 (0 : Int32)
set_option maxRecDepth 100000 in
set_option maxHeartbeats 8000000 in
theorem bX12_wide_54 {d : Nat} {h : Hp} {v0 : Nat} {v3 : Int32} {v4 : Int32} {v5 : Int32} {v6 : Int32} {v7 : Int32} {r : Int32} {x : ((Int32 × Int32) ⊕ Int32)} (H : BX12_wide_54 h v0 v3 v4 v5 v6 v7 = some x) (hb0 : ∀ s : Int32 × Int32, x = .inl s → J (d + 1) YX12_wide 54 [.ref v0, Value.null, Value.null, .int v3, .int v4, .int v5, .int s.1, .int s.2, Value.null] [] h (oI r) h) (hx : ∀ z : Int32, x = .inr (z) → z = r) : J (d + 1) YX12_wide 54 [.ref v0, Value.null, Value.null, .int v3, .int v4, .int v5, .int v6, .int v7, Value.null] [] h (oI r) h := by
  unfold BX12_wide_54 at H
  refine J_iload dX12_wide_54 rfl ?_
  refine J_iload_n 3 dX12_wide_56 rfl rfl ?_
  refine J_icmp_gt 126 dX12_wide_57 rfl (fun q12 => ?_) (fun q12 => ?_)
  · replace H := br1 q12 H
    refine J_iload dX12_wide_126 rfl ?_
    cases H
    cases hx _ rfl
    exact J_iretI dX12_wide_128 rfl
  · replace H := br0 q12 H
    refine J_iconst (0 : Int32) dX12_wide_60 kc_0 ?_
    refine J_istore dX12_wide_61 (by decide) (ls' := [.ref v0, Value.null, Value.null, .int v3, .int v4, .int v5, .int v6, .int v7, .int (0 : Int32)]) rfl ?_
    exact J_dr (kX12_wide_63 H hb0 hx) ⟨rfl, ⟨rfl, ⟨rfl, ⟨rfl, ⟨rfl, ⟨rfl, ⟨rfl, trivial⟩⟩⟩⟩⟩⟩⟩
noncomputable def MX12_wide_54 (h : Hp) (v0 : Nat) (v3 : Int32) (v4 : Int32) (v5 : Int32) (v6 : Int32) (v7 : Int32) : Option Int32 := it (fun q : Int32 × Int32 => BX12_wide_54 h v0 v3 v4 v5 q.1 q.2) (v6, v7)
set_option maxRecDepth 100000 in
set_option maxHeartbeats 8000000 in
theorem kX12_wide_54 {d : Nat} {h : Hp} {v0 : Nat} {v3 : Int32} {v4 : Int32} {v5 : Int32} {v6 : Int32} {v7 : Int32} {r : Int32} (H : MX12_wide_54 h v0 v3 v4 v5 v6 v7 = some r) : J (d + 1) YX12_wide 54 [.ref v0, Value.null, Value.null, .int v3, .int v4, .int v5, .int v6, .int v7, Value.null] [] h (oI r) h := by
  unfold MX12_wide_54 at H
  refine it_J (G := (fun q : Int32 × Int32 => J (d + 1) YX12_wide 54 [.ref v0, Value.null, Value.null, .int v3, .int v4, .int v5, .int q.1, .int q.2, Value.null] [] h (oI r) h)) (Q := (fun y : Int32 => y = r)) (fun q x Hq hm => ?_) H rfl
  exact bX12_wide_54 Hq (fun s hs => by subst hs; exact hm) (fun z hz => by subst hz; exact hm)
noncomputable def MX12_wide_49 (h : Hp) (v0 : Nat) (v2 : Int32) (v3 : Int32) (v4 : Int32) (v5 : Int32) (s0 : Int32) : Option Int32 :=
  MX12_wide_54 h v0 v3 v4 v5 s0 v2
set_option maxRecDepth 100000 in
set_option maxHeartbeats 8000000 in
theorem kX12_wide_49 {d : Nat} {h : Hp} {v0 : Nat} {v2 : Int32} {v3 : Int32} {v4 : Int32} {v5 : Int32} {s0 : Int32} {r : Int32} (H : MX12_wide_49 h v0 v2 v3 v4 v5 s0 = some r) : J (d + 1) YX12_wide 49 [.ref v0, Value.null, .int v2, .int v3, .int v4, .int v5, Value.null, Value.null, Value.null] [.int s0] h (oI r) h := by
  unfold MX12_wide_49 at H
  refine J_istore dX12_wide_49 (by decide) (ls' := [.ref v0, Value.null, .int v2, .int v3, .int v4, .int v5, .int s0, Value.null, Value.null]) rfl ?_
  refine J_iload_n 2 dX12_wide_51 rfl rfl ?_
  refine J_istore dX12_wide_52 (by decide) (ls' := [.ref v0, Value.null, .int v2, .int v3, .int v4, .int v5, .int s0, .int v2, Value.null]) rfl ?_
  exact J_dr (kX12_wide_54 H ) ⟨rfl, ⟨rfl, ⟨rfl, ⟨rfl, ⟨rfl, ⟨rfl, trivial⟩⟩⟩⟩⟩⟩
noncomputable def MX12_wide (h : Hp) (v0 : Nat) (v1 : Int32) (v2 : Int32) (v3 : Int32) : Option Int32 :=
  Option.bind (α := Int32) (β := Int32) (MX12_part0 h v1) fun (t2 : Int32) =>
  gg (β := Int32) (kd h v0 = 11) <|
  gg (β := Int32) (kd h (gP h v0 1) = 20) <|
  gg (β := Int32) (inB ((70 : Int32) + (v1 / (5 : Int32))) (ln h (gP h v0 1)) = true) <|
  lt (α := Int32) (β := Option Int32) ((16 : Int32) + ((27 : Int32) * (gI h (gP h v0 1) ((70 : Int32) + (v1 / (5 : Int32))).toNatClampNeg))) fun (w6 : Int32) =>
  Option.bind (α := Int32) (β := Int32) (MX12_endsWord h v0 t2 v3) fun (t9 : Int32) =>
  if t9 = 0 then
    gg (β := Int32) (inB (w6 + (26 : Int32)) (ln h (gP h v0 1)) = true) <|
    MX12_wide_49 h v0 v2 v3 t2 w6 (gI h (gP h v0 1) (w6 + (26 : Int32)).toNatClampNeg)
  else
    MX12_wide_49 h v0 v2 v3 t2 w6 (0 : Int32)
set_option maxRecDepth 100000 in
set_option maxHeartbeats 8000000 in
theorem eX12_wide {d : Nat} {h : Hp} {v0 : Nat} {v1 : Int32} {v2 : Int32} {v3 : Int32} {r : Int32} (H : MX12_wide h v0 v1 v2 v3 = some r) : J (d + 1) YX12_wide 0 [.ref v0, .int v1, .int v2, .int v3, Value.null, Value.null, Value.null, Value.null, Value.null] [] h (oI r) h := by
  unfold MX12_wide at H
  refine J_iload_n 1 dX12_wide_0 rfl rfl ?_
  obtain ⟨t2, e1, H⟩ := bd H
  refine J_cS (as := [.int v1]) YX12_part0 1 dX12_wide_1 moX12_part0 msX12_part0 mlX12_164 (okX12_part0 (d := d) e1) rfl rfl [] rfl rfl (st2 := [.int t2]) rfl ?_
  refine J_istore dX12_wide_4 (by decide) (ls' := [.ref v0, .int v1, .int v2, .int v3, .int t2, Value.null, Value.null, Value.null, Value.null]) rfl ?_
  refine J_bipush (16 : Int32) dX12_wide_6 kb_16 ?_
  refine J_bipush (27 : Int32) dX12_wide_8 kb_27 ?_
  refine J_aload_n 0 dX12_wide_10 rfl rfl ?_
  obtain ⟨g3, H⟩ := gd H
  refine J_gP 11 1 dX12_wide_11 g3 flX12_8 rfl rfl ?_
  refine J_bipush (70 : Int32) dX12_wide_14 kb_70 ?_
  refine J_iload_n 1 dX12_wide_16 rfl rfl ?_
  refine J_iconst (5 : Int32) dX12_wide_17 kc_5 ?_
  refine J_idiv dX12_wide_18 (by decide) ?_
  refine J_iadd dX12_wide_19 ?_
  obtain ⟨g4, H⟩ := gd H
  obtain ⟨g5, H⟩ := gd H
  refine J_iald dX12_wide_20 g4 (inB_ok g5) ?_
  refine J_imul dX12_wide_21 ?_
  refine J_iadd dX12_wide_22 ?_
  obtain ⟨w6, e7, H⟩ := lt_el H
  refine J_nmI e7 ?_
  refine J_istore dX12_wide_23 (by decide) (ls' := [.ref v0, .int v1, .int v2, .int v3, .int t2, .int w6, Value.null, Value.null, Value.null]) rfl ?_
  refine J_aload_n 0 dX12_wide_25 rfl rfl ?_
  refine J_iload dX12_wide_26 rfl ?_
  refine J_iload_n 3 dX12_wide_28 rfl rfl ?_
  obtain ⟨t9, e8, H⟩ := bd H
  refine J_cV (as := [.int t2, .int v3]) 11 YX12_endsWord 2 dX12_wide_29 moX12_endsWord mvX12_endsWord mlX12_317 g3 rfl rfl (okX12_endsWord (d := d) e8) rfl rfl [] rfl rfl (st2 := [.int t9]) rfl ?_
  refine J_if_eq 39 dX12_wide_32 rfl (fun q10 => ?_) (fun q10 => ?_)
  · replace H := br1 q10 H
    refine J_aload_n 0 dX12_wide_39 rfl rfl ?_
    refine J_gP 11 1 dX12_wide_40 g3 flX12_8 rfl rfl ?_
    refine J_iload dX12_wide_43 rfl ?_
    refine J_bipush (26 : Int32) dX12_wide_45 kb_26 ?_
    refine J_iadd dX12_wide_47 ?_
    obtain ⟨g11, H⟩ := gd H
    refine J_iald dX12_wide_48 g4 (inB_ok g11) ?_
    exact J_dr (kX12_wide_49 H ) ⟨rfl, ⟨rfl, ⟨rfl, ⟨rfl, ⟨rfl, trivial⟩⟩⟩⟩⟩
  · replace H := br0 q10 H
    refine J_iconst (0 : Int32) dX12_wide_35 kc_0 ?_
    refine J_goto 49 dX12_wide_36 rfl ?_
    exact J_dr (kX12_wide_49 H ) ⟨rfl, ⟨rfl, ⟨rfl, ⟨rfl, ⟨rfl, trivial⟩⟩⟩⟩⟩
theorem okX12_wide {d : Nat} {h : Hp} {v0 : Nat} {v1 : Int32} {v2 : Int32} {v3 : Int32} {r : Int32} (H : MX12_wide h v0 v1 v2 v3 = some r) : CT (d + 1) YX12_wide [.ref v0, .int v1, .int v2, .int v3] h (oI r) h := CT_of (by decide +kernel) (Nat.le_of_ble_eq_true rfl) (eX12_wide H)
noncomputable def MX12_tight (h : Hp) (v0 : Nat) (v1 : Int32) (v2 : Int32) (v3 : Int32) : Option Int32 :=
  gg (β := Int32) (kd h v0 = 11) <|
  Option.bind (α := Int32) (β := Int32) (MX12_wide h v0 v1 v2 v3) fun (t3 : Int32) =>
  Option.bind (α := Int32) (β := Int32) (MX12_part0 h v1) fun (t5 : Int32) =>
  Option.bind (α := Int32) (β := Int32) (MX12_gapsOf h v0 t5 v2 v3) fun (t7 : Int32) =>
  some (t3 + ((gI h v0 27) * t7))
set_option maxRecDepth 100000 in
set_option maxHeartbeats 8000000 in
theorem eX12_tight {d : Nat} {h : Hp} {v0 : Nat} {v1 : Int32} {v2 : Int32} {v3 : Int32} {r : Int32} (H : MX12_tight h v0 v1 v2 v3 = some r) : J (d + 2) YX12_tight 0 [.ref v0, .int v1, .int v2, .int v3] [] h (oI r) h := by
  unfold MX12_tight at H
  refine J_aload_n 0 dX12_tight_0 rfl rfl ?_
  refine J_iload_n 1 dX12_tight_1 rfl rfl ?_
  refine J_iload_n 2 dX12_tight_2 rfl rfl ?_
  refine J_iload_n 3 dX12_tight_3 rfl rfl ?_
  obtain ⟨g2, H⟩ := gd H
  obtain ⟨t3, e1, H⟩ := bd H
  refine J_cV (as := [.int v1, .int v2, .int v3]) 11 YX12_wide 3 dX12_tight_4 moX12_wide mvX12_wide mlX12_320 g2 rfl rfl (okX12_wide (d := d) e1) rfl rfl [] rfl rfl (st2 := [.int t3]) rfl ?_
  refine J_aload_n 0 dX12_tight_7 rfl rfl ?_
  refine J_getI 11 27 dX12_tight_8 g2 flX12_300 rfl ?_
  refine J_aload_n 0 dX12_tight_11 rfl rfl ?_
  refine J_iload_n 1 dX12_tight_12 rfl rfl ?_
  obtain ⟨t5, e4, H⟩ := bd H
  refine J_cS (as := [.int v1]) YX12_part0 1 dX12_tight_13 moX12_part0 msX12_part0 mlX12_164 (okX12_part0 (d := d + 1) e4) rfl rfl [.ref v0, .int (gI h v0 27), .int t3] rfl rfl (st2 := [.int t5, .ref v0, .int (gI h v0 27), .int t3]) rfl ?_
  refine J_iload_n 2 dX12_tight_16 rfl rfl ?_
  refine J_iload_n 3 dX12_tight_17 rfl rfl ?_
  obtain ⟨t7, e6, H⟩ := bd H
  refine J_cV (as := [.int t5, .int v2, .int v3]) 11 YX12_gapsOf 3 dX12_tight_18 moX12_gapsOf mvX12_gapsOf mlX12_324 g2 rfl rfl (okX12_gapsOf (d := d + 1) e6) rfl rfl [.int (gI h v0 27), .int t3] rfl rfl (st2 := [.int t7, .int (gI h v0 27), .int t3]) rfl ?_
  refine J_imul dX12_tight_21 ?_
  refine J_iadd dX12_tight_22 ?_
  cases H
  exact J_iretI dX12_tight_23 rfl
theorem okX12_tight {d : Nat} {h : Hp} {v0 : Nat} {v1 : Int32} {v2 : Int32} {v3 : Int32} {r : Int32} (H : MX12_tight h v0 v1 v2 v3 = some r) : CT (d + 2) YX12_tight [.ref v0, .int v1, .int v2, .int v3] h (oI r) h := CT_of (by decide +kernel) (Nat.le_of_ble_eq_true rfl) (eX12_tight H)
noncomputable def MX12_badness_50 (h : Hp) (s0 : Int32) (s1 : Int32) : Option Int32 :=
  some (s0 + s1)
set_option maxRecDepth 100000 in
set_option maxHeartbeats 8000000 in
theorem kX12_badness_50 {d : Nat} {h : Hp} {s0 : Int32} {s1 : Int32} {r : Int32} (H : MX12_badness_50 h s0 s1 = some r) : J (d + 3) YX12_badness 50 [Value.null, Value.null, Value.null, Value.null, Value.null] [.int s1, .int s0] h (oI r) h := by
  unfold MX12_badness_50 at H
  refine J_iadd dX12_badness_50 ?_
  cases H
  exact J_iretI dX12_badness_51 rfl
noncomputable def MX12_badness (h : Hp) (v0 : Nat) (v1 : Int32) (v2 : Int32) (v3 : Int32) : Option Int32 :=
  gg (β := Int32) (kd h v0 = 11) <|
  Option.bind (α := Int32) (β := Int32) (MX12_isLast h v0 v1 v3) fun (t3 : Int32) =>
  if t3 = 0 then
    Option.bind (α := Int32) (β := Int32) (MX12_tight h v0 v1 v2 v3) fun (t6 : Int32) =>
    Option.bind (α := Int32) (β := Int32) (MX12_part0 h v1) fun (t8 : Int32) =>
    Option.bind (α := Int32) (β := Int32) (MX12_endsWord h v0 t8 v3) fun (t10 : Int32) =>
    if t10 = 0 then
      MX12_badness_50 h (((gI h v0 25) - t6) * ((gI h v0 25) - t6)) (gI h v0 29)
    else
      MX12_badness_50 h (((gI h v0 25) - t6) * ((gI h v0 25) - t6)) (0 : Int32)
  else
    some (0 : Int32)
set_option maxRecDepth 100000 in
set_option maxHeartbeats 8000000 in
theorem eX12_badness {d : Nat} {h : Hp} {v0 : Nat} {v1 : Int32} {v2 : Int32} {v3 : Int32} {r : Int32} (H : MX12_badness h v0 v1 v2 v3 = some r) : J (d + 3) YX12_badness 0 [.ref v0, .int v1, .int v2, .int v3, Value.null] [] h (oI r) h := by
  unfold MX12_badness at H
  refine J_aload_n 0 dX12_badness_0 rfl rfl ?_
  refine J_iload_n 1 dX12_badness_1 rfl rfl ?_
  refine J_iload_n 3 dX12_badness_2 rfl rfl ?_
  obtain ⟨g2, H⟩ := gd H
  obtain ⟨t3, e1, H⟩ := bd H
  refine J_cV (as := [.int v1, .int v3]) 11 YX12_isLast 2 dX12_badness_3 moX12_isLast mvX12_isLast mlX12_330 g2 rfl rfl (okX12_isLast (d := d + 1) e1) rfl rfl [] rfl rfl (st2 := [.int t3]) rfl ?_
  refine J_if_eq 11 dX12_badness_6 rfl (fun q4 => ?_) (fun q4 => ?_)
  · replace H := br1 q4 H
    refine J_aload_n 0 dX12_badness_11 rfl rfl ?_
    refine J_getI 11 25 dX12_badness_12 g2 flX12_298 rfl ?_
    refine J_aload_n 0 dX12_badness_15 rfl rfl ?_
    refine J_iload_n 1 dX12_badness_16 rfl rfl ?_
    refine J_iload_n 2 dX12_badness_17 rfl rfl ?_
    refine J_iload_n 3 dX12_badness_18 rfl rfl ?_
    obtain ⟨t6, e5, H⟩ := bd H
    refine J_cV (as := [.int v1, .int v2, .int v3]) 11 YX12_tight 3 dX12_badness_19 moX12_tight mvX12_tight mlX12_327 g2 rfl rfl (okX12_tight (d := d) e5) rfl rfl [.int (gI h v0 25)] rfl rfl (st2 := [.int t6, .int (gI h v0 25)]) rfl ?_
    refine J_isub dX12_badness_22 ?_
    refine J_istore dX12_badness_23 (by decide) (ls' := [.ref v0, .int v1, .int v2, .int v3, .int ((gI h v0 25) - t6)]) rfl ?_
    refine J_iload dX12_badness_25 rfl ?_
    refine J_iload dX12_badness_27 rfl ?_
    refine J_imul dX12_badness_29 ?_
    refine J_aload_n 0 dX12_badness_30 rfl rfl ?_
    refine J_iload_n 1 dX12_badness_31 rfl rfl ?_
    obtain ⟨t8, e7, H⟩ := bd H
    refine J_cS (as := [.int v1]) YX12_part0 1 dX12_badness_32 moX12_part0 msX12_part0 mlX12_164 (okX12_part0 (d := d + 2) e7) rfl rfl [.ref v0, .int (((gI h v0 25) - t6) * ((gI h v0 25) - t6))] rfl rfl (st2 := [.int t8, .ref v0, .int (((gI h v0 25) - t6) * ((gI h v0 25) - t6))]) rfl ?_
    refine J_iload_n 3 dX12_badness_35 rfl rfl ?_
    obtain ⟨t10, e9, H⟩ := bd H
    refine J_cV (as := [.int t8, .int v3]) 11 YX12_endsWord 2 dX12_badness_36 moX12_endsWord mvX12_endsWord mlX12_317 g2 rfl rfl (okX12_endsWord (d := d + 2) e9) rfl rfl [.int (((gI h v0 25) - t6) * ((gI h v0 25) - t6))] rfl rfl (st2 := [.int t10, .int (((gI h v0 25) - t6) * ((gI h v0 25) - t6))]) rfl ?_
    refine J_if_eq 46 dX12_badness_39 rfl (fun q11 => ?_) (fun q11 => ?_)
    · replace H := br1 q11 H
      refine J_aload_n 0 dX12_badness_46 rfl rfl ?_
      refine J_getI 11 29 dX12_badness_47 g2 flX12_306 rfl ?_
      exact J_dr (kX12_badness_50 H ) trivial
    · replace H := br0 q11 H
      refine J_iconst (0 : Int32) dX12_badness_42 kc_0 ?_
      refine J_goto 50 dX12_badness_43 rfl ?_
      exact J_dr (kX12_badness_50 H ) trivial
  · replace H := br0 q4 H
    refine J_iconst (0 : Int32) dX12_badness_9 kc_0 ?_
    cases H
    exact J_iretI dX12_badness_10 rfl
theorem okX12_badness {d : Nat} {h : Hp} {v0 : Nat} {v1 : Int32} {v2 : Int32} {v3 : Int32} {r : Int32} (H : MX12_badness h v0 v1 v2 v3 = some r) : CT (d + 3) YX12_badness [.ref v0, .int v1, .int v2, .int v3] h (oI r) h := CT_of (by decide +kernel) (Nat.le_of_ble_eq_true rfl) (eX12_badness H)
noncomputable def MX12_isStanding (h : Hp) (v0 : Nat) (v1 : Int32) (v2 : Int32) (v3 : Int32) : Option Int32 :=
  gg (β := Int32) (kd h v0 = 11) <|
  Option.bind (α := Int32) (β := Int32) (MX12_tight h v0 v1 v2 v3) fun (t3 : Int32) =>
  if t3 ≤ (gI h v0 25) then
    Option.bind (α := Int32) (β := Int32) (MX12_isLast h v0 v1 v3) fun (t6 : Int32) =>
    if t6 = 0 then
      Option.bind (α := Int32) (β := Int32) (MX12_wide h v0 v1 v2 v3) fun (t9 : Int32) =>
      Option.bind (α := Int32) (β := Int32) (MX12_part0 h v1) fun (t11 : Int32) =>
      Option.bind (α := Int32) (β := Int32) (MX12_gapsOf h v0 t11 v2 v3) fun (t13 : Int32) =>
      if (t9 + ((gI h v0 28) * t13)) < (gI h v0 25) then
        some (0 : Int32)
      else
        some (1 : Int32)
    else
      some (1 : Int32)
  else
    some (0 : Int32)
set_option maxRecDepth 100000 in
set_option maxHeartbeats 8000000 in
theorem eX12_isStanding {d : Nat} {h : Hp} {v0 : Nat} {v1 : Int32} {v2 : Int32} {v3 : Int32} {r : Int32} (H : MX12_isStanding h v0 v1 v2 v3 = some r) : J (d + 3) YX12_isStanding 0 [.ref v0, .int v1, .int v2, .int v3] [] h (oI r) h := by
  unfold MX12_isStanding at H
  refine J_aload_n 0 dX12_isStanding_0 rfl rfl ?_
  refine J_iload_n 1 dX12_isStanding_1 rfl rfl ?_
  refine J_iload_n 2 dX12_isStanding_2 rfl rfl ?_
  refine J_iload_n 3 dX12_isStanding_3 rfl rfl ?_
  obtain ⟨g2, H⟩ := gd H
  obtain ⟨t3, e1, H⟩ := bd H
  refine J_cV (as := [.int v1, .int v2, .int v3]) 11 YX12_tight 3 dX12_isStanding_4 moX12_tight mvX12_tight mlX12_327 g2 rfl rfl (okX12_tight (d := d) e1) rfl rfl [] rfl rfl (st2 := [.int t3]) rfl ?_
  refine J_aload_n 0 dX12_isStanding_7 rfl rfl ?_
  refine J_getI 11 25 dX12_isStanding_8 g2 flX12_298 rfl ?_
  refine J_icmp_le 16 dX12_isStanding_11 rfl (fun q4 => ?_) (fun q4 => ?_)
  · replace H := br1 q4 H
    refine J_aload_n 0 dX12_isStanding_16 rfl rfl ?_
    refine J_iload_n 1 dX12_isStanding_17 rfl rfl ?_
    refine J_iload_n 3 dX12_isStanding_18 rfl rfl ?_
    obtain ⟨t6, e5, H⟩ := bd H
    refine J_cV (as := [.int v1, .int v3]) 11 YX12_isLast 2 dX12_isStanding_19 moX12_isLast mvX12_isLast mlX12_330 g2 rfl rfl (okX12_isLast (d := d + 1) e5) rfl rfl [] rfl rfl (st2 := [.int t6]) rfl ?_
    refine J_if_ne 55 dX12_isStanding_22 rfl (fun q7 => ?_) (fun q7 => ?_)
    · replace H := br0 q7 H
      refine J_iconst (1 : Int32) dX12_isStanding_55 kc_1 ?_
      refine J_goto 60 dX12_isStanding_56 rfl ?_
      cases H
      exact J_rZ dX12_isStanding_60 rfl rfl
    · replace H := br1 q7 H
      refine J_aload_n 0 dX12_isStanding_25 rfl rfl ?_
      refine J_iload_n 1 dX12_isStanding_26 rfl rfl ?_
      refine J_iload_n 2 dX12_isStanding_27 rfl rfl ?_
      refine J_iload_n 3 dX12_isStanding_28 rfl rfl ?_
      obtain ⟨t9, e8, H⟩ := bd H
      refine J_cV (as := [.int v1, .int v2, .int v3]) 11 YX12_wide 3 dX12_isStanding_29 moX12_wide mvX12_wide mlX12_320 g2 rfl rfl (okX12_wide (d := d + 1) e8) rfl rfl [] rfl rfl (st2 := [.int t9]) rfl ?_
      refine J_aload_n 0 dX12_isStanding_32 rfl rfl ?_
      refine J_getI 11 28 dX12_isStanding_33 g2 flX12_303 rfl ?_
      refine J_aload_n 0 dX12_isStanding_36 rfl rfl ?_
      refine J_iload_n 1 dX12_isStanding_37 rfl rfl ?_
      obtain ⟨t11, e10, H⟩ := bd H
      refine J_cS (as := [.int v1]) YX12_part0 1 dX12_isStanding_38 moX12_part0 msX12_part0 mlX12_164 (okX12_part0 (d := d + 2) e10) rfl rfl [.ref v0, .int (gI h v0 28), .int t9] rfl rfl (st2 := [.int t11, .ref v0, .int (gI h v0 28), .int t9]) rfl ?_
      refine J_iload_n 2 dX12_isStanding_41 rfl rfl ?_
      refine J_iload_n 3 dX12_isStanding_42 rfl rfl ?_
      obtain ⟨t13, e12, H⟩ := bd H
      refine J_cV (as := [.int t11, .int v2, .int v3]) 11 YX12_gapsOf 3 dX12_isStanding_43 moX12_gapsOf mvX12_gapsOf mlX12_324 g2 rfl rfl (okX12_gapsOf (d := d + 2) e12) rfl rfl [.int (gI h v0 28), .int t9] rfl rfl (st2 := [.int t13, .int (gI h v0 28), .int t9]) rfl ?_
      refine J_imul dX12_isStanding_46 ?_
      refine J_iadd dX12_isStanding_47 ?_
      refine J_aload_n 0 dX12_isStanding_48 rfl rfl ?_
      refine J_getI 11 25 dX12_isStanding_49 g2 flX12_298 rfl ?_
      refine J_icmp_lt 59 dX12_isStanding_52 rfl (fun q14 => ?_) (fun q14 => ?_)
      · replace H := br1 q14 H
        refine J_iconst (0 : Int32) dX12_isStanding_59 kc_0 ?_
        cases H
        exact J_rZ dX12_isStanding_60 rfl rfl
      · replace H := br0 q14 H
        refine J_iconst (1 : Int32) dX12_isStanding_55 kc_1 ?_
        refine J_goto 60 dX12_isStanding_56 rfl ?_
        cases H
        exact J_rZ dX12_isStanding_60 rfl rfl
  · replace H := br0 q4 H
    refine J_iconst (0 : Int32) dX12_isStanding_14 kc_0 ?_
    cases H
    exact J_rZ dX12_isStanding_15 rfl rfl
theorem okX12_isStanding {d : Nat} {h : Hp} {v0 : Nat} {v1 : Int32} {v2 : Int32} {v3 : Int32} {r : Int32} (H : MX12_isStanding h v0 v1 v2 v3 = some r) : CT (d + 3) YX12_isStanding [.ref v0, .int v1, .int v2, .int v3] h (oI r) h := CT_of (by decide +kernel) (Nat.le_of_ble_eq_true rfl) (eX12_isStanding H)
