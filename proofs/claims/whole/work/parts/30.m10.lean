noncomputable def MX12_story_322 (h : Hp) (v0 : Nat) (v3 : Int32) : Option (Int32 × Hp) :=
  gg (β := (Int32 × Hp)) (kd h v0 = 11) <|
  gg (β := (Int32 × Hp)) (kd h (gP h v0 1) = 20) <|
  gg (β := (Int32 × Hp)) (inB (1 : Int32) (ln h (gP h v0 1)) = true) <|
  lt (α := Hp) (β := Option (Int32 × Hp)) (sI h (gP h v0 1) (1 : Int32).toNatClampNeg ((gI h (gP h v0 1) (1 : Int32).toNatClampNeg) + (1 : Int32))) fun (h58 : Hp) =>
  some (v3, h58)
set_option maxRecDepth 100000 in
set_option maxHeartbeats 8000000 in
theorem kX12_story_322 {d : Nat} {h : Hp} {v0 : Nat} {v3 : Int32} {r : Int32} {h9 : Hp} (H : MX12_story_322 h v0 v3 = some (r, h9)) : J (d + 3) YX12_story 322 [.ref v0, Value.null, Value.null, .int v3, Value.null, Value.null, Value.null, Value.null] [] h (oI r) h9 := by
  unfold MX12_story_322 at H
  refine J_aload_n 0 dX12_story_322 rfl rfl ?_
  obtain ⟨g55, H⟩ := gd H
  refine J_gP 11 1 dX12_story_323 g55 flX12_8 rfl rfl ?_
  refine J_iconst (1 : Int32) dX12_story_326 kc_1 ?_
  refine J_dup2 dX12_story_327 rfl rfl ?_
  obtain ⟨g56, H⟩ := gd H
  obtain ⟨g57, H⟩ := gd H
  refine J_iald dX12_story_328 g56 (inB_ok g57) ?_
  refine J_iconst (1 : Int32) dX12_story_329 kc_1 ?_
  refine J_iadd dX12_story_330 ?_
  obtain ⟨h58, e59, H⟩ := lt_el H
  refine J_sI dX12_story_331 g56 (inB_ok g57) e59 ?_
  have c60 := ekI e59
  have c61 := elI e59
  have c62 := epI e59
  refine J_iload_n 3 dX12_story_332 rfl rfl ?_
  cases H
  exact J_iretI dX12_story_333 rfl
noncomputable def BX12_story_258 (h : Hp) (v0 : Nat) (v3 : Int32) (v4 : Int32) (v5 : Int32) (v6 : Int32) (v7 : Int32) : Option ((Int32 × Hp) ⊕ ((Int32 × Hp) ⊕ ((Int32 × Hp) ⊕ (Int32 × Hp)))) :=
  if (12 : Int32) ≤ v7 then
    some (.inr (.inl ((v6 + (1 : Int32)), h)))
  else
    gg (β := ((Int32 × Hp) ⊕ ((Int32 × Hp) ⊕ ((Int32 × Hp) ⊕ (Int32 × Hp))))) (kd h v0 = 11) <|
    gg (β := ((Int32 × Hp) ⊕ ((Int32 × Hp) ⊕ ((Int32 × Hp) ⊕ (Int32 × Hp))))) (kd h (gP h v0 14) = 20) <|
    gg (β := ((Int32 × Hp) ⊕ ((Int32 × Hp) ⊕ ((Int32 × Hp) ⊕ (Int32 × Hp))))) (inB (((12 : Int32) * (((40 : Int32) * v4) + v6)) + v7) (ln h (gP h v0 14)) = true) <|
    gg (β := ((Int32 × Hp) ⊕ ((Int32 × Hp) ⊕ ((Int32 × Hp) ⊕ (Int32 × Hp))))) (kd h (gP h v0 1) = 20) <|
    gg (β := ((Int32 × Hp) ⊕ ((Int32 × Hp) ⊕ ((Int32 × Hp) ⊕ (Int32 × Hp))))) (inB (((v5 + (165 : Int32)) + ((12 : Int32) * v6)) + v7) (ln h (gP h v0 1)) = true) <|
    lt (α := Hp) (β := Option ((Int32 × Hp) ⊕ ((Int32 × Hp) ⊕ ((Int32 × Hp) ⊕ (Int32 × Hp))))) (sI h (gP h v0 1) (((v5 + (165 : Int32)) + ((12 : Int32) * v6)) + v7).toNatClampNeg (gI h (gP h v0 14) (((12 : Int32) * (((40 : Int32) * v4) + v6)) + v7).toNatClampNeg)) fun (h109 : Hp) =>
    some (.inl ((v7 + (1 : Int32)), h109))
set_option maxRecDepth 100000 in
set_option maxHeartbeats 8000000 in
theorem bX12_story_258 {d : Nat} {h : Hp} {v0 : Nat} {v3 : Int32} {v4 : Int32} {v5 : Int32} {v6 : Int32} {v7 : Int32} {r : Int32} {h9 : Hp} {x : ((Int32 × Hp) ⊕ ((Int32 × Hp) ⊕ ((Int32 × Hp) ⊕ (Int32 × Hp))))} (H : BX12_story_258 h v0 v3 v4 v5 v6 v7 = some x) (hb0 : ∀ s : Int32 × Hp, x = .inl s → J (d + 3) YX12_story 258 [.ref v0, Value.null, Value.null, .int v3, .int v4, .int v5, .int v6, .int s.1] [] s.2 (oI r) h9) (hb1 : ∀ s : Int32 × Hp, x = .inr (.inl s) → J (d + 3) YX12_story 191 [.ref v0, Value.null, Value.null, .int v3, .int v4, .int v5, .int s.1, Value.null] [] s.2 (oI r) h9) (hb2 : ∀ s : Int32 × Hp, x = .inr (.inr (.inl s)) → J (d + 3) YX12_story 136 [.ref v0, Value.null, Value.null, .int v3, .int s.1, Value.null, Value.null, Value.null] [] s.2 (oI r) h9) (hx : ∀ z : (Int32 × Hp), x = .inr (.inr (.inr (z))) → z = (r, h9)) : J (d + 3) YX12_story 258 [.ref v0, Value.null, Value.null, .int v3, .int v4, .int v5, .int v6, .int v7] [] h (oI r) h9 := by
  unfold BX12_story_258 at H
  refine J_iload dX12_story_258 rfl ?_
  refine J_bipush (12 : Int32) dX12_story_260 kb_12 ?_
  refine J_icmp_ge 310 dX12_story_262 rfl (fun q103 => ?_) (fun q103 => ?_)
  · replace H := br1 q103 H
    refine J_iinc (v6 + (1 : Int32)) dX12_story_310 rfl (congrArg (HAdd.hAdd v6) kc_1) (by decide) (ls' := [.ref v0, Value.null, Value.null, .int v3, .int v4, .int v5, .int (v6 + (1 : Int32)), .int v7]) rfl ?_
    refine J_goto 191 dX12_story_313 rfl ?_
    cases H
    exact J_dr (hb1 _ rfl) ⟨rfl, ⟨rfl, ⟨rfl, ⟨rfl, ⟨rfl, trivial⟩⟩⟩⟩⟩
  · replace H := br0 q103 H
    refine J_aload_n 0 dX12_story_265 rfl rfl ?_
    obtain ⟨g104, H⟩ := gd H
    refine J_gP 11 1 dX12_story_266 g104 flX12_8 rfl rfl ?_
    refine J_iload dX12_story_269 rfl ?_
    refine J_sipush (165 : Int32) dX12_story_271 ks_165 ?_
    refine J_iadd dX12_story_274 ?_
    refine J_bipush (12 : Int32) dX12_story_275 kb_12 ?_
    refine J_iload dX12_story_277 rfl ?_
    refine J_imul dX12_story_279 ?_
    refine J_iadd dX12_story_280 ?_
    refine J_iload dX12_story_281 rfl ?_
    refine J_iadd dX12_story_283 ?_
    refine J_aload_n 0 dX12_story_284 rfl rfl ?_
    refine J_gP 11 14 dX12_story_285 g104 flX12_33 rfl rfl ?_
    refine J_bipush (12 : Int32) dX12_story_288 kb_12 ?_
    refine J_bipush (40 : Int32) dX12_story_290 kb_40 ?_
    refine J_iload dX12_story_292 rfl ?_
    refine J_imul dX12_story_294 ?_
    refine J_iload dX12_story_295 rfl ?_
    refine J_iadd dX12_story_297 ?_
    refine J_imul dX12_story_298 ?_
    refine J_iload dX12_story_299 rfl ?_
    refine J_iadd dX12_story_301 ?_
    obtain ⟨g105, H⟩ := gd H
    obtain ⟨g106, H⟩ := gd H
    refine J_iald dX12_story_302 g105 (inB_ok g106) ?_
    obtain ⟨g107, H⟩ := gd H
    obtain ⟨g108, H⟩ := gd H
    obtain ⟨h109, e110, H⟩ := lt_el H
    refine J_sI dX12_story_303 g107 (inB_ok g108) e110 ?_
    have c111 := ekI e110
    have c112 := elI e110
    have c113 := epI e110
    refine J_iinc (v7 + (1 : Int32)) dX12_story_304 rfl (congrArg (HAdd.hAdd v7) kc_1) (by decide) (ls' := [.ref v0, Value.null, Value.null, .int v3, .int v4, .int v5, .int v6, .int (v7 + (1 : Int32))]) rfl ?_
    refine J_goto 258 dX12_story_307 rfl ?_
    cases H
    exact J_dr (hb0 _ rfl) ⟨rfl, ⟨rfl, ⟨rfl, ⟨rfl, ⟨rfl, ⟨rfl, trivial⟩⟩⟩⟩⟩⟩
noncomputable def MX12_story_258 (h : Hp) (v0 : Nat) (v3 : Int32) (v4 : Int32) (v5 : Int32) (v6 : Int32) (v7 : Int32) : Option ((Int32 × Hp) ⊕ ((Int32 × Hp) ⊕ (Int32 × Hp))) := it (fun q : Int32 × Hp => BX12_story_258 q.2 v0 v3 v4 v5 v6 q.1) (v7, h)
set_option maxRecDepth 100000 in
set_option maxHeartbeats 8000000 in
theorem kX12_story_258 {d : Nat} {h : Hp} {v0 : Nat} {v3 : Int32} {v4 : Int32} {v5 : Int32} {v6 : Int32} {v7 : Int32} {r : Int32} {h9 : Hp} {x : ((Int32 × Hp) ⊕ ((Int32 × Hp) ⊕ (Int32 × Hp)))} (H : MX12_story_258 h v0 v3 v4 v5 v6 v7 = some x) (hb0 : ∀ s : Int32 × Hp, x = .inl s → J (d + 3) YX12_story 191 [.ref v0, Value.null, Value.null, .int v3, .int v4, .int v5, .int s.1, Value.null] [] s.2 (oI r) h9) (hb1 : ∀ s : Int32 × Hp, x = .inr (.inl s) → J (d + 3) YX12_story 136 [.ref v0, Value.null, Value.null, .int v3, .int s.1, Value.null, Value.null, Value.null] [] s.2 (oI r) h9) (hx : ∀ z : (Int32 × Hp), x = .inr (.inr (z)) → z = (r, h9)) : J (d + 3) YX12_story 258 [.ref v0, Value.null, Value.null, .int v3, .int v4, .int v5, .int v6, .int v7] [] h (oI r) h9 := by
  unfold MX12_story_258 at H
  refine it_J (G := (fun q : Int32 × Hp => J (d + 3) YX12_story 258 [.ref v0, Value.null, Value.null, .int v3, .int v4, .int v5, .int v6, .int q.1] [] q.2 (oI r) h9)) (Q := (fun y : ((Int32 × Hp) ⊕ ((Int32 × Hp) ⊕ (Int32 × Hp))) => (∀ s : Int32 × Hp, y = .inl s → J (d + 3) YX12_story 191 [.ref v0, Value.null, Value.null, .int v3, .int v4, .int v5, .int s.1, Value.null] [] s.2 (oI r) h9) ∧ (∀ s : Int32 × Hp, y = .inr (.inl s) → J (d + 3) YX12_story 136 [.ref v0, Value.null, Value.null, .int v3, .int s.1, Value.null, Value.null, Value.null] [] s.2 (oI r) h9) ∧ (∀ z : (Int32 × Hp), y = .inr (.inr (z)) → z = (r, h9)))) (fun q x Hq hm => ?_) H ⟨hb0, hb1, hx⟩
  exact bX12_story_258 Hq (fun s hs => by subst hs; exact hm) (fun s hs => by subst hs; exact (hm.1) s rfl) (fun s hs => by subst hs; exact (hm.2.1) s rfl) (fun z hz => by subst hz; exact (hm.2.2) z rfl)
noncomputable def BX12_story_191 (h : Hp) (v0 : Nat) (v3 : Int32) (v4 : Int32) (v5 : Int32) (v6 : Int32) : Option ((Int32 × Hp) ⊕ ((Int32 × Hp) ⊕ (Int32 × Hp))) :=
  gg (β := ((Int32 × Hp) ⊕ ((Int32 × Hp) ⊕ (Int32 × Hp)))) (kd h v0 = 11) <|
  gg (β := ((Int32 × Hp) ⊕ ((Int32 × Hp) ⊕ (Int32 × Hp)))) (kd h (gP h v0 15) = 20) <|
  gg (β := ((Int32 × Hp) ⊕ ((Int32 × Hp) ⊕ (Int32 × Hp)))) (inB v4 (ln h (gP h v0 15)) = true) <|
  if (gI h (gP h v0 15) v4.toNatClampNeg) ≤ v6 then
    some (.inr (.inl ((v4 + (1 : Int32)), h)))
  else
    gg (β := ((Int32 × Hp) ⊕ ((Int32 × Hp) ⊕ (Int32 × Hp)))) (kd h (gP h v0 12) = 20) <|
    gg (β := ((Int32 × Hp) ⊕ ((Int32 × Hp) ⊕ (Int32 × Hp)))) (inB (((40 : Int32) * v4) + v6) (ln h (gP h v0 12)) = true) <|
    gg (β := ((Int32 × Hp) ⊕ ((Int32 × Hp) ⊕ (Int32 × Hp)))) (kd h (gP h v0 1) = 20) <|
    gg (β := ((Int32 × Hp) ⊕ ((Int32 × Hp) ⊕ (Int32 × Hp)))) (inB ((v5 + (85 : Int32)) + v6) (ln h (gP h v0 1)) = true) <|
    lt (α := Hp) (β := Option ((Int32 × Hp) ⊕ ((Int32 × Hp) ⊕ (Int32 × Hp)))) (sI h (gP h v0 1) ((v5 + (85 : Int32)) + v6).toNatClampNeg (gI h (gP h v0 12) (((40 : Int32) * v4) + v6).toNatClampNeg)) fun (h90 : Hp) =>
    gg (β := ((Int32 × Hp) ⊕ ((Int32 × Hp) ⊕ (Int32 × Hp)))) (kd h (gP h v0 13) = 20) <|
    gg (β := ((Int32 × Hp) ⊕ ((Int32 × Hp) ⊕ (Int32 × Hp)))) (inB (((40 : Int32) * v4) + v6) (ln h (gP h v0 13)) = true) <|
    gg (β := ((Int32 × Hp) ⊕ ((Int32 × Hp) ⊕ (Int32 × Hp)))) (inB ((v5 + (125 : Int32)) + v6) (ln h (gP h v0 1)) = true) <|
    lt (α := Hp) (β := Option ((Int32 × Hp) ⊕ ((Int32 × Hp) ⊕ (Int32 × Hp)))) (sI h90 (gP h v0 1) ((v5 + (125 : Int32)) + v6).toNatClampNeg (gI h90 (gP h v0 13) (((40 : Int32) * v4) + v6).toNatClampNeg)) fun (h98 : Hp) =>
    MX12_story_258 h98 v0 v3 v4 v5 v6 (0 : Int32)
set_option maxRecDepth 100000 in
set_option maxHeartbeats 8000000 in
theorem bX12_story_191 {d : Nat} {h : Hp} {v0 : Nat} {v3 : Int32} {v4 : Int32} {v5 : Int32} {v6 : Int32} {r : Int32} {h9 : Hp} {x : ((Int32 × Hp) ⊕ ((Int32 × Hp) ⊕ (Int32 × Hp)))} (H : BX12_story_191 h v0 v3 v4 v5 v6 = some x) (hb0 : ∀ s : Int32 × Hp, x = .inl s → J (d + 3) YX12_story 191 [.ref v0, Value.null, Value.null, .int v3, .int v4, .int v5, .int s.1, Value.null] [] s.2 (oI r) h9) (hb1 : ∀ s : Int32 × Hp, x = .inr (.inl s) → J (d + 3) YX12_story 136 [.ref v0, Value.null, Value.null, .int v3, .int s.1, Value.null, Value.null, Value.null] [] s.2 (oI r) h9) (hx : ∀ z : (Int32 × Hp), x = .inr (.inr (z)) → z = (r, h9)) : J (d + 3) YX12_story 191 [.ref v0, Value.null, Value.null, .int v3, .int v4, .int v5, .int v6, Value.null] [] h (oI r) h9 := by
  unfold BX12_story_191 at H
  refine J_iload dX12_story_191 rfl ?_
  refine J_aload_n 0 dX12_story_193 rfl rfl ?_
  obtain ⟨g82, H⟩ := gd H
  refine J_gP 11 15 dX12_story_194 g82 flX12_36 rfl rfl ?_
  refine J_iload dX12_story_197 rfl ?_
  obtain ⟨g83, H⟩ := gd H
  obtain ⟨g84, H⟩ := gd H
  refine J_iald dX12_story_199 g83 (inB_ok g84) ?_
  refine J_icmp_ge 316 dX12_story_200 rfl (fun q85 => ?_) (fun q85 => ?_)
  · replace H := br1 q85 H
    refine J_iinc (v4 + (1 : Int32)) dX12_story_316 rfl (congrArg (HAdd.hAdd v4) kc_1) (by decide) (ls' := [.ref v0, Value.null, Value.null, .int v3, .int (v4 + (1 : Int32)), .int v5, .int v6, Value.null]) rfl ?_
    refine J_goto 136 dX12_story_319 rfl ?_
    cases H
    exact J_dr (hb1 _ rfl) ⟨rfl, ⟨rfl, ⟨rfl, trivial⟩⟩⟩
  · replace H := br0 q85 H
    refine J_aload_n 0 dX12_story_203 rfl rfl ?_
    refine J_gP 11 1 dX12_story_204 g82 flX12_8 rfl rfl ?_
    refine J_iload dX12_story_207 rfl ?_
    refine J_bipush (85 : Int32) dX12_story_209 kb_85 ?_
    refine J_iadd dX12_story_211 ?_
    refine J_iload dX12_story_212 rfl ?_
    refine J_iadd dX12_story_214 ?_
    refine J_aload_n 0 dX12_story_215 rfl rfl ?_
    refine J_gP 11 12 dX12_story_216 g82 flX12_27 rfl rfl ?_
    refine J_bipush (40 : Int32) dX12_story_219 kb_40 ?_
    refine J_iload dX12_story_221 rfl ?_
    refine J_imul dX12_story_223 ?_
    refine J_iload dX12_story_224 rfl ?_
    refine J_iadd dX12_story_226 ?_
    obtain ⟨g86, H⟩ := gd H
    obtain ⟨g87, H⟩ := gd H
    refine J_iald dX12_story_227 g86 (inB_ok g87) ?_
    obtain ⟨g88, H⟩ := gd H
    obtain ⟨g89, H⟩ := gd H
    obtain ⟨h90, e91, H⟩ := lt_el H
    refine J_sI dX12_story_228 g88 (inB_ok g89) e91 ?_
    have c92 := ekI e91
    have c93 := elI e91
    have c94 := epI e91
    refine J_aload_n 0 dX12_story_229 rfl rfl ?_
    refine J_gP 11 1 dX12_story_230 (kq c92 g82) flX12_8 rfl (congrFun (congrFun c94 v0) 1) ?_
    refine J_iload dX12_story_233 rfl ?_
    refine J_bipush (125 : Int32) dX12_story_235 kb_125 ?_
    refine J_iadd dX12_story_237 ?_
    refine J_iload dX12_story_238 rfl ?_
    refine J_iadd dX12_story_240 ?_
    refine J_aload_n 0 dX12_story_241 rfl rfl ?_
    refine J_gP 11 13 dX12_story_242 (kq c92 g82) flX12_30 rfl (congrFun (congrFun c94 v0) 13) ?_
    refine J_bipush (40 : Int32) dX12_story_245 kb_40 ?_
    refine J_iload dX12_story_247 rfl ?_
    refine J_imul dX12_story_249 ?_
    refine J_iload dX12_story_250 rfl ?_
    refine J_iadd dX12_story_252 ?_
    obtain ⟨g95, H⟩ := gd H
    obtain ⟨g96, H⟩ := gd H
    refine J_iald dX12_story_253 (kq c92 g95) (lq c93 g96) ?_
    obtain ⟨g97, H⟩ := gd H
    obtain ⟨h98, e99, H⟩ := lt_el H
    refine J_sI dX12_story_254 (kq c92 g88) (lq c93 g97) e99 ?_
    have c100 := (ekI e99).trans c92
    have c101 := (elI e99).trans c93
    have c102 := (epI e99).trans c94
    refine J_iconst (0 : Int32) dX12_story_255 kc_0 ?_
    refine J_istore dX12_story_256 (by decide) (ls' := [.ref v0, Value.null, Value.null, .int v3, .int v4, .int v5, .int v6, .int (0 : Int32)]) rfl ?_
    exact J_dr (kX12_story_258 H hb0 hb1 hx) ⟨rfl, ⟨rfl, ⟨rfl, ⟨rfl, ⟨rfl, ⟨rfl, trivial⟩⟩⟩⟩⟩⟩
noncomputable def MX12_story_191 (h : Hp) (v0 : Nat) (v3 : Int32) (v4 : Int32) (v5 : Int32) (v6 : Int32) : Option ((Int32 × Hp) ⊕ (Int32 × Hp)) := it (fun q : Int32 × Hp => BX12_story_191 q.2 v0 v3 v4 v5 q.1) (v6, h)
set_option maxRecDepth 100000 in
set_option maxHeartbeats 8000000 in
theorem kX12_story_191 {d : Nat} {h : Hp} {v0 : Nat} {v3 : Int32} {v4 : Int32} {v5 : Int32} {v6 : Int32} {r : Int32} {h9 : Hp} {x : ((Int32 × Hp) ⊕ (Int32 × Hp))} (H : MX12_story_191 h v0 v3 v4 v5 v6 = some x) (hb0 : ∀ s : Int32 × Hp, x = .inl s → J (d + 3) YX12_story 136 [.ref v0, Value.null, Value.null, .int v3, .int s.1, Value.null, Value.null, Value.null] [] s.2 (oI r) h9) (hx : ∀ z : (Int32 × Hp), x = .inr (z) → z = (r, h9)) : J (d + 3) YX12_story 191 [.ref v0, Value.null, Value.null, .int v3, .int v4, .int v5, .int v6, Value.null] [] h (oI r) h9 := by
  unfold MX12_story_191 at H
  refine it_J (G := (fun q : Int32 × Hp => J (d + 3) YX12_story 191 [.ref v0, Value.null, Value.null, .int v3, .int v4, .int v5, .int q.1, Value.null] [] q.2 (oI r) h9)) (Q := (fun y : ((Int32 × Hp) ⊕ (Int32 × Hp)) => (∀ s : Int32 × Hp, y = .inl s → J (d + 3) YX12_story 136 [.ref v0, Value.null, Value.null, .int v3, .int s.1, Value.null, Value.null, Value.null] [] s.2 (oI r) h9) ∧ (∀ z : (Int32 × Hp), y = .inr (z) → z = (r, h9)))) (fun q x Hq hm => ?_) H ⟨hb0, hx⟩
  exact bX12_story_191 Hq (fun s hs => by subst hs; exact hm) (fun s hs => by subst hs; exact (hm.1) s rfl) (fun z hz => by subst hz; exact (hm.2) z rfl)
noncomputable def BX12_story_136 (h : Hp) (v0 : Nat) (v3 : Int32) (v4 : Int32) : Option ((Int32 × Hp) ⊕ (Int32 × Hp)) :=
  gg (β := ((Int32 × Hp) ⊕ (Int32 × Hp))) (kd h v0 = 11) <|
  if (gI h v0 17) < v4 then
    up1 (MX12_story_322 h v0 v3)
  else
    Option.bind (α := Int32) (β := ((Int32 × Hp) ⊕ (Int32 × Hp))) (MX12_part0 h (((5 : Int32) * v3) + v4)) fun (t64 : Int32) =>
    gg (β := ((Int32 × Hp) ⊕ (Int32 × Hp))) (kd h (gP h v0 16) = 20) <|
    gg (β := ((Int32 × Hp) ⊕ (Int32 × Hp))) (inB v4 (ln h (gP h v0 16)) = true) <|
    gg (β := ((Int32 × Hp) ⊕ (Int32 × Hp))) (kd h (gP h v0 1) = 20) <|
    gg (β := ((Int32 × Hp) ⊕ (Int32 × Hp))) (inB (t64 + (0 : Int32)) (ln h (gP h v0 1)) = true) <|
    lt (α := Hp) (β := Option ((Int32 × Hp) ⊕ (Int32 × Hp))) (sI h (gP h v0 1) (t64 + (0 : Int32)).toNatClampNeg (gI h (gP h v0 16) v4.toNatClampNeg)) fun (h69 : Hp) =>
    gg (β := ((Int32 × Hp) ⊕ (Int32 × Hp))) (kd h (gP h v0 15) = 20) <|
    gg (β := ((Int32 × Hp) ⊕ (Int32 × Hp))) (inB v4 (ln h (gP h v0 15)) = true) <|
    gg (β := ((Int32 × Hp) ⊕ (Int32 × Hp))) (inB (t64 + (1 : Int32)) (ln h (gP h v0 1)) = true) <|
    lt (α := Hp) (β := Option ((Int32 × Hp) ⊕ (Int32 × Hp))) (sI h69 (gP h v0 1) (t64 + (1 : Int32)).toNatClampNeg (gI h69 (gP h v0 15) v4.toNatClampNeg)) fun (h77 : Hp) =>
    MX12_story_191 h77 v0 v3 v4 t64 (0 : Int32)
set_option maxRecDepth 100000 in
set_option maxHeartbeats 8000000 in
theorem bX12_story_136 {d : Nat} {h : Hp} {v0 : Nat} {v3 : Int32} {v4 : Int32} {r : Int32} {h9 : Hp} {x : ((Int32 × Hp) ⊕ (Int32 × Hp))} (H : BX12_story_136 h v0 v3 v4 = some x) (hb0 : ∀ s : Int32 × Hp, x = .inl s → J (d + 3) YX12_story 136 [.ref v0, Value.null, Value.null, .int v3, .int s.1, Value.null, Value.null, Value.null] [] s.2 (oI r) h9) (hx : ∀ z : (Int32 × Hp), x = .inr (z) → z = (r, h9)) : J (d + 3) YX12_story 136 [.ref v0, Value.null, Value.null, .int v3, .int v4, Value.null, Value.null, Value.null] [] h (oI r) h9 := by
  unfold BX12_story_136 at H
  refine J_iload dX12_story_136 rfl ?_
  refine J_aload_n 0 dX12_story_138 rfl rfl ?_
  obtain ⟨g53, H⟩ := gd H
  refine J_getI 11 17 dX12_story_139 g53 flX12_140 rfl ?_
  refine J_icmp_gt 322 dX12_story_142 rfl (fun q54 => ?_) (fun q54 => ?_)
  · replace H := br1 q54 H
    obtain ⟨y0, H90, rfl⟩ := up1_el H
    replace H := H90
    obtain rfl := hx _ rfl
    exact J_dr (kX12_story_322 H ) ⟨rfl, ⟨rfl, trivial⟩⟩
  · replace H := br0 q54 H
    refine J_iconst (5 : Int32) dX12_story_145 kc_5 ?_
    refine J_iload_n 3 dX12_story_146 rfl rfl ?_
    refine J_imul dX12_story_147 ?_
    refine J_iload dX12_story_148 rfl ?_
    refine J_iadd dX12_story_150 ?_
    obtain ⟨t64, e63, H⟩ := bd H
    refine J_cS (as := [.int (((5 : Int32) * v3) + v4)]) YX12_part0 1 dX12_story_151 moX12_part0 msX12_part0 mlX12_164 (okX12_part0 (d := d + 2) e63) rfl rfl [] rfl rfl (st2 := [.int t64]) rfl ?_
    refine J_istore dX12_story_154 (by decide) (ls' := [.ref v0, Value.null, Value.null, .int v3, .int v4, .int t64, Value.null, Value.null]) rfl ?_
    refine J_aload_n 0 dX12_story_156 rfl rfl ?_
    refine J_gP 11 1 dX12_story_157 g53 flX12_8 rfl rfl ?_
    refine J_iload dX12_story_160 rfl ?_
    refine J_iconst (0 : Int32) dX12_story_162 kc_0 ?_
    refine J_iadd dX12_story_163 ?_
    refine J_aload_n 0 dX12_story_164 rfl rfl ?_
    refine J_gP 11 16 dX12_story_165 g53 flX12_39 rfl rfl ?_
    refine J_iload dX12_story_168 rfl ?_
    obtain ⟨g65, H⟩ := gd H
    obtain ⟨g66, H⟩ := gd H
    refine J_iald dX12_story_170 g65 (inB_ok g66) ?_
    obtain ⟨g67, H⟩ := gd H
    obtain ⟨g68, H⟩ := gd H
    obtain ⟨h69, e70, H⟩ := lt_el H
    refine J_sI dX12_story_171 g67 (inB_ok g68) e70 ?_
    have c71 := ekI e70
    have c72 := elI e70
    have c73 := epI e70
    refine J_aload_n 0 dX12_story_172 rfl rfl ?_
    refine J_gP 11 1 dX12_story_173 (kq c71 g53) flX12_8 rfl (congrFun (congrFun c73 v0) 1) ?_
    refine J_iload dX12_story_176 rfl ?_
    refine J_iconst (1 : Int32) dX12_story_178 kc_1 ?_
    refine J_iadd dX12_story_179 ?_
    refine J_aload_n 0 dX12_story_180 rfl rfl ?_
    refine J_gP 11 15 dX12_story_181 (kq c71 g53) flX12_36 rfl (congrFun (congrFun c73 v0) 15) ?_
    refine J_iload dX12_story_184 rfl ?_
    obtain ⟨g74, H⟩ := gd H
    obtain ⟨g75, H⟩ := gd H
    refine J_iald dX12_story_186 (kq c71 g74) (lq c72 g75) ?_
    obtain ⟨g76, H⟩ := gd H
    obtain ⟨h77, e78, H⟩ := lt_el H
    refine J_sI dX12_story_187 (kq c71 g67) (lq c72 g76) e78 ?_
    have c79 := (ekI e78).trans c71
    have c80 := (elI e78).trans c72
    have c81 := (epI e78).trans c73
    refine J_iconst (0 : Int32) dX12_story_188 kc_0 ?_
    refine J_istore dX12_story_189 (by decide) (ls' := [.ref v0, Value.null, Value.null, .int v3, .int v4, .int t64, .int (0 : Int32), Value.null]) rfl ?_
    exact J_dr (kX12_story_191 H hb0 hx) ⟨rfl, ⟨rfl, ⟨rfl, ⟨rfl, ⟨rfl, trivial⟩⟩⟩⟩⟩
noncomputable def MX12_story_136 (h : Hp) (v0 : Nat) (v3 : Int32) (v4 : Int32) : Option (Int32 × Hp) := it (fun q : Int32 × Hp => BX12_story_136 q.2 v0 v3 q.1) (v4, h)
set_option maxRecDepth 100000 in
set_option maxHeartbeats 8000000 in
theorem kX12_story_136 {d : Nat} {h : Hp} {v0 : Nat} {v3 : Int32} {v4 : Int32} {r : Int32} {h9 : Hp} (H : MX12_story_136 h v0 v3 v4 = some (r, h9)) : J (d + 3) YX12_story 136 [.ref v0, Value.null, Value.null, .int v3, .int v4, Value.null, Value.null, Value.null] [] h (oI r) h9 := by
  unfold MX12_story_136 at H
  refine it_J (G := (fun q : Int32 × Hp => J (d + 3) YX12_story 136 [.ref v0, Value.null, Value.null, .int v3, .int q.1, Value.null, Value.null, Value.null] [] q.2 (oI r) h9)) (Q := (fun y : (Int32 × Hp) => y = (r, h9))) (fun q x Hq hm => ?_) H rfl
  exact bX12_story_136 Hq (fun s hs => by subst hs; exact hm) (fun z hz => by subst hz; exact hm)
noncomputable def MX12_story_82 (h : Hp) (v0 : Nat) (v1 : Int32) (v2 : Int32) : Option (Int32 × Hp) :=
  gg (β := (Int32 × Hp)) (kd h v0 = 11) <|
  if (gI h v0 0) ≤ 0 then
    gg (β := (Int32 × Hp)) (kd h (gP h v0 1) = 20) <|
    gg (β := (Int32 × Hp)) (inB (1 : Int32) (ln h (gP h v0 1)) = true) <|
    gg (β := (Int32 × Hp)) (inB ((70 : Int32) + (gI h (gP h v0 1) (1 : Int32).toNatClampNeg)) (ln h (gP h v0 1)) = true) <|
    lt (α := Hp) (β := Option (Int32 × Hp)) (sI h (gP h v0 1) ((70 : Int32) + (gI h (gP h v0 1) (1 : Int32).toNatClampNeg)).toNatClampNeg v1) fun (h36 : Hp) =>
    gg (β := (Int32 × Hp)) (inB ((90 : Int32) + (gI h (gP h v0 1) (1 : Int32).toNatClampNeg)) (ln h (gP h v0 1)) = true) <|
    lt (α := Hp) (β := Option (Int32 × Hp)) (sI h36 (gP h v0 1) ((90 : Int32) + (gI h (gP h v0 1) (1 : Int32).toNatClampNeg)).toNatClampNeg v2) fun (h42 : Hp) =>
    gg (β := (Int32 × Hp)) (inB ((110 : Int32) + (gI h (gP h v0 1) (1 : Int32).toNatClampNeg)) (ln h (gP h v0 1)) = true) <|
    lt (α := Hp) (β := Option (Int32 × Hp)) (sI h42 (gP h v0 1) ((110 : Int32) + (gI h (gP h v0 1) (1 : Int32).toNatClampNeg)).toNatClampNeg ((gI h42 v0 17) + (1 : Int32))) fun (h48 : Hp) =>
    MX12_story_136 h48 v0 (gI h (gP h v0 1) (1 : Int32).toNatClampNeg) (0 : Int32)
  else
    some ((0 : Int32), h)
set_option maxRecDepth 100000 in
set_option maxHeartbeats 8000000 in
theorem kX12_story_82 {d : Nat} {h : Hp} {v0 : Nat} {v1 : Int32} {v2 : Int32} {r : Int32} {h9 : Hp} (H : MX12_story_82 h v0 v1 v2 = some (r, h9)) : J (d + 3) YX12_story 82 [.ref v0, .int v1, .int v2, Value.null, Value.null, Value.null, Value.null, Value.null] [] h (oI r) h9 := by
  unfold MX12_story_82 at H
  refine J_aload_n 0 dX12_story_82 rfl rfl ?_
  obtain ⟨g31, H⟩ := gd H
  refine J_getI 11 0 dX12_story_83 g31 flX12_122 rfl ?_
  refine J_if_le 91 dX12_story_86 rfl (fun q32 => ?_) (fun q32 => ?_)
  · replace H := br1 q32 H
    refine J_aload_n 0 dX12_story_91 rfl rfl ?_
    refine J_gP 11 1 dX12_story_92 g31 flX12_8 rfl rfl ?_
    refine J_iconst (1 : Int32) dX12_story_95 kc_1 ?_
    obtain ⟨g33, H⟩ := gd H
    obtain ⟨g34, H⟩ := gd H
    refine J_iald dX12_story_96 g33 (inB_ok g34) ?_
    refine J_istore_n 3 dX12_story_97 rfl (by decide) (ls' := [.ref v0, .int v1, .int v2, .int (gI h (gP h v0 1) (1 : Int32).toNatClampNeg), Value.null, Value.null, Value.null, Value.null]) rfl ?_
    refine J_aload_n 0 dX12_story_98 rfl rfl ?_
    refine J_gP 11 1 dX12_story_99 g31 flX12_8 rfl rfl ?_
    refine J_bipush (70 : Int32) dX12_story_102 kb_70 ?_
    refine J_iload_n 3 dX12_story_104 rfl rfl ?_
    refine J_iadd dX12_story_105 ?_
    refine J_iload_n 1 dX12_story_106 rfl rfl ?_
    obtain ⟨g35, H⟩ := gd H
    obtain ⟨h36, e37, H⟩ := lt_el H
    refine J_sI dX12_story_107 g33 (inB_ok g35) e37 ?_
    have c38 := ekI e37
    have c39 := elI e37
    have c40 := epI e37
    refine J_aload_n 0 dX12_story_108 rfl rfl ?_
    refine J_gP 11 1 dX12_story_109 (kq c38 g31) flX12_8 rfl (congrFun (congrFun c40 v0) 1) ?_
    refine J_bipush (90 : Int32) dX12_story_112 kb_90 ?_
    refine J_iload_n 3 dX12_story_114 rfl rfl ?_
    refine J_iadd dX12_story_115 ?_
    refine J_iload_n 2 dX12_story_116 rfl rfl ?_
    obtain ⟨g41, H⟩ := gd H
    obtain ⟨h42, e43, H⟩ := lt_el H
    refine J_sI dX12_story_117 (kq c38 g33) (lq c39 g41) e43 ?_
    have c44 := (ekI e43).trans c38
    have c45 := (elI e43).trans c39
    have c46 := (epI e43).trans c40
    refine J_aload_n 0 dX12_story_118 rfl rfl ?_
    refine J_gP 11 1 dX12_story_119 (kq c44 g31) flX12_8 rfl (congrFun (congrFun c46 v0) 1) ?_
    refine J_bipush (110 : Int32) dX12_story_122 kb_110 ?_
    refine J_iload_n 3 dX12_story_124 rfl rfl ?_
    refine J_iadd dX12_story_125 ?_
    refine J_aload_n 0 dX12_story_126 rfl rfl ?_
    refine J_getI 11 17 dX12_story_127 (kq c44 g31) flX12_140 rfl ?_
    refine J_iconst (1 : Int32) dX12_story_130 kc_1 ?_
    refine J_iadd dX12_story_131 ?_
    obtain ⟨g47, H⟩ := gd H
    obtain ⟨h48, e49, H⟩ := lt_el H
    refine J_sI dX12_story_132 (kq c44 g33) (lq c45 g47) e49 ?_
    have c50 := (ekI e49).trans c44
    have c51 := (elI e49).trans c45
    have c52 := (epI e49).trans c46
    refine J_iconst (0 : Int32) dX12_story_133 kc_0 ?_
    refine J_istore dX12_story_134 (by decide) (ls' := [.ref v0, .int v1, .int v2, .int (gI h (gP h v0 1) (1 : Int32).toNatClampNeg), .int (0 : Int32), Value.null, Value.null, Value.null]) rfl ?_
    exact J_dr (kX12_story_136 H ) ⟨rfl, ⟨rfl, ⟨rfl, trivial⟩⟩⟩
  · replace H := br0 q32 H
    refine J_iconst (0 : Int32) dX12_story_89 kc_0 ?_
    cases H
    exact J_iretI dX12_story_90 rfl
noncomputable def MX12_story_34 (h : Hp) (v0 : Nat) (v1 : Int32) (v2 : Int32) (s0 : Nat) (s1 : Int32) : Option (Int32 × Hp) :=
  gg (β := (Int32 × Hp)) (kd h s0 = 11) <|
  lt (α := Hp) (β := Option (Int32 × Hp)) (sI h s0 0 s1) fun (h11 : Hp) =>
  gg (β := (Int32 × Hp)) (kd h v0 = 11) <|
  if (gI h11 v0 0) ≤ 0 then
    lt (α := Hp) (β := Option (Int32 × Hp)) (sI h11 v0 9 (-1 : Int32)) fun (h18 : Hp) =>
    b2 (α := Int32) (β := Hp) (γ := (Int32 × Hp)) (MX12_readStory h18 v0) fun (t25 : Int32) (h24 : Hp) =>
    if t25 = 0 then
      gg (β := (Int32 × Hp)) (kd h24 v0 = 11) <|
      lt (α := Hp) (β := Option (Int32 × Hp)) (sI h24 v0 0 (2 : Int32)) fun (h120 : Hp) =>
      MX12_story_82 h120 v0 v1 v2
    else
      gg (β := (Int32 × Hp)) (kd h24 v0 = 11) <|
      gg (β := (Int32 × Hp)) (kd h24 (gP h24 v0 1) = 20) <|
      gg (β := (Int32 × Hp)) (inB (1 : Int32) (ln h24 (gP h24 v0 1)) = true) <|
      if (gI h24 (gP h24 v0 1) (1 : Int32).toNatClampNeg) = (20 : Int32) then
        lt (α := Hp) (β := Option (Int32 × Hp)) (sI h24 v0 0 (3 : Int32)) fun (h114 : Hp) =>
        MX12_story_82 h114 v0 v1 v2
      else
        MX12_story_82 h24 v0 v1 v2
  else
    some ((0 : Int32), h11)
set_option maxRecDepth 100000 in
set_option maxHeartbeats 8000000 in
theorem kX12_story_34 {d : Nat} {h : Hp} {v0 : Nat} {v1 : Int32} {v2 : Int32} {s0 : Nat} {s1 : Int32} {r : Int32} {h9 : Hp} (H : MX12_story_34 h v0 v1 v2 s0 s1 = some (r, h9)) : J (d + 3) YX12_story 34 [.ref v0, .int v1, .int v2, Value.null, Value.null, Value.null, Value.null, Value.null] [.int s1, .ref s0] h (oI r) h9 := by
  unfold MX12_story_34 at H
  obtain ⟨g10, H⟩ := gd H
  obtain ⟨h11, e12, H⟩ := lt_el H
  refine J_pI 11 0 dX12_story_34 g10 flX12_122 rfl rfl e12 ?_
  have c13 := ekI e12
  have c14 := elI e12
  have c15 := epI e12
  refine J_aload_n 0 dX12_story_37 rfl rfl ?_
  obtain ⟨g16, H⟩ := gd H
  refine J_getI 11 0 dX12_story_38 (kq c13 g16) flX12_122 rfl ?_
  refine J_if_le 46 dX12_story_41 rfl (fun q17 => ?_) (fun q17 => ?_)
  · replace H := br1 q17 H
    refine J_aload_n 0 dX12_story_46 rfl rfl ?_
    refine J_iconst (-1 : Int32) dX12_story_47 kc_m1 ?_
    obtain ⟨h18, e19, H⟩ := lt_el H
    refine J_pI 11 9 dX12_story_48 (kq c13 g16) flX12_23 rfl rfl e19 ?_
    have c20 := (ekI e19).trans c13
    have c21 := (elI e19).trans c14
    have c22 := (epI e19).trans c15
    refine J_aload_n 0 dX12_story_51 rfl rfl ?_
    obtain ⟨t25, h24, e23, H⟩ := b2_el H
    refine J_cV (as := []) 11 YX12_readStory 0 dX12_story_52 moX12_readStory mvX12_readStory mlX12_160 (kq c20 g16) rfl rfl (okX12_readStory (d := d) e23) rfl rfl [] rfl rfl (st2 := [.int t25]) rfl ?_
    refine J_if_ne 66 dX12_story_55 rfl (fun q26 => ?_) (fun q26 => ?_)
    · replace H := br0 q26 H
      refine J_aload_n 0 dX12_story_66 rfl rfl ?_
      obtain ⟨g27, H⟩ := gd H
      refine J_gP 11 1 dX12_story_67 g27 flX12_8 rfl rfl ?_
      refine J_iconst (1 : Int32) dX12_story_70 kc_1 ?_
      obtain ⟨g28, H⟩ := gd H
      obtain ⟨g29, H⟩ := gd H
      refine J_iald dX12_story_71 g28 (inB_ok g29) ?_
      refine J_bipush (20 : Int32) dX12_story_72 kb_20 ?_
      refine J_icmp_ne 82 dX12_story_74 rfl (fun q30 => ?_) (fun q30 => ?_)
      · replace H := br0 q30 H
        exact J_dr (kX12_story_82 H ) ⟨rfl, ⟨rfl, ⟨rfl, trivial⟩⟩⟩
      · replace H := br1 q30 H
        refine J_aload_n 0 dX12_story_77 rfl rfl ?_
        refine J_iconst (3 : Int32) dX12_story_78 kc_3 ?_
        obtain ⟨h114, e115, H⟩ := lt_el H
        refine J_pI 11 0 dX12_story_79 g27 flX12_122 rfl rfl e115 ?_
        have c116 := ekI e115
        have c117 := elI e115
        have c118 := epI e115
        exact J_dr (kX12_story_82 H ) ⟨rfl, ⟨rfl, ⟨rfl, trivial⟩⟩⟩
    · replace H := br1 q26 H
      refine J_aload_n 0 dX12_story_58 rfl rfl ?_
      refine J_iconst (2 : Int32) dX12_story_59 kc_2 ?_
      obtain ⟨g119, H⟩ := gd H
      obtain ⟨h120, e121, H⟩ := lt_el H
      refine J_pI 11 0 dX12_story_60 g119 flX12_122 rfl rfl e121 ?_
      have c122 := ekI e121
      have c123 := elI e121
      have c124 := epI e121
      refine J_goto 82 dX12_story_63 rfl ?_
      exact J_dr (kX12_story_82 H ) ⟨rfl, ⟨rfl, ⟨rfl, trivial⟩⟩⟩
  · replace H := br0 q17 H
    refine J_iconst (0 : Int32) dX12_story_44 kc_0 ?_
    cases H
    exact J_iretI dX12_story_45 rfl
noncomputable def MX12_story (h : Hp) (v0 : Nat) (v1 : Int32) (v2 : Int32) : Option (Int32 × Hp) :=
  gg (β := (Int32 × Hp)) (kd h v0 = 11) <|
  Option.bind (α := Hp) (β := (Int32 × Hp)) (MX12_use h v0) fun (h3 : Hp) =>
  Option.bind (α := Int32) (β := (Int32 × Hp)) (MX12_isIn h3 v1 (0 : Int32) (1 : Int32)) fun (t5 : Int32) =>
  if t5 = 0 then
    MX12_story_34 h3 v0 v1 v2 v0 (1 : Int32)
  else
    Option.bind (α := Int32) (β := (Int32 × Hp)) (MX12_isIn h3 v2 (0 : Int32) (600 : Int32)) fun (t8 : Int32) =>
    if t8 = 0 then
      MX12_story_34 h3 v0 v1 v2 v0 (2 : Int32)
    else
      MX12_story_34 h3 v0 v1 v2 v0 (0 : Int32)
set_option maxRecDepth 100000 in
set_option maxHeartbeats 8000000 in
theorem eX12_story {d : Nat} {h : Hp} {v0 : Nat} {v1 : Int32} {v2 : Int32} {r : Int32} {h9 : Hp} (H : MX12_story h v0 v1 v2 = some (r, h9)) : J (d + 3) YX12_story 0 [.ref v0, .int v1, .int v2, Value.null, Value.null, Value.null, Value.null, Value.null] [] h (oI r) h9 := by
  unfold MX12_story at H
  refine J_aload_n 0 dX12_story_0 rfl rfl ?_
  obtain ⟨g2, H⟩ := gd H
  obtain ⟨h3, e1, H⟩ := bd H
  refine J_cV (as := []) 11 YX12_use 0 dX12_story_1 moX12_use mvX12_use mlX12_154 g2 rfl rfl (okX12_use (d := d + 2) e1) rfl rfl [] rfl rfl (st2 := []) rfl ?_
  refine J_aload_n 0 dX12_story_4 rfl rfl ?_
  refine J_iload_n 1 dX12_story_5 rfl rfl ?_
  refine J_iconst (0 : Int32) dX12_story_6 kc_0 ?_
  refine J_iconst (1 : Int32) dX12_story_7 kc_1 ?_
  obtain ⟨t5, e4, H⟩ := bd H
  refine J_cS (as := [.int v1, .int (0 : Int32), .int (1 : Int32)]) YX12_isIn 3 dX12_story_8 moX12_isIn msX12_isIn mlX12_157 (okX12_isIn (d := d + 2) e4) rfl rfl [.ref v0] rfl rfl (st2 := [.int t5, .ref v0]) rfl ?_
  refine J_if_ne 18 dX12_story_11 rfl (fun q6 => ?_) (fun q6 => ?_)
  · replace H := br0 q6 H
    refine J_iload_n 2 dX12_story_18 rfl rfl ?_
    refine J_iconst (0 : Int32) dX12_story_19 kc_0 ?_
    refine J_sipush (600 : Int32) dX12_story_20 ks_600 ?_
    obtain ⟨t8, e7, H⟩ := bd H
    refine J_cS (as := [.int v2, .int (0 : Int32), .int (600 : Int32)]) YX12_isIn 3 dX12_story_23 moX12_isIn msX12_isIn mlX12_157 (okX12_isIn (d := d + 2) e7) rfl rfl [.ref v0] rfl rfl (st2 := [.int t8, .ref v0]) rfl ?_
    refine J_if_ne 33 dX12_story_26 rfl (fun q9 => ?_) (fun q9 => ?_)
    · replace H := br0 q9 H
      refine J_iconst (0 : Int32) dX12_story_33 kc_0 ?_
      exact J_dr (kX12_story_34 H ) ⟨rfl, ⟨rfl, ⟨rfl, trivial⟩⟩⟩
    · replace H := br1 q9 H
      refine J_iconst (2 : Int32) dX12_story_29 kc_2 ?_
      refine J_goto 34 dX12_story_30 rfl ?_
      exact J_dr (kX12_story_34 H ) ⟨rfl, ⟨rfl, ⟨rfl, trivial⟩⟩⟩
  · replace H := br1 q6 H
    refine J_iconst (1 : Int32) dX12_story_14 kc_1 ?_
    refine J_goto 34 dX12_story_15 rfl ?_
    exact J_dr (kX12_story_34 H ) ⟨rfl, ⟨rfl, ⟨rfl, trivial⟩⟩⟩
theorem okX12_story {d : Nat} {h : Hp} {v0 : Nat} {v1 : Int32} {v2 : Int32} {r : Int32} {h9 : Hp} (H : MX12_story h v0 v1 v2 = some (r, h9)) : CT (d + 3) YX12_story [.ref v0, .int v1, .int v2] h (oI r) h9 := CT_of (by decide +kernel) (Nat.le_of_ble_eq_true rfl) (eX12_story H)
noncomputable def MX12_style_128 (h : Hp) (v0 : Nat) (v1 : Int32) (v2 : Int32) : Option (Int32 × Hp) :=
  gg (β := (Int32 × Hp)) (kd h v0 = 11) <|
  gg (β := (Int32 × Hp)) (kd h (gP h v0 1) = 20) <|
  gg (β := (Int32 × Hp)) (inB v2 (ln h (gP h v0 1)) = true) <|
  lt (α := Hp) (β := Option (Int32 × Hp)) (sI h (gP h v0 1) v2.toNatClampNeg v1) fun (h42 : Hp) =>
  gg (β := (Int32 × Hp)) (inB (v2 + (1 : Int32)) (ln h (gP h v0 1)) = true) <|
  lt (α := Hp) (β := Option (Int32 × Hp)) (sI h42 (gP h v0 1) (v2 + (1 : Int32)).toNatClampNeg (gI h42 v0 19)) fun (h48 : Hp) =>
  gg (β := (Int32 × Hp)) (inB (2 : Int32) (ln h (gP h v0 1)) = true) <|
  lt (α := Hp) (β := Option (Int32 × Hp)) (sI h48 (gP h v0 1) (2 : Int32).toNatClampNeg ((gI h48 (gP h v0 1) (2 : Int32).toNatClampNeg) + (1 : Int32))) fun (h54 : Hp) =>
  some ((gI h54 v0 19), h54)
set_option maxRecDepth 100000 in
set_option maxHeartbeats 8000000 in
theorem kX12_style_128 {d : Nat} {h : Hp} {v0 : Nat} {v1 : Int32} {v2 : Int32} {r : Int32} {h9 : Hp} (H : MX12_style_128 h v0 v1 v2 = some (r, h9)) : J (d + 39) YX12_style 128 [.ref v0, .int v1, .int v2, Value.null] [] h (oI r) h9 := by
  unfold MX12_style_128 at H
  refine J_aload_n 0 dX12_style_128 rfl rfl ?_
  obtain ⟨g39, H⟩ := gd H
  refine J_gP 11 1 dX12_style_129 g39 flX12_8 rfl rfl ?_
  refine J_iload_n 2 dX12_style_132 rfl rfl ?_
  refine J_iload_n 1 dX12_style_133 rfl rfl ?_
  obtain ⟨g40, H⟩ := gd H
  obtain ⟨g41, H⟩ := gd H
  obtain ⟨h42, e43, H⟩ := lt_el H
  refine J_sI dX12_style_134 g40 (inB_ok g41) e43 ?_
  have c44 := ekI e43
  have c45 := elI e43
  have c46 := epI e43
  refine J_aload_n 0 dX12_style_135 rfl rfl ?_
  refine J_gP 11 1 dX12_style_136 (kq c44 g39) flX12_8 rfl (congrFun (congrFun c46 v0) 1) ?_
  refine J_iload_n 2 dX12_style_139 rfl rfl ?_
  refine J_iconst (1 : Int32) dX12_style_140 kc_1 ?_
  refine J_iadd dX12_style_141 ?_
  refine J_aload_n 0 dX12_style_142 rfl rfl ?_
  refine J_getI 11 19 dX12_style_143 (kq c44 g39) flX12_245 rfl ?_
  obtain ⟨g47, H⟩ := gd H
  obtain ⟨h48, e49, H⟩ := lt_el H
  refine J_sI dX12_style_146 (kq c44 g40) (lq c45 g47) e49 ?_
  have c50 := (ekI e49).trans c44
  have c51 := (elI e49).trans c45
  have c52 := (epI e49).trans c46
  refine J_aload_n 0 dX12_style_147 rfl rfl ?_
  refine J_gP 11 1 dX12_style_148 (kq c50 g39) flX12_8 rfl (congrFun (congrFun c52 v0) 1) ?_
  refine J_iconst (2 : Int32) dX12_style_151 kc_2 ?_
  refine J_dup2 dX12_style_152 rfl rfl ?_
  obtain ⟨g53, H⟩ := gd H
  refine J_iald dX12_style_153 (kq c50 g40) (lq c51 g53) ?_
  refine J_iconst (1 : Int32) dX12_style_154 kc_1 ?_
  refine J_iadd dX12_style_155 ?_
  obtain ⟨h54, e55, H⟩ := lt_el H
  refine J_sI dX12_style_156 (kq c50 g40) (lq c51 g53) e55 ?_
  have c56 := (ekI e55).trans c50
  have c57 := (elI e55).trans c51
  have c58 := (epI e55).trans c52
  refine J_aload_n 0 dX12_style_157 rfl rfl ?_
  refine J_getI 11 19 dX12_style_158 (kq c56 g39) flX12_245 rfl ?_
  cases H
  exact J_iretI dX12_style_161 rfl
noncomputable def BX12_style_100 (h : Hp) (v0 : Nat) (v1 : Int32) (v2 : Int32) (v3 : Int32) : Option ((Int32 × Hp) ⊕ (Int32 × Hp)) :=
  gg (β := ((Int32 × Hp) ⊕ (Int32 × Hp))) (kd h v0 = 11) <|
  if (gI h v0 20) ≤ v3 then
    up1 (MX12_style_128 h v0 v1 v2)
  else
    gg (β := ((Int32 × Hp) ⊕ (Int32 × Hp))) (kd h (gP h v0 18) = 20) <|
    gg (β := ((Int32 × Hp) ⊕ (Int32 × Hp))) (inB v3 (ln h (gP h v0 18)) = true) <|
    gg (β := ((Int32 × Hp) ⊕ (Int32 × Hp))) (kd h (gP h v0 1) = 20) <|
    gg (β := ((Int32 × Hp) ⊕ (Int32 × Hp))) (inB (v2 + v3) (ln h (gP h v0 1)) = true) <|
    lt (α := Hp) (β := Option ((Int32 × Hp) ⊕ (Int32 × Hp))) (sI h (gP h v0 1) (v2 + v3).toNatClampNeg (gI h (gP h v0 18) v3.toNatClampNeg)) fun (h63 : Hp) =>
    some (.inl ((v3 + (1 : Int32)), h63))
set_option maxRecDepth 100000 in
set_option maxHeartbeats 8000000 in
theorem bX12_style_100 {d : Nat} {h : Hp} {v0 : Nat} {v1 : Int32} {v2 : Int32} {v3 : Int32} {r : Int32} {h9 : Hp} {x : ((Int32 × Hp) ⊕ (Int32 × Hp))} (H : BX12_style_100 h v0 v1 v2 v3 = some x) (hb0 : ∀ s : Int32 × Hp, x = .inl s → J (d + 39) YX12_style 100 [.ref v0, .int v1, .int v2, .int s.1] [] s.2 (oI r) h9) (hx : ∀ z : (Int32 × Hp), x = .inr (z) → z = (r, h9)) : J (d + 39) YX12_style 100 [.ref v0, .int v1, .int v2, .int v3] [] h (oI r) h9 := by
  unfold BX12_style_100 at H
  refine J_iload_n 3 dX12_style_100 rfl rfl ?_
  refine J_aload_n 0 dX12_style_101 rfl rfl ?_
  obtain ⟨g37, H⟩ := gd H
  refine J_getI 11 20 dX12_style_102 g37 flX12_184 rfl ?_
  refine J_icmp_ge 128 dX12_style_105 rfl (fun q38 => ?_) (fun q38 => ?_)
  · replace H := br1 q38 H
    obtain ⟨y0, H90, rfl⟩ := up1_el H
    replace H := H90
    obtain rfl := hx _ rfl
    exact J_dr (kX12_style_128 H ) ⟨rfl, ⟨rfl, ⟨rfl, trivial⟩⟩⟩
  · replace H := br0 q38 H
    refine J_aload_n 0 dX12_style_108 rfl rfl ?_
    refine J_gP 11 1 dX12_style_109 g37 flX12_8 rfl rfl ?_
    refine J_iload_n 2 dX12_style_112 rfl rfl ?_
    refine J_iload_n 3 dX12_style_113 rfl rfl ?_
    refine J_iadd dX12_style_114 ?_
    refine J_aload_n 0 dX12_style_115 rfl rfl ?_
    refine J_gP 11 18 dX12_style_116 g37 flX12_42 rfl rfl ?_
    refine J_iload_n 3 dX12_style_119 rfl rfl ?_
    obtain ⟨g59, H⟩ := gd H
    obtain ⟨g60, H⟩ := gd H
    refine J_iald dX12_style_120 g59 (inB_ok g60) ?_
    obtain ⟨g61, H⟩ := gd H
    obtain ⟨g62, H⟩ := gd H
    obtain ⟨h63, e64, H⟩ := lt_el H
    refine J_sI dX12_style_121 g61 (inB_ok g62) e64 ?_
    have c65 := ekI e64
    have c66 := elI e64
    have c67 := epI e64
    refine J_iinc (v3 + (1 : Int32)) dX12_style_122 rfl (congrArg (HAdd.hAdd v3) kc_1) (by decide) (ls' := [.ref v0, .int v1, .int v2, .int (v3 + (1 : Int32))]) rfl ?_
    refine J_goto 100 dX12_style_125 rfl ?_
    cases H
    exact J_dr (hb0 _ rfl) ⟨rfl, ⟨rfl, ⟨rfl, ⟨rfl, trivial⟩⟩⟩⟩
noncomputable def MX12_style_100 (h : Hp) (v0 : Nat) (v1 : Int32) (v2 : Int32) (v3 : Int32) : Option (Int32 × Hp) := it (fun q : Int32 × Hp => BX12_style_100 q.2 v0 v1 v2 q.1) (v3, h)
set_option maxRecDepth 100000 in
set_option maxHeartbeats 8000000 in
theorem kX12_style_100 {d : Nat} {h : Hp} {v0 : Nat} {v1 : Int32} {v2 : Int32} {v3 : Int32} {r : Int32} {h9 : Hp} (H : MX12_style_100 h v0 v1 v2 v3 = some (r, h9)) : J (d + 39) YX12_style 100 [.ref v0, .int v1, .int v2, .int v3] [] h (oI r) h9 := by
  unfold MX12_style_100 at H
  refine it_J (G := (fun q : Int32 × Hp => J (d + 39) YX12_style 100 [.ref v0, .int v1, .int v2, .int q.1] [] q.2 (oI r) h9)) (Q := (fun y : (Int32 × Hp) => y = (r, h9))) (fun q x Hq hm => ?_) H rfl
  exact bX12_style_100 Hq (fun s hs => by subst hs; exact hm) (fun z hz => by subst hz; exact hm)
noncomputable def MX12_style_74 (h : Hp) (v0 : Nat) (v1 : Int32) : Option (Int32 × Hp) :=
  gg (β := (Int32 × Hp)) (kd h v0 = 11) <|
  if (gI h v0 0) ≤ 0 then
    gg (β := (Int32 × Hp)) (kd h (gP h v0 1) = 20) <|
    gg (β := (Int32 × Hp)) (inB (2 : Int32) (ln h (gP h v0 1)) = true) <|
    lt (α := Int32) (β := Option (Int32 × Hp)) ((320962 : Int32) + ((562 : Int32) * (gI h (gP h v0 1) (2 : Int32).toNatClampNeg))) fun (w35 : Int32) =>
    MX12_style_100 h v0 v1 w35 (2 : Int32)
  else
    some ((0 : Int32), h)
set_option maxRecDepth 100000 in
set_option maxHeartbeats 8000000 in
theorem kX12_style_74 {d : Nat} {h : Hp} {v0 : Nat} {v1 : Int32} {r : Int32} {h9 : Hp} (H : MX12_style_74 h v0 v1 = some (r, h9)) : J (d + 39) YX12_style 74 [.ref v0, .int v1, Value.null, Value.null] [] h (oI r) h9 := by
  unfold MX12_style_74 at H
  refine J_aload_n 0 dX12_style_74 rfl rfl ?_
  obtain ⟨g31, H⟩ := gd H
  refine J_getI 11 0 dX12_style_75 g31 flX12_122 rfl ?_
  refine J_if_le 83 dX12_style_78 rfl (fun q32 => ?_) (fun q32 => ?_)
  · replace H := br1 q32 H
    refine J_ldcw (320962 : Int32) coX12_273 dX12_style_83 ?_
    refine J_sipush (562 : Int32) dX12_style_86 ks_562 ?_
    refine J_aload_n 0 dX12_style_89 rfl rfl ?_
    refine J_gP 11 1 dX12_style_90 g31 flX12_8 rfl rfl ?_
    refine J_iconst (2 : Int32) dX12_style_93 kc_2 ?_
    obtain ⟨g33, H⟩ := gd H
    obtain ⟨g34, H⟩ := gd H
    refine J_iald dX12_style_94 g33 (inB_ok g34) ?_
    refine J_imul dX12_style_95 ?_
    refine J_iadd dX12_style_96 ?_
    obtain ⟨w35, e36, H⟩ := lt_el H
    refine J_nmI e36 ?_
    refine J_istore_n 2 dX12_style_97 rfl (by decide) (ls' := [.ref v0, .int v1, .int w35, Value.null]) rfl ?_
    refine J_iconst (2 : Int32) dX12_style_98 kc_2 ?_
    refine J_istore_n 3 dX12_style_99 rfl (by decide) (ls' := [.ref v0, .int v1, .int w35, .int (2 : Int32)]) rfl ?_
    exact J_dr (kX12_style_100 H ) ⟨rfl, ⟨rfl, ⟨rfl, ⟨rfl, trivial⟩⟩⟩⟩
  · replace H := br0 q32 H
    refine J_iconst (0 : Int32) dX12_style_81 kc_0 ?_
    cases H
    exact J_iretI dX12_style_82 rfl
noncomputable def MX12_style_26 (h : Hp) (v0 : Nat) (v1 : Int32) (s0 : Nat) (s1 : Int32) : Option (Int32 × Hp) :=
  gg (β := (Int32 × Hp)) (kd h s0 = 11) <|
  lt (α := Hp) (β := Option (Int32 × Hp)) (sI h s0 0 s1) fun (h11 : Hp) =>
  gg (β := (Int32 × Hp)) (kd h v0 = 11) <|
  if (gI h11 v0 0) ≤ 0 then
    lt (α := Hp) (β := Option (Int32 × Hp)) (sI h11 v0 9 (-1 : Int32)) fun (h18 : Hp) =>
    b2 (α := Int32) (β := Hp) (γ := (Int32 × Hp)) (MX12_readStyle h18 v0) fun (t25 : Int32) (h24 : Hp) =>
    if t25 = 0 then
      gg (β := (Int32 × Hp)) (kd h24 v0 = 11) <|
      lt (α := Hp) (β := Option (Int32 × Hp)) (sI h24 v0 0 (1 : Int32)) fun (h74 : Hp) =>
      MX12_style_74 h74 v0 v1
    else
      gg (β := (Int32 × Hp)) (kd h24 v0 = 11) <|
      gg (β := (Int32 × Hp)) (kd h24 (gP h24 v0 1) = 20) <|
      gg (β := (Int32 × Hp)) (inB (2 : Int32) (ln h24 (gP h24 v0 1)) = true) <|
      if (gI h24 (gP h24 v0 1) (2 : Int32).toNatClampNeg) = (10 : Int32) then
        lt (α := Hp) (β := Option (Int32 × Hp)) (sI h24 v0 0 (2 : Int32)) fun (h68 : Hp) =>
        MX12_style_74 h68 v0 v1
      else
        MX12_style_74 h24 v0 v1
  else
    some ((0 : Int32), h11)
set_option maxRecDepth 100000 in
set_option maxHeartbeats 8000000 in
theorem kX12_style_26 {d : Nat} {h : Hp} {v0 : Nat} {v1 : Int32} {s0 : Nat} {s1 : Int32} {r : Int32} {h9 : Hp} (H : MX12_style_26 h v0 v1 s0 s1 = some (r, h9)) : J (d + 39) YX12_style 26 [.ref v0, .int v1, Value.null, Value.null] [.int s1, .ref s0] h (oI r) h9 := by
  unfold MX12_style_26 at H
  obtain ⟨g10, H⟩ := gd H
  obtain ⟨h11, e12, H⟩ := lt_el H
  refine J_pI 11 0 dX12_style_26 g10 flX12_122 rfl rfl e12 ?_
  have c13 := ekI e12
  have c14 := elI e12
  have c15 := epI e12
  refine J_aload_n 0 dX12_style_29 rfl rfl ?_
  obtain ⟨g16, H⟩ := gd H
  refine J_getI 11 0 dX12_style_30 (kq c13 g16) flX12_122 rfl ?_
  refine J_if_le 38 dX12_style_33 rfl (fun q17 => ?_) (fun q17 => ?_)
  · replace H := br1 q17 H
    refine J_aload_n 0 dX12_style_38 rfl rfl ?_
    refine J_iconst (-1 : Int32) dX12_style_39 kc_m1 ?_
    obtain ⟨h18, e19, H⟩ := lt_el H
    refine J_pI 11 9 dX12_style_40 (kq c13 g16) flX12_23 rfl rfl e19 ?_
    have c20 := (ekI e19).trans c13
    have c21 := (elI e19).trans c14
    have c22 := (epI e19).trans c15
    refine J_aload_n 0 dX12_style_43 rfl rfl ?_
    obtain ⟨t25, h24, e23, H⟩ := b2_el H
    refine J_cV (as := []) 11 YX12_readStyle 0 dX12_style_44 moX12_readStyle mvX12_readStyle mlX12_270 (kq c20 g16) rfl rfl (okX12_readStyle (d := d) e23) rfl rfl [] rfl rfl (st2 := [.int t25]) rfl ?_
    refine J_if_ne 58 dX12_style_47 rfl (fun q26 => ?_) (fun q26 => ?_)
    · replace H := br0 q26 H
      refine J_aload_n 0 dX12_style_58 rfl rfl ?_
      obtain ⟨g27, H⟩ := gd H
      refine J_gP 11 1 dX12_style_59 g27 flX12_8 rfl rfl ?_
      refine J_iconst (2 : Int32) dX12_style_62 kc_2 ?_
      obtain ⟨g28, H⟩ := gd H
      obtain ⟨g29, H⟩ := gd H
      refine J_iald dX12_style_63 g28 (inB_ok g29) ?_
      refine J_bipush (10 : Int32) dX12_style_64 kb_10 ?_
      refine J_icmp_ne 74 dX12_style_66 rfl (fun q30 => ?_) (fun q30 => ?_)
      · replace H := br0 q30 H
        exact J_dr (kX12_style_74 H ) ⟨rfl, ⟨rfl, trivial⟩⟩
      · replace H := br1 q30 H
        refine J_aload_n 0 dX12_style_69 rfl rfl ?_
        refine J_iconst (2 : Int32) dX12_style_70 kc_2 ?_
        obtain ⟨h68, e69, H⟩ := lt_el H
        refine J_pI 11 0 dX12_style_71 g27 flX12_122 rfl rfl e69 ?_
        have c70 := ekI e69
        have c71 := elI e69
        have c72 := epI e69
        exact J_dr (kX12_style_74 H ) ⟨rfl, ⟨rfl, trivial⟩⟩
    · replace H := br1 q26 H
      refine J_aload_n 0 dX12_style_50 rfl rfl ?_
      refine J_iconst (1 : Int32) dX12_style_51 kc_1 ?_
      obtain ⟨g73, H⟩ := gd H
      obtain ⟨h74, e75, H⟩ := lt_el H
      refine J_pI 11 0 dX12_style_52 g73 flX12_122 rfl rfl e75 ?_
      have c76 := ekI e75
      have c77 := elI e75
      have c78 := epI e75
      refine J_goto 74 dX12_style_55 rfl ?_
      exact J_dr (kX12_style_74 H ) ⟨rfl, ⟨rfl, trivial⟩⟩
  · replace H := br0 q17 H
    refine J_iconst (0 : Int32) dX12_style_36 kc_0 ?_
    cases H
    exact J_iretI dX12_style_37 rfl
noncomputable def MX12_style (h : Hp) (v0 : Nat) (v1 : Int32) : Option (Int32 × Hp) :=
  gg (β := (Int32 × Hp)) (kd h v0 = 11) <|
  Option.bind (α := Hp) (β := (Int32 × Hp)) (MX12_use h v0) fun (h3 : Hp) =>
  gg (β := (Int32 × Hp)) (kd h3 v0 = 11) <|
  gg (β := (Int32 × Hp)) (kd h3 (gP h3 v0 1) = 20) <|
  gg (β := (Int32 × Hp)) (inB (0 : Int32) (ln h3 (gP h3 v0 1)) = true) <|
  Option.bind (α := Int32) (β := (Int32 × Hp)) (MX12_isIn h3 v1 (gI h3 (gP h3 v0 1) (0 : Int32).toNatClampNeg) (600 : Int32)) fun (t8 : Int32) =>
  if t8 = 0 then
    MX12_style_26 h3 v0 v1 v0 (1 : Int32)
  else
    MX12_style_26 h3 v0 v1 v0 (0 : Int32)
set_option maxRecDepth 100000 in
set_option maxHeartbeats 8000000 in
theorem eX12_style {d : Nat} {h : Hp} {v0 : Nat} {v1 : Int32} {r : Int32} {h9 : Hp} (H : MX12_style h v0 v1 = some (r, h9)) : J (d + 39) YX12_style 0 [.ref v0, .int v1, Value.null, Value.null] [] h (oI r) h9 := by
  unfold MX12_style at H
  refine J_aload_n 0 dX12_style_0 rfl rfl ?_
  obtain ⟨g2, H⟩ := gd H
  obtain ⟨h3, e1, H⟩ := bd H
  refine J_cV (as := []) 11 YX12_use 0 dX12_style_1 moX12_use mvX12_use mlX12_154 g2 rfl rfl (okX12_use (d := d + 38) e1) rfl rfl [] rfl rfl (st2 := []) rfl ?_
  refine J_aload_n 0 dX12_style_4 rfl rfl ?_
  refine J_iload_n 1 dX12_style_5 rfl rfl ?_
  refine J_aload_n 0 dX12_style_6 rfl rfl ?_
  obtain ⟨g4, H⟩ := gd H
  refine J_gP 11 1 dX12_style_7 g4 flX12_8 rfl rfl ?_
  refine J_iconst (0 : Int32) dX12_style_10 kc_0 ?_
  obtain ⟨g5, H⟩ := gd H
  obtain ⟨g6, H⟩ := gd H
  refine J_iald dX12_style_11 g5 (inB_ok g6) ?_
  refine J_sipush (600 : Int32) dX12_style_12 ks_600 ?_
  obtain ⟨t8, e7, H⟩ := bd H
  refine J_cS (as := [.int v1, .int (gI h3 (gP h3 v0 1) (0 : Int32).toNatClampNeg), .int (600 : Int32)]) YX12_isIn 3 dX12_style_15 moX12_isIn msX12_isIn mlX12_157 (okX12_isIn (d := d + 38) e7) rfl rfl [.ref v0] rfl rfl (st2 := [.int t8, .ref v0]) rfl ?_
  refine J_if_ne 25 dX12_style_18 rfl (fun q9 => ?_) (fun q9 => ?_)
  · replace H := br0 q9 H
    refine J_iconst (0 : Int32) dX12_style_25 kc_0 ?_
    exact J_dr (kX12_style_26 H ) ⟨rfl, ⟨rfl, trivial⟩⟩
  · replace H := br1 q9 H
    refine J_iconst (1 : Int32) dX12_style_21 kc_1 ?_
    refine J_goto 26 dX12_style_22 rfl ?_
    exact J_dr (kX12_style_26 H ) ⟨rfl, ⟨rfl, trivial⟩⟩
theorem okX12_style {d : Nat} {h : Hp} {v0 : Nat} {v1 : Int32} {r : Int32} {h9 : Hp} (H : MX12_style h v0 v1 = some (r, h9)) : CT (d + 39) YX12_style [.ref v0, .int v1] h (oI r) h9 := CT_of (by decide +kernel) (Nat.le_of_ble_eq_true rfl) (eX12_style H)
noncomputable def MX12_tear_15 (h : Hp) (v0 : Nat) (v1 : Int32) (v2 : Int32) (v3 : Int32) (s0 : Nat) (s1 : Int32) : Option (Int32 × Hp) :=
  gg (β := (Int32 × Hp)) (kd h s0 = 11) <|
  lt (α := Hp) (β := Option (Int32 × Hp)) (sI h s0 0 s1) fun (h6 : Hp) =>
  gg (β := (Int32 × Hp)) (kd h v0 = 11) <|
  if (gI h6 v0 0) ≤ 0 then
    gg (β := (Int32 × Hp)) (kd h (gP h v0 1) = 20) <|
    gg (β := (Int32 × Hp)) (inB ((((337180 : Int32) + ((5 : Int32) * v1)) + (1 : Int32)) + v2) (ln h (gP h v0 1)) = true) <|
    lt (α := Hp) (β := Option (Int32 × Hp)) (sI h6 (gP h v0 1) ((((337180 : Int32) + ((5 : Int32) * v1)) + (1 : Int32)) + v2).toNatClampNeg ((gI h6 (gP h v0 1) ((((337180 : Int32) + ((5 : Int32) * v1)) + (1 : Int32)) + v2).toNatClampNeg) ^^^ v3)) fun (h15 : Hp) =>
    some ((gI h15 (gP h v0 1) ((((337180 : Int32) + ((5 : Int32) * v1)) + (1 : Int32)) + v2).toNatClampNeg), h15)
  else
    some ((0 : Int32), h6)
set_option maxRecDepth 100000 in
set_option maxHeartbeats 8000000 in
theorem kX12_tear_15 {d : Nat} {h : Hp} {v0 : Nat} {v1 : Int32} {v2 : Int32} {v3 : Int32} {s0 : Nat} {s1 : Int32} {r : Int32} {h9 : Hp} (H : MX12_tear_15 h v0 v1 v2 v3 s0 s1 = some (r, h9)) : J (d + 2) YX12_tear 15 [.ref v0, .int v1, .int v2, .int v3, Value.null] [.int s1, .ref s0] h (oI r) h9 := by
  unfold MX12_tear_15 at H
  obtain ⟨g5, H⟩ := gd H
  obtain ⟨h6, e7, H⟩ := lt_el H
  refine J_pI 11 0 dX12_tear_15 g5 flX12_122 rfl rfl e7 ?_
  have c8 := ekI e7
  have c9 := elI e7
  have c10 := epI e7
  refine J_aload_n 0 dX12_tear_18 rfl rfl ?_
  obtain ⟨g11, H⟩ := gd H
  refine J_getI 11 0 dX12_tear_19 (kq c8 g11) flX12_122 rfl ?_
  refine J_if_le 27 dX12_tear_22 rfl (fun q12 => ?_) (fun q12 => ?_)
  · replace H := br1 q12 H
    refine J_ldcw (337180 : Int32) coX12_390 dX12_tear_27 ?_
    refine J_iconst (5 : Int32) dX12_tear_30 kc_5 ?_
    refine J_iload_n 1 dX12_tear_31 rfl rfl ?_
    refine J_imul dX12_tear_32 ?_
    refine J_iadd dX12_tear_33 ?_
    refine J_iconst (1 : Int32) dX12_tear_34 kc_1 ?_
    refine J_iadd dX12_tear_35 ?_
    refine J_iload_n 2 dX12_tear_36 rfl rfl ?_
    refine J_iadd dX12_tear_37 ?_
    refine J_istore dX12_tear_38 (by decide) (ls' := [.ref v0, .int v1, .int v2, .int v3, .int ((((337180 : Int32) + ((5 : Int32) * v1)) + (1 : Int32)) + v2)]) rfl ?_
    refine J_aload_n 0 dX12_tear_40 rfl rfl ?_
    refine J_gP 11 1 dX12_tear_41 (kq c8 g11) flX12_8 rfl (congrFun (congrFun c10 v0) 1) ?_
    refine J_iload dX12_tear_44 rfl ?_
    refine J_aload_n 0 dX12_tear_46 rfl rfl ?_
    refine J_gP 11 1 dX12_tear_47 (kq c8 g11) flX12_8 rfl (congrFun (congrFun c10 v0) 1) ?_
    refine J_iload dX12_tear_50 rfl ?_
    obtain ⟨g13, H⟩ := gd H
    obtain ⟨g14, H⟩ := gd H
    refine J_iald dX12_tear_52 (kq c8 g13) (lq c9 g14) ?_
    refine J_iload_n 3 dX12_tear_53 rfl rfl ?_
    refine J_ixor dX12_tear_54 ?_
    obtain ⟨h15, e16, H⟩ := lt_el H
    refine J_sI dX12_tear_55 (kq c8 g13) (lq c9 g14) e16 ?_
    have c17 := (ekI e16).trans c8
    have c18 := (elI e16).trans c9
    have c19 := (epI e16).trans c10
    refine J_aload_n 0 dX12_tear_56 rfl rfl ?_
    refine J_gP 11 1 dX12_tear_57 (kq c17 g11) flX12_8 rfl (congrFun (congrFun c19 v0) 1) ?_
    refine J_iload dX12_tear_60 rfl ?_
    refine J_iald dX12_tear_62 (kq c17 g13) (lq c18 g14) ?_
    cases H
    exact J_iretI dX12_tear_63 rfl
  · replace H := br0 q12 H
    refine J_iconst (0 : Int32) dX12_tear_25 kc_0 ?_
    cases H
    exact J_iretI dX12_tear_26 rfl
noncomputable def MX12_tear (h : Hp) (v0 : Nat) (v1 : Int32) (v2 : Int32) (v3 : Int32) : Option (Int32 × Hp) :=
  gg (β := (Int32 × Hp)) (kd h v0 = 11) <|
  Option.bind (α := Int32) (β := (Int32 × Hp)) (MX12_isRow h v0 v1 v2) fun (t3 : Int32) =>
  if t3 = 0 then
    MX12_tear_15 h v0 v1 v2 v3 v0 (1 : Int32)
  else
    MX12_tear_15 h v0 v1 v2 v3 v0 (0 : Int32)
set_option maxRecDepth 100000 in
set_option maxHeartbeats 8000000 in
theorem eX12_tear {d : Nat} {h : Hp} {v0 : Nat} {v1 : Int32} {v2 : Int32} {v3 : Int32} {r : Int32} {h9 : Hp} (H : MX12_tear h v0 v1 v2 v3 = some (r, h9)) : J (d + 2) YX12_tear 0 [.ref v0, .int v1, .int v2, .int v3, Value.null] [] h (oI r) h9 := by
  unfold MX12_tear at H
  refine J_aload_n 0 dX12_tear_0 rfl rfl ?_
  refine J_aload_n 0 dX12_tear_1 rfl rfl ?_
  refine J_iload_n 1 dX12_tear_2 rfl rfl ?_
  refine J_iload_n 2 dX12_tear_3 rfl rfl ?_
  obtain ⟨g2, H⟩ := gd H
  obtain ⟨t3, e1, H⟩ := bd H
  refine J_cV (as := [.int v1, .int v2]) 11 YX12_isRow 2 dX12_tear_4 moX12_isRow mvX12_isRow mlX12_481 g2 rfl rfl (okX12_isRow (d := d) e1) rfl rfl [.ref v0] rfl rfl (st2 := [.int t3, .ref v0]) rfl ?_
  refine J_if_ne 14 dX12_tear_7 rfl (fun q4 => ?_) (fun q4 => ?_)
  · replace H := br0 q4 H
    refine J_iconst (0 : Int32) dX12_tear_14 kc_0 ?_
    exact J_dr (kX12_tear_15 H ) ⟨rfl, ⟨rfl, ⟨rfl, ⟨rfl, trivial⟩⟩⟩⟩
  · replace H := br1 q4 H
    refine J_iconst (1 : Int32) dX12_tear_10 kc_1 ?_
    refine J_goto 15 dX12_tear_11 rfl ?_
    exact J_dr (kX12_tear_15 H ) ⟨rfl, ⟨rfl, ⟨rfl, ⟨rfl, trivial⟩⟩⟩⟩
theorem okX12_tear {d : Nat} {h : Hp} {v0 : Nat} {v1 : Int32} {v2 : Int32} {v3 : Int32} {r : Int32} {h9 : Hp} (H : MX12_tear h v0 v1 v2 v3 = some (r, h9)) : CT (d + 2) YX12_tear [.ref v0, .int v1, .int v2, .int v3] h (oI r) h9 := CT_of (by decide +kernel) (Nat.le_of_ble_eq_true rfl) (eX12_tear H)
noncomputable def MX12_thrown (h : Hp) (v0 : Nat) : Option Int32 :=
  gg (β := Int32) (kd h v0 = 11) <|
  some (gI h v0 0)
set_option maxRecDepth 100000 in
set_option maxHeartbeats 8000000 in
theorem eX12_thrown {d : Nat} {h : Hp} {v0 : Nat} {r : Int32} (H : MX12_thrown h v0 = some r) : J (d) YX12_thrown 0 [.ref v0] [] h (oI r) h := by
  unfold MX12_thrown at H
  refine J_aload_n 0 dX12_thrown_0 rfl rfl ?_
  obtain ⟨g1, H⟩ := gd H
  refine J_getI 11 0 dX12_thrown_1 g1 flX12_122 rfl ?_
  cases H
  exact J_iretI dX12_thrown_4 rfl
theorem okX12_thrown {d : Nat} {h : Hp} {v0 : Nat} {r : Int32} (H : MX12_thrown h v0 = some r) : CT (d) YX12_thrown [.ref v0] h (oI r) h := CT_of (by decide +kernel) (Nat.le_of_ble_eq_true rfl) (eX12_thrown H)
noncomputable def MX12_where_173 (h : Hp) (v4 : Int32) : Option (Int32 × Hp) :=
  if 0 ≤ v4 then
    some (v4, h)
  else
    some ((-1 : Int32), h)
set_option maxRecDepth 100000 in
set_option maxHeartbeats 8000000 in
theorem kX12_where_173 {d : Nat} {h : Hp} {v4 : Int32} {r : Int32} {h9 : Hp} (H : MX12_where_173 h v4 = some (r, h9)) : J (d + 1) YX12_where 173 [Value.null, Value.null, Value.null, Value.null, .int v4, Value.null, Value.null, Value.null] [] h (oI r) h9 := by
  unfold MX12_where_173 at H
  refine J_iload dX12_where_173 rfl ?_
  refine J_if_ge 182 dX12_where_175 rfl (fun q17 => ?_) (fun q17 => ?_)
  · replace H := br1 q17 H
    refine J_iload dX12_where_182 rfl ?_
    cases H
    exact J_iretI dX12_where_184 rfl
  · replace H := br0 q17 H
    refine J_iconst (-1 : Int32) dX12_where_178 kc_m1 ?_
    refine J_goto 184 dX12_where_179 rfl ?_
    cases H
    exact J_iretI dX12_where_184 rfl
noncomputable def MX12_where_156 (h : Hp) (v0 : Nat) (v1 : Int32) (v2 : Int32) (v3 : Int32) (v4 : Int32) (v6 : Int32) (v7 : Int32) : Option ((Int32 × Int32 × Int32) ⊕ (Int32 × Hp)) :=
  gg (β := ((Int32 × Int32 × Int32) ⊕ (Int32 × Hp))) (kd h v0 = 11) <|
  gg (β := ((Int32 × Int32 × Int32) ⊕ (Int32 × Hp))) (kd h (gP h v0 1) = 20) <|
  gg (β := ((Int32 × Int32 × Int32) ⊕ (Int32 × Hp))) (inB (v7 + (2 : Int32)) (ln h (gP h v0 1)) = true) <|
  some (.inl (v4, (gI h (gP h v0 1) (v7 + (2 : Int32)).toNatClampNeg), (v6 + (1 : Int32))))
set_option maxRecDepth 100000 in
set_option maxHeartbeats 8000000 in
theorem kX12_where_156 {d : Nat} {h : Hp} {v0 : Nat} {v1 : Int32} {v2 : Int32} {v3 : Int32} {v4 : Int32} {v6 : Int32} {v7 : Int32} {r : Int32} {h9 : Hp} {x : ((Int32 × Int32 × Int32) ⊕ (Int32 × Hp))} (H : MX12_where_156 h v0 v1 v2 v3 v4 v6 v7 = some x) (hb0 : ∀ s : Int32 × Int32 × Int32, x = .inl s → J (d + 1) YX12_where 35 [.ref v0, .int v1, .int v2, .int v3, .int s.1, .int s.2.1, .int s.2.2, Value.null] [] h (oI r) h9) (hx : ∀ z : (Int32 × Hp), x = .inr (z) → z = (r, h9)) : J (d + 1) YX12_where 156 [.ref v0, .int v1, .int v2, .int v3, .int v4, Value.null, .int v6, .int v7] [] h (oI r) h9 := by
  unfold MX12_where_156 at H
  refine J_aload_n 0 dX12_where_156 rfl rfl ?_
  obtain ⟨g28, H⟩ := gd H
  refine J_gP 11 1 dX12_where_157 g28 flX12_8 rfl rfl ?_
  refine J_iload dX12_where_160 rfl ?_
  refine J_iconst (2 : Int32) dX12_where_162 kc_2 ?_
  refine J_iadd dX12_where_163 ?_
  obtain ⟨g29, H⟩ := gd H
  obtain ⟨g30, H⟩ := gd H
  refine J_iald dX12_where_164 g29 (inB_ok g30) ?_
  refine J_istore dX12_where_165 (by decide) (ls' := [.ref v0, .int v1, .int v2, .int v3, .int v4, .int (gI h (gP h v0 1) (v7 + (2 : Int32)).toNatClampNeg), .int v6, .int v7]) rfl ?_
  refine J_iinc (v6 + (1 : Int32)) dX12_where_167 rfl (congrArg (HAdd.hAdd v6) kc_1) (by decide) (ls' := [.ref v0, .int v1, .int v2, .int v3, .int v4, .int (gI h (gP h v0 1) (v7 + (2 : Int32)).toNatClampNeg), .int (v6 + (1 : Int32)), .int v7]) rfl ?_
  refine J_goto 35 dX12_where_170 rfl ?_
  cases H
  exact J_dr (hb0 _ rfl) ⟨rfl, ⟨rfl, ⟨rfl, ⟨rfl, ⟨rfl, ⟨rfl, ⟨rfl, trivial⟩⟩⟩⟩⟩⟩⟩
noncomputable def BX12_where_35 (h : Hp) (v0 : Nat) (v1 : Int32) (v2 : Int32) (v3 : Int32) (v4 : Int32) (v5 : Int32) (v6 : Int32) : Option ((Int32 × Int32 × Int32) ⊕ (Int32 × Hp)) :=
  gg (β := ((Int32 × Int32 × Int32) ⊕ (Int32 × Hp))) (kd h v0 = 11) <|
  gg (β := ((Int32 × Int32 × Int32) ⊕ (Int32 × Hp))) (kd h (gP h v0 1) = 20) <|
  gg (β := ((Int32 × Int32 × Int32) ⊕ (Int32 × Hp))) (inB (5 : Int32) (ln h (gP h v0 1)) = true) <|
  if (gI h (gP h v0 1) (5 : Int32).toNatClampNeg) ≤ v6 then
    up1 (MX12_where_173 h v4)
  else
    gg (β := ((Int32 × Int32 × Int32) ⊕ (Int32 × Hp))) (inB ((326582 : Int32) + ((4 : Int32) * v6)) (ln h (gP h v0 1)) = true) <|
    if (gI h (gP h v0 1) ((326582 : Int32) + ((4 : Int32) * v6)).toNatClampNeg) = v1 then
      gg (β := ((Int32 × Int32 × Int32) ⊕ (Int32 × Hp))) (inB (((326582 : Int32) + ((4 : Int32) * v6)) + (3 : Int32)) (ln h (gP h v0 1)) = true) <|
      if v3 < (gI h (gP h v0 1) (((326582 : Int32) + ((4 : Int32) * v6)) + (3 : Int32)).toNatClampNeg) then
        some (.inl (v4, v5, (v6 + (1 : Int32))))
      else
        gg (β := ((Int32 × Int32 × Int32) ⊕ (Int32 × Hp))) (inB (((326582 : Int32) + ((4 : Int32) * v6)) + (2 : Int32)) (ln h (gP h v0 1)) = true) <|
        if v2 < (gI h (gP h v0 1) (((326582 : Int32) + ((4 : Int32) * v6)) + (2 : Int32)).toNatClampNeg) then
          some (.inl (v4, v5, (v6 + (1 : Int32))))
        else
          if v5 ≤ (gI h (gP h v0 1) (((326582 : Int32) + ((4 : Int32) * v6)) + (2 : Int32)).toNatClampNeg) then
            if (gI h (gP h v0 1) (((326582 : Int32) + ((4 : Int32) * v6)) + (2 : Int32)).toNatClampNeg) ≤ v5 then
              gg (β := ((Int32 × Int32 × Int32) ⊕ (Int32 × Hp))) (inB (((326582 : Int32) + ((4 : Int32) * v6)) + (1 : Int32)) (ln h (gP h v0 1)) = true) <|
              if v4 = (gI h (gP h v0 1) (((326582 : Int32) + ((4 : Int32) * v6)) + (1 : Int32)).toNatClampNeg) then
                MX12_where_156 h v0 v1 v2 v3 v4 v6 ((326582 : Int32) + ((4 : Int32) * v6))
              else
                MX12_where_156 h v0 v1 v2 v3 (-2 : Int32) v6 ((326582 : Int32) + ((4 : Int32) * v6))
            else
              gg (β := ((Int32 × Int32 × Int32) ⊕ (Int32 × Hp))) (inB (((326582 : Int32) + ((4 : Int32) * v6)) + (1 : Int32)) (ln h (gP h v0 1)) = true) <|
              lt (α := Int32) (β := Option ((Int32 × Int32 × Int32) ⊕ (Int32 × Hp))) (gI h (gP h v0 1) (((326582 : Int32) + ((4 : Int32) * v6)) + (1 : Int32)).toNatClampNeg) fun (w32 : Int32) =>
              MX12_where_156 h v0 v1 v2 v3 w32 v6 ((326582 : Int32) + ((4 : Int32) * v6))
          else
            some (.inl (v4, v5, (v6 + (1 : Int32))))
    else
      some (.inl (v4, v5, (v6 + (1 : Int32))))
set_option maxRecDepth 100000 in
set_option maxHeartbeats 8000000 in
theorem bX12_where_35 {d : Nat} {h : Hp} {v0 : Nat} {v1 : Int32} {v2 : Int32} {v3 : Int32} {v4 : Int32} {v5 : Int32} {v6 : Int32} {r : Int32} {h9 : Hp} {x : ((Int32 × Int32 × Int32) ⊕ (Int32 × Hp))} (H : BX12_where_35 h v0 v1 v2 v3 v4 v5 v6 = some x) (hb0 : ∀ s : Int32 × Int32 × Int32, x = .inl s → J (d + 1) YX12_where 35 [.ref v0, .int v1, .int v2, .int v3, .int s.1, .int s.2.1, .int s.2.2, Value.null] [] h (oI r) h9) (hx : ∀ z : (Int32 × Hp), x = .inr (z) → z = (r, h9)) : J (d + 1) YX12_where 35 [.ref v0, .int v1, .int v2, .int v3, .int v4, .int v5, .int v6, Value.null] [] h (oI r) h9 := by
  unfold BX12_where_35 at H
  refine J_iload dX12_where_35 rfl ?_
  refine J_aload_n 0 dX12_where_37 rfl rfl ?_
  obtain ⟨g13, H⟩ := gd H
  refine J_gP 11 1 dX12_where_38 g13 flX12_8 rfl rfl ?_
  refine J_iconst (5 : Int32) dX12_where_41 kc_5 ?_
  obtain ⟨g14, H⟩ := gd H
  obtain ⟨g15, H⟩ := gd H
  refine J_iald dX12_where_42 g14 (inB_ok g15) ?_
  refine J_icmp_ge 173 dX12_where_43 rfl (fun q16 => ?_) (fun q16 => ?_)
  · replace H := br1 q16 H
    obtain ⟨y0, H90, rfl⟩ := up1_el H
    replace H := H90
    obtain rfl := hx _ rfl
    exact J_dr (kX12_where_173 H ) ⟨rfl, trivial⟩
  · replace H := br0 q16 H
    refine J_ldcw (326582 : Int32) coX12_417 dX12_where_46 ?_
    refine J_iconst (4 : Int32) dX12_where_49 kc_4 ?_
    refine J_iload dX12_where_50 rfl ?_
    refine J_imul dX12_where_52 ?_
    refine J_iadd dX12_where_53 ?_
    refine J_istore dX12_where_54 (by decide) (ls' := [.ref v0, .int v1, .int v2, .int v3, .int v4, .int v5, .int v6, .int ((326582 : Int32) + ((4 : Int32) * v6))]) rfl ?_
    refine J_aload_n 0 dX12_where_56 rfl rfl ?_
    refine J_gP 11 1 dX12_where_57 g13 flX12_8 rfl rfl ?_
    refine J_iload dX12_where_60 rfl ?_
    obtain ⟨g18, H⟩ := gd H
    refine J_iald dX12_where_62 g14 (inB_ok g18) ?_
    refine J_iload_n 1 dX12_where_63 rfl rfl ?_
    refine J_icmp_ne 167 dX12_where_64 rfl (fun q19 => ?_) (fun q19 => ?_)
    · replace H := br0 q19 H
      refine J_iinc (v6 + (1 : Int32)) dX12_where_167 rfl (congrArg (HAdd.hAdd v6) kc_1) (by decide) (ls' := [.ref v0, .int v1, .int v2, .int v3, .int v4, .int v5, .int (v6 + (1 : Int32)), .int ((326582 : Int32) + ((4 : Int32) * v6))]) rfl ?_
      refine J_goto 35 dX12_where_170 rfl ?_
      cases H
      exact J_dr (hb0 _ rfl) ⟨rfl, ⟨rfl, ⟨rfl, ⟨rfl, ⟨rfl, ⟨rfl, ⟨rfl, trivial⟩⟩⟩⟩⟩⟩⟩
    · replace H := br1 q19 H
      refine J_aload_n 0 dX12_where_67 rfl rfl ?_
      refine J_gP 11 1 dX12_where_68 g13 flX12_8 rfl rfl ?_
      refine J_iload dX12_where_71 rfl ?_
      refine J_iconst (3 : Int32) dX12_where_73 kc_3 ?_
      refine J_iadd dX12_where_74 ?_
      obtain ⟨g20, H⟩ := gd H
      refine J_iald dX12_where_75 g14 (inB_ok g20) ?_
      refine J_iload_n 3 dX12_where_76 rfl rfl ?_
      refine J_icmp_gt 167 dX12_where_77 rfl (fun q21 => ?_) (fun q21 => ?_)
      · replace H := br1 q21 H
        refine J_iinc (v6 + (1 : Int32)) dX12_where_167 rfl (congrArg (HAdd.hAdd v6) kc_1) (by decide) (ls' := [.ref v0, .int v1, .int v2, .int v3, .int v4, .int v5, .int (v6 + (1 : Int32)), .int ((326582 : Int32) + ((4 : Int32) * v6))]) rfl ?_
        refine J_goto 35 dX12_where_170 rfl ?_
        cases H
        exact J_dr (hb0 _ rfl) ⟨rfl, ⟨rfl, ⟨rfl, ⟨rfl, ⟨rfl, ⟨rfl, ⟨rfl, trivial⟩⟩⟩⟩⟩⟩⟩
      · replace H := br0 q21 H
        refine J_aload_n 0 dX12_where_80 rfl rfl ?_
        refine J_gP 11 1 dX12_where_81 g13 flX12_8 rfl rfl ?_
        refine J_iload dX12_where_84 rfl ?_
        refine J_iconst (2 : Int32) dX12_where_86 kc_2 ?_
        refine J_iadd dX12_where_87 ?_
        obtain ⟨g22, H⟩ := gd H
        refine J_iald dX12_where_88 g14 (inB_ok g22) ?_
        refine J_iload_n 2 dX12_where_89 rfl rfl ?_
        refine J_icmp_gt 167 dX12_where_90 rfl (fun q23 => ?_) (fun q23 => ?_)
        · replace H := br1 q23 H
          refine J_iinc (v6 + (1 : Int32)) dX12_where_167 rfl (congrArg (HAdd.hAdd v6) kc_1) (by decide) (ls' := [.ref v0, .int v1, .int v2, .int v3, .int v4, .int v5, .int (v6 + (1 : Int32)), .int ((326582 : Int32) + ((4 : Int32) * v6))]) rfl ?_
          refine J_goto 35 dX12_where_170 rfl ?_
          cases H
          exact J_dr (hb0 _ rfl) ⟨rfl, ⟨rfl, ⟨rfl, ⟨rfl, ⟨rfl, ⟨rfl, ⟨rfl, trivial⟩⟩⟩⟩⟩⟩⟩
        · replace H := br0 q23 H
          refine J_aload_n 0 dX12_where_93 rfl rfl ?_
          refine J_gP 11 1 dX12_where_94 g13 flX12_8 rfl rfl ?_
          refine J_iload dX12_where_97 rfl ?_
          refine J_iconst (2 : Int32) dX12_where_99 kc_2 ?_
          refine J_iadd dX12_where_100 ?_
          refine J_iald dX12_where_101 g14 (inB_ok g22) ?_
          refine J_iload dX12_where_102 rfl ?_
          refine J_icmp_ge 110 dX12_where_104 rfl (fun q24 => ?_) (fun q24 => ?_)
          · replace H := br1 q24 H
            refine J_aload_n 0 dX12_where_110 rfl rfl ?_
            refine J_gP 11 1 dX12_where_111 g13 flX12_8 rfl rfl ?_
            refine J_iload dX12_where_114 rfl ?_
            refine J_iconst (2 : Int32) dX12_where_116 kc_2 ?_
            refine J_iadd dX12_where_117 ?_
            refine J_iald dX12_where_118 g14 (inB_ok g22) ?_
            refine J_iload dX12_where_119 rfl ?_
            refine J_icmp_le 138 dX12_where_121 rfl (fun q25 => ?_) (fun q25 => ?_)
            · replace H := br1 q25 H
              refine J_iload dX12_where_138 rfl ?_
              refine J_aload_n 0 dX12_where_140 rfl rfl ?_
              refine J_gP 11 1 dX12_where_141 g13 flX12_8 rfl rfl ?_
              refine J_iload dX12_where_144 rfl ?_
              refine J_iconst (1 : Int32) dX12_where_146 kc_1 ?_
              refine J_iadd dX12_where_147 ?_
              obtain ⟨g26, H⟩ := gd H
              refine J_iald dX12_where_148 g14 (inB_ok g26) ?_
              refine J_icmp_eq 156 dX12_where_149 rfl (fun q27 => ?_) (fun q27 => ?_)
              · replace H := br1 q27 H
                exact J_dr (kX12_where_156 H hb0 hx) ⟨rfl, ⟨rfl, ⟨rfl, ⟨rfl, ⟨rfl, ⟨rfl, ⟨rfl, trivial⟩⟩⟩⟩⟩⟩⟩
              · replace H := br0 q27 H
                refine J_bipush (-2 : Int32) dX12_where_152 kb_m2 ?_
                refine J_istore dX12_where_154 (by decide) (ls' := [.ref v0, .int v1, .int v2, .int v3, .int (-2 : Int32), .int v5, .int v6, .int ((326582 : Int32) + ((4 : Int32) * v6))]) rfl ?_
                exact J_dr (kX12_where_156 H hb0 hx) ⟨rfl, ⟨rfl, ⟨rfl, ⟨rfl, ⟨rfl, ⟨rfl, ⟨rfl, trivial⟩⟩⟩⟩⟩⟩⟩
            · replace H := br0 q25 H
              refine J_aload_n 0 dX12_where_124 rfl rfl ?_
              refine J_gP 11 1 dX12_where_125 g13 flX12_8 rfl rfl ?_
              refine J_iload dX12_where_128 rfl ?_
              refine J_iconst (1 : Int32) dX12_where_130 kc_1 ?_
              refine J_iadd dX12_where_131 ?_
              obtain ⟨g31, H⟩ := gd H
              refine J_iald dX12_where_132 g14 (inB_ok g31) ?_
              obtain ⟨w32, e33, H⟩ := lt_el H
              refine J_nmI e33 ?_
              refine J_istore dX12_where_133 (by decide) (ls' := [.ref v0, .int v1, .int v2, .int v3, .int w32, .int v5, .int v6, .int ((326582 : Int32) + ((4 : Int32) * v6))]) rfl ?_
              refine J_goto 156 dX12_where_135 rfl ?_
              exact J_dr (kX12_where_156 H hb0 hx) ⟨rfl, ⟨rfl, ⟨rfl, ⟨rfl, ⟨rfl, ⟨rfl, ⟨rfl, trivial⟩⟩⟩⟩⟩⟩⟩
          · replace H := br0 q24 H
            refine J_goto 167 dX12_where_107 rfl ?_
            refine J_iinc (v6 + (1 : Int32)) dX12_where_167 rfl (congrArg (HAdd.hAdd v6) kc_1) (by decide) (ls' := [.ref v0, .int v1, .int v2, .int v3, .int v4, .int v5, .int (v6 + (1 : Int32)), .int ((326582 : Int32) + ((4 : Int32) * v6))]) rfl ?_
            refine J_goto 35 dX12_where_170 rfl ?_
            cases H
            exact J_dr (hb0 _ rfl) ⟨rfl, ⟨rfl, ⟨rfl, ⟨rfl, ⟨rfl, ⟨rfl, ⟨rfl, trivial⟩⟩⟩⟩⟩⟩⟩
noncomputable def MX12_where_35 (h : Hp) (v0 : Nat) (v1 : Int32) (v2 : Int32) (v3 : Int32) (v4 : Int32) (v5 : Int32) (v6 : Int32) : Option (Int32 × Hp) := it (fun q : Int32 × Int32 × Int32 => BX12_where_35 h v0 v1 v2 v3 q.1 q.2.1 q.2.2) (v4, v5, v6)
set_option maxRecDepth 100000 in
set_option maxHeartbeats 8000000 in
theorem kX12_where_35 {d : Nat} {h : Hp} {v0 : Nat} {v1 : Int32} {v2 : Int32} {v3 : Int32} {v4 : Int32} {v5 : Int32} {v6 : Int32} {r : Int32} {h9 : Hp} (H : MX12_where_35 h v0 v1 v2 v3 v4 v5 v6 = some (r, h9)) : J (d + 1) YX12_where 35 [.ref v0, .int v1, .int v2, .int v3, .int v4, .int v5, .int v6, Value.null] [] h (oI r) h9 := by
  unfold MX12_where_35 at H
  refine it_J (G := (fun q : Int32 × Int32 × Int32 => J (d + 1) YX12_where 35 [.ref v0, .int v1, .int v2, .int v3, .int q.1, .int q.2.1, .int q.2.2, Value.null] [] h (oI r) h9)) (Q := (fun y : (Int32 × Hp) => y = (r, h9))) (fun q x Hq hm => ?_) H rfl
  exact bX12_where_35 Hq (fun s hs => by subst hs; exact hm) (fun z hz => by subst hz; exact hm)
noncomputable def MX12_where_14 (h : Hp) (v0 : Nat) (v1 : Int32) (v2 : Int32) (v3 : Int32) (s0 : Nat) (s1 : Int32) : Option (Int32 × Hp) :=
  gg (β := (Int32 × Hp)) (kd h s0 = 11) <|
  lt (α := Hp) (β := Option (Int32 × Hp)) (sI h s0 0 s1) fun (h6 : Hp) =>
  gg (β := (Int32 × Hp)) (kd h v0 = 11) <|
  if (gI h6 v0 0) ≤ 0 then
    MX12_where_35 h6 v0 v1 v2 v3 (-1 : Int32) (-1 : Int32) (0 : Int32)
  else
    some ((0 : Int32), h6)
set_option maxRecDepth 100000 in
set_option maxHeartbeats 8000000 in
theorem kX12_where_14 {d : Nat} {h : Hp} {v0 : Nat} {v1 : Int32} {v2 : Int32} {v3 : Int32} {s0 : Nat} {s1 : Int32} {r : Int32} {h9 : Hp} (H : MX12_where_14 h v0 v1 v2 v3 s0 s1 = some (r, h9)) : J (d + 1) YX12_where 14 [.ref v0, .int v1, .int v2, .int v3, Value.null, Value.null, Value.null, Value.null] [.int s1, .ref s0] h (oI r) h9 := by
  unfold MX12_where_14 at H
  obtain ⟨g5, H⟩ := gd H
  obtain ⟨h6, e7, H⟩ := lt_el H
  refine J_pI 11 0 dX12_where_14 g5 flX12_122 rfl rfl e7 ?_
  have c8 := ekI e7
  have c9 := elI e7
  have c10 := epI e7
  refine J_aload_n 0 dX12_where_17 rfl rfl ?_
  obtain ⟨g11, H⟩ := gd H
  refine J_getI 11 0 dX12_where_18 (kq c8 g11) flX12_122 rfl ?_
  refine J_if_le 26 dX12_where_21 rfl (fun q12 => ?_) (fun q12 => ?_)
  · replace H := br1 q12 H
    refine J_iconst (-1 : Int32) dX12_where_26 kc_m1 ?_
    refine J_istore dX12_where_27 (by decide) (ls' := [.ref v0, .int v1, .int v2, .int v3, .int (-1 : Int32), Value.null, Value.null, Value.null]) rfl ?_
    refine J_iconst (-1 : Int32) dX12_where_29 kc_m1 ?_
    refine J_istore dX12_where_30 (by decide) (ls' := [.ref v0, .int v1, .int v2, .int v3, .int (-1 : Int32), .int (-1 : Int32), Value.null, Value.null]) rfl ?_
    refine J_iconst (0 : Int32) dX12_where_32 kc_0 ?_
    refine J_istore dX12_where_33 (by decide) (ls' := [.ref v0, .int v1, .int v2, .int v3, .int (-1 : Int32), .int (-1 : Int32), .int (0 : Int32), Value.null]) rfl ?_
    exact J_dr (kX12_where_35 H ) ⟨rfl, ⟨rfl, ⟨rfl, ⟨rfl, ⟨rfl, ⟨rfl, ⟨rfl, trivial⟩⟩⟩⟩⟩⟩⟩
  · replace H := br0 q12 H
    refine J_iconst (0 : Int32) dX12_where_24 kc_0 ?_
    cases H
    exact J_iretI dX12_where_25 rfl
noncomputable def MX12_where (h : Hp) (v0 : Nat) (v1 : Int32) (v2 : Int32) (v3 : Int32) : Option (Int32 × Hp) :=
  gg (β := (Int32 × Hp)) (kd h v0 = 11) <|
  Option.bind (α := Int32) (β := (Int32 × Hp)) (MX12_isSlug h v0 v1) fun (t3 : Int32) =>
  if t3 = 0 then
    MX12_where_14 h v0 v1 v2 v3 v0 (1 : Int32)
  else
    MX12_where_14 h v0 v1 v2 v3 v0 (0 : Int32)
set_option maxRecDepth 100000 in
set_option maxHeartbeats 8000000 in
theorem eX12_where {d : Nat} {h : Hp} {v0 : Nat} {v1 : Int32} {v2 : Int32} {v3 : Int32} {r : Int32} {h9 : Hp} (H : MX12_where h v0 v1 v2 v3 = some (r, h9)) : J (d + 1) YX12_where 0 [.ref v0, .int v1, .int v2, .int v3, Value.null, Value.null, Value.null, Value.null] [] h (oI r) h9 := by
  unfold MX12_where at H
  refine J_aload_n 0 dX12_where_0 rfl rfl ?_
  refine J_aload_n 0 dX12_where_1 rfl rfl ?_
  refine J_iload_n 1 dX12_where_2 rfl rfl ?_
  obtain ⟨g2, H⟩ := gd H
  obtain ⟨t3, e1, H⟩ := bd H
  refine J_cV (as := [.int v1]) 11 YX12_isSlug 1 dX12_where_3 moX12_isSlug mvX12_isSlug mlX12_396 g2 rfl rfl (okX12_isSlug (d := d) e1) rfl rfl [.ref v0] rfl rfl (st2 := [.int t3, .ref v0]) rfl ?_
  refine J_if_ne 13 dX12_where_6 rfl (fun q4 => ?_) (fun q4 => ?_)
  · replace H := br0 q4 H
    refine J_iconst (0 : Int32) dX12_where_13 kc_0 ?_
    exact J_dr (kX12_where_14 H ) ⟨rfl, ⟨rfl, ⟨rfl, ⟨rfl, trivial⟩⟩⟩⟩
  · replace H := br1 q4 H
    refine J_iconst (1 : Int32) dX12_where_9 kc_1 ?_
    refine J_goto 14 dX12_where_10 rfl ?_
    exact J_dr (kX12_where_14 H ) ⟨rfl, ⟨rfl, ⟨rfl, ⟨rfl, trivial⟩⟩⟩⟩
theorem okX12_where {d : Nat} {h : Hp} {v0 : Nat} {v1 : Int32} {v2 : Int32} {v3 : Int32} {r : Int32} {h9 : Hp} (H : MX12_where h v0 v1 v2 v3 = some (r, h9)) : CT (d + 1) YX12_where [.ref v0, .int v1, .int v2, .int v3] h (oI r) h9 := CT_of (by decide +kernel) (Nat.le_of_ble_eq_true rfl) (eX12_where H)
noncomputable def MX12_width_39 (h : Hp) (v0 : Nat) (v1 : Int32) (v2 : Int32) (v3 : Int32) (s0 : Nat) (s1 : Int32) : Option Hp :=
  gg (β := Hp) (kd h s0 = 11) <|
  lt (α := Hp) (β := Option Hp) (sI h s0 0 s1) fun (h5 : Hp) =>
  gg (β := Hp) (kd h v0 = 11) <|
  if (gI h5 v0 0) = 0 then
    gg (β := Hp) (kd h (gP h v0 1) = 20) <|
    gg (β := Hp) (inB (((16 : Int32) + ((27 : Int32) * v1)) + v2) (ln h (gP h v0 1)) = true) <|
    lt (α := Hp) (β := Option Hp) (sI h5 (gP h v0 1) (((16 : Int32) + ((27 : Int32) * v1)) + v2).toNatClampNeg v3) fun (h14 : Hp) =>
    some h14
  else
    some h5
set_option maxRecDepth 100000 in
set_option maxHeartbeats 8000000 in
theorem kX12_width_39 {d : Nat} {h : Hp} {v0 : Nat} {v1 : Int32} {v2 : Int32} {v3 : Int32} {s0 : Nat} {s1 : Int32} {h9 : Hp} (H : MX12_width_39 h v0 v1 v2 v3 s0 s1 = some h9) : J (d + 1) YX12_width 39 [.ref v0, .int v1, .int v2, .int v3] [.int s1, .ref s0] h oV h9 := by
  unfold MX12_width_39 at H
  obtain ⟨g4, H⟩ := gd H
  obtain ⟨h5, e6, H⟩ := lt_el H
  refine J_pI 11 0 dX12_width_39 g4 flX12_122 rfl rfl e6 ?_
  have c7 := ekI e6
  have c8 := elI e6
  have c9 := epI e6
  refine J_aload_n 0 dX12_width_42 rfl rfl ?_
  obtain ⟨g10, H⟩ := gd H
  refine J_getI 11 0 dX12_width_43 (kq c7 g10) flX12_122 rfl ?_
  refine J_if_ne 64 dX12_width_46 rfl (fun q11 => ?_) (fun q11 => ?_)
  · replace H := br0 q11 H
    cases H
    exact J_ret dX12_width_64 rfl
  · replace H := br1 q11 H
    refine J_aload_n 0 dX12_width_49 rfl rfl ?_
    refine J_gP 11 1 dX12_width_50 (kq c7 g10) flX12_8 rfl (congrFun (congrFun c9 v0) 1) ?_
    refine J_bipush (16 : Int32) dX12_width_53 kb_16 ?_
    refine J_bipush (27 : Int32) dX12_width_55 kb_27 ?_
    refine J_iload_n 1 dX12_width_57 rfl rfl ?_
    refine J_imul dX12_width_58 ?_
    refine J_iadd dX12_width_59 ?_
    refine J_iload_n 2 dX12_width_60 rfl rfl ?_
    refine J_iadd dX12_width_61 ?_
    refine J_iload_n 3 dX12_width_62 rfl rfl ?_
    obtain ⟨g12, H⟩ := gd H
    obtain ⟨g13, H⟩ := gd H
    obtain ⟨h14, e15, H⟩ := lt_el H
    refine J_sI dX12_width_63 (kq c7 g12) (lq c8 g13) e15 ?_
    have c16 := (ekI e15).trans c7
    have c17 := (elI e15).trans c8
    have c18 := (epI e15).trans c9
    cases H
    exact J_ret dX12_width_64 rfl
noncomputable def MX12_width_20 (h : Hp) (v0 : Nat) (v1 : Int32) (v2 : Int32) (v3 : Int32) (s0 : Nat) : Option Hp :=
  MX12_width_39 h v0 v1 v2 v3 s0 (1 : Int32)
set_option maxRecDepth 100000 in
set_option maxHeartbeats 8000000 in
theorem kX12_width_20 {d : Nat} {h : Hp} {v0 : Nat} {v1 : Int32} {v2 : Int32} {v3 : Int32} {s0 : Nat} {h9 : Hp} (H : MX12_width_20 h v0 v1 v2 v3 s0 = some h9) : J (d + 1) YX12_width 20 [.ref v0, .int v1, .int v2, .int v3] [.ref s0] h oV h9 := by
  unfold MX12_width_20 at H
  refine J_iconst (1 : Int32) dX12_width_20 kc_1 ?_
  refine J_goto 39 dX12_width_21 rfl ?_
  exact J_dr (kX12_width_39 H ) ⟨rfl, ⟨rfl, ⟨rfl, ⟨rfl, trivial⟩⟩⟩⟩
noncomputable def MX12_width (h : Hp) (v0 : Nat) (v1 : Int32) (v2 : Int32) (v3 : Int32) : Option Hp :=
  Option.bind (α := Int32) (β := Hp) (MX12_isIn h v1 (0 : Int32) (1 : Int32)) fun (t2 : Int32) =>
  if t2 = 0 then
    MX12_width_20 h v0 v1 v2 v3 v0
  else
    Option.bind (α := Int32) (β := Hp) (MX12_isIn h v2 (0 : Int32) (26 : Int32)) fun (t20 : Int32) =>
    if t20 = 0 then
      MX12_width_20 h v0 v1 v2 v3 v0
    else
      Option.bind (α := Int32) (β := Hp) (MX12_isIn h v3 (1 : Int32) (20 : Int32)) fun (t23 : Int32) =>
      if t23 = 0 then
        MX12_width_39 h v0 v1 v2 v3 v0 (2 : Int32)
      else
        MX12_width_39 h v0 v1 v2 v3 v0 (0 : Int32)
set_option maxRecDepth 100000 in
set_option maxHeartbeats 8000000 in
theorem eX12_width {d : Nat} {h : Hp} {v0 : Nat} {v1 : Int32} {v2 : Int32} {v3 : Int32} {h9 : Hp} (H : MX12_width h v0 v1 v2 v3 = some h9) : J (d + 1) YX12_width 0 [.ref v0, .int v1, .int v2, .int v3] [] h oV h9 := by
  unfold MX12_width at H
  refine J_aload_n 0 dX12_width_0 rfl rfl ?_
  refine J_iload_n 1 dX12_width_1 rfl rfl ?_
  refine J_iconst (0 : Int32) dX12_width_2 kc_0 ?_
  refine J_iconst (1 : Int32) dX12_width_3 kc_1 ?_
  obtain ⟨t2, e1, H⟩ := bd H
  refine J_cS (as := [.int v1, .int (0 : Int32), .int (1 : Int32)]) YX12_isIn 3 dX12_width_4 moX12_isIn msX12_isIn mlX12_157 (okX12_isIn (d := d) e1) rfl rfl [.ref v0] rfl rfl (st2 := [.int t2, .ref v0]) rfl ?_
  refine J_if_eq 20 dX12_width_7 rfl (fun q3 => ?_) (fun q3 => ?_)
  · replace H := br1 q3 H
    exact J_dr (kX12_width_20 H ) ⟨rfl, ⟨rfl, ⟨rfl, ⟨rfl, trivial⟩⟩⟩⟩
  · replace H := br0 q3 H
    refine J_iload_n 2 dX12_width_10 rfl rfl ?_
    refine J_iconst (0 : Int32) dX12_width_11 kc_0 ?_
    refine J_bipush (26 : Int32) dX12_width_12 kb_26 ?_
    obtain ⟨t20, e19, H⟩ := bd H
    refine J_cS (as := [.int v2, .int (0 : Int32), .int (26 : Int32)]) YX12_isIn 3 dX12_width_14 moX12_isIn msX12_isIn mlX12_157 (okX12_isIn (d := d) e19) rfl rfl [.ref v0] rfl rfl (st2 := [.int t20, .ref v0]) rfl ?_
    refine J_if_ne 24 dX12_width_17 rfl (fun q21 => ?_) (fun q21 => ?_)
    · replace H := br0 q21 H
      refine J_iload_n 3 dX12_width_24 rfl rfl ?_
      refine J_iconst (1 : Int32) dX12_width_25 kc_1 ?_
      refine J_bipush (20 : Int32) dX12_width_26 kb_20 ?_
      obtain ⟨t23, e22, H⟩ := bd H
      refine J_cS (as := [.int v3, .int (1 : Int32), .int (20 : Int32)]) YX12_isIn 3 dX12_width_28 moX12_isIn msX12_isIn mlX12_157 (okX12_isIn (d := d) e22) rfl rfl [.ref v0] rfl rfl (st2 := [.int t23, .ref v0]) rfl ?_
      refine J_if_ne 38 dX12_width_31 rfl (fun q24 => ?_) (fun q24 => ?_)
      · replace H := br0 q24 H
        refine J_iconst (0 : Int32) dX12_width_38 kc_0 ?_
        exact J_dr (kX12_width_39 H ) ⟨rfl, ⟨rfl, ⟨rfl, ⟨rfl, trivial⟩⟩⟩⟩
      · replace H := br1 q24 H
        refine J_iconst (2 : Int32) dX12_width_34 kc_2 ?_
        refine J_goto 39 dX12_width_35 rfl ?_
        exact J_dr (kX12_width_39 H ) ⟨rfl, ⟨rfl, ⟨rfl, ⟨rfl, trivial⟩⟩⟩⟩
    · replace H := br1 q21 H
      exact J_dr (kX12_width_20 H ) ⟨rfl, ⟨rfl, ⟨rfl, ⟨rfl, trivial⟩⟩⟩⟩
theorem okX12_width {d : Nat} {h : Hp} {v0 : Nat} {v1 : Int32} {v2 : Int32} {v3 : Int32} {h9 : Hp} (H : MX12_width h v0 v1 v2 v3 = some h9) : CT (d + 1) YX12_width [.ref v0, .int v1, .int v2, .int v3] h oV h9 := CT_of (by decide +kernel) (Nat.le_of_ble_eq_true rfl) (eX12_width H)
