/-! RULES OF THE LAW: handlers, methods with handlers, the script, its own end -/
def PH (hh : List (Nat × Nat × Nat × Nat)) : Kc → State → Code → Prop := fun _ _ c => c.exceptionTable.toList = tableOf hh
def PL (L : Nat) (xs : Nat → Int32) : Kc → State → Code → Prop := fun K s _ => va_X (K.2.1 3000) L xs s s.heap ∧ K.2.1 3000 < s.heap.size ∧ ¬ kA K (K.2.1 3000)
theorem kn_putN {n i : Nat} {sa : Nat → Nat} {g : Gh} {ls : List Value} {nL : Nat} {v : Value} {LS : Array Slot} (ho : ok1 n ls) (h : lv_has LS nL ((i, v) :: (kn sa g ls).filter (fun q => !(q.1 == i) && !(q.1 + 1 == i && q.2.category == 2)))) : lv_has LS nL (kn sa g (ls.set i Value.null)) := by
  refine ⟨h.1, h.2.1, fun q hq => h.2.2 q ?_⟩
  obtain ⟨w, h1, h2, h3⟩ := kn_mem.mp hq
  rw [List.getElem?_set] at h1
  by_cases hi : i = q.1
  · rw [if_pos hi] at h1
    split at h1
    · cases h1
      exact absurd rfl h2
    · cases h1
  · rw [if_neg hi] at h1
    refine List.mem_cons.mpr (Or.inr (List.mem_filter.mpr ⟨kn_mem.mpr ⟨w, h1, h2, h3⟩, ?_⟩))
    have hc : q.2.category = 1 := by rw [h3, rel_cat]; exact (ho w (List.mem_of_getElem? h1)).2
    have hi2 : ¬ q.1 = i := fun z => hi z.symm
    simp [hi2, hc]
section
variable {Φ : Kc → State → Code → Prop} {d pc : Nat} {Y : Mt} {ls st : List Value} {h h' : Hp} {o : Oc}
/-- caught by the row x of the table; the rows ahead name other classes; the exception goes into the local i -/
theorem JX_catch {hh : List (Nat × Nat × Nat × Nat)} {E : Nat} (pre : List ExceptionTableEntry) (x : ExceptionTableEntry) (suf : List ExceptionTableEntry) (i n : Nat) (hs : tableOf hh = pre ++ x :: suf)
    (hp : ∀ z ∈ pre, z.catchType ≠ 0 ∧ ∃ j, Cond.classLink Y.1.cls z.catchType (exN j) ∈ lw_tbl ∧ (exN E, exN j) ∈ ncL) (hx : covers x pc = true) (h0 : x.catchType ≠ 0)
    (hl : Cond.classLink Y.1.cls x.catchType (exN E) ∈ lw_tbl) (hc : Cond.castable (exN E) (exN E) ∈ lw_tbl)
    (ha : (decode Y.2.1 x.handlerPc = .ok (.astore i, 2) ∧ n = 2) ∨ ∃ k : Fin 4, decode Y.2.1 x.handlerPc = .ok (.astore_n k, 1) ∧ (k : Nat) = i ∧ n = 1) (hi : i < Y.2.2.1)
    (k : JP (PH hh) d Y (x.handlerPc + n) (ls.set i Value.null) [] h o h') : JX (PH hh) d Y pc ls st h E o h' := by
  refine ⟨k.1, k.2.1, fun K g0 h1 p l e R s m args below meth c G r1 r2 g H locs LS q ce a1 a2 a3 a4 a5 a6 hq hce hcl => ?_⟩
  have G8 : c.exceptionTable.toList = tableOf hh := G.2.2.2.2.2.2.2.1
  refine vx_catch (own := Y.1.cls) (name := exN E) (E := exN E) G.2.2.2.2.1 pre x suf (G8.trans hs) (fun z hz => ?_) hx h0 (G.2.2.2.2.2.1 _ (gin hl rfl)) ?_ hq hce hcl ?_
  · obtain ⟨z1, j, z2, z3⟩ := hp z hz
    exact Or.inr ⟨z1, exN j, G.2.2.2.2.2.1 _ (gin z2 rfl), G.2.2.2.2.2.2.2.2.2.2.2.2.2.2.2.2.2.2.2.1 _ z3⟩
  · exact va_Nw.use rfl (G.2.2.2.2.2.2.2.2.2.2.2.2.2.2.2.2.2.2.1 _ (List.mem_filter.mpr ⟨hc, rfl⟩))
  · have fin : ∀ LS' : Array Slot, lv_has LS' Y.2.2.1 ((i, Value.ref q) :: (kn K.2.1 g ls).filter (fun q => !(q.1 == i) && !(q.1 + 1 == i && q.2.category == 2))) → W p l e R s m args below meth c H locs (nc h - nc h1) (ns h - ns h1) (vx_MQ below (Qct K g0 h1 o h') (Xct K g0 h1 o h') args s R.cells R.slots (kA K)) (F0 m (x.handlerPc + n) LS' []) := fun LS' hLS => k.2.2 K g0 h1 p l e R s m args below meth c G r1 r2 g H locs LS' a1 a2 a3 (kn_putN a5 hLS) (ok1_set a5 trivial rfl) trivial
    rcases ha with ⟨ha, rfl⟩ | ⟨kf, ha, hk, rfl⟩
    · exact lvg_astore G.1 G.2.1 (Or.inr ⟨q, rfl⟩) ha a4 hi fin
    · exact lvg_astore_n G.1 G.2.1 (Or.inr ⟨q, rfl⟩) ha hk a4 hi fin
/-- a method with a table: what its call does -/
def wsW (Y : Mt) (hh : List (Nat × Nat × Nat × Nat)) : List Cond := .codeWith Y.1 Y.2.1 Y.2.2.1 Y.2.2.2 hh :: gWs
def CTW (d : Nat) (Y : Mt) (hh : List (Nat × Nat × Nat × Nat)) (as : List Value) (h : Hp) (o : Oc) (h' : Hp) : Prop := nc h ≤ nc h' ∧ ns h ≤ ns h' ∧ ∀ (l : Launch) (K : Kc) (g : Gh), l.stackTraces = false →
  vx_Met l Y.1 (wsW Y hh) (rmY d (nc h' - nc h) (ns h' - ns h)) (Pct K g as h) (Qct K g h o h') (Xct K g h o h') (nc h' - nc h) (ns h' - ns h) (kA K)
theorem CTW_of {hh : List (Nat × Nat × Nat × Nat)} {as : List Value} (hp : plainName Y.1.cls = true) (hn : as.length ≤ Y.2.2.1) (k : JP (PH hh) d Y 0 (en Y.2.2.1 as) [] h o h') : CTW d Y hh as h o h' := by
  refine ⟨k.1, k.2.1, fun l K g hst => ?_⟩
  have k1 := k.1
  have k2 := k.2.1
  refine vx_ofWH (hh := hh) (cc := Y.2.1) (maxL := Y.2.2.1) (ret := Y.2.2.2) (ws' := gWs) hp rfl ?_
  intro p e s m args below meth c s₁ B hml hv
  have hex : c.exceptionTable.toList = tableOf hh := vx_table (x := Y.1) B (atoms_spec (ws := wsW Y hh) B.pre _ List.mem_cons_self)
  obtain ⟨rfl, hw, hk, ho⟩ := hv
  have G : Gd (PH hh) K d Y p l (rmY d (nc h' - nc h) (ns h' - ns h)) s m (as.map (rel K.2.1 g)).toArray meth c :=
    ⟨B.exec, B.bytes, B.returns, hml, findClass_of_methodNamed B.named, fun w hw => atoms_spec (ws := wsW Y hh) B.pre w (List.mem_cons_of_mem _ hw), B.notSynchronized, hex, (name_of_methodNamed B.named B.method).1, hst, Nat.le_refl _, Nat.le_refl _, hk⟩
  have hcat : ∀ v ∈ as.map (rel K.2.1 g), v.category = 1 := fun v hv => by
    obtain ⟨w, h1, rfl⟩ := List.mem_map.mp hv
    rw [rel_cat]; exact (ho w h1).2
  have hlen : (lg_sl (as.map (rel K.2.1 g))).length = as.length := by rw [lg_sl_len _ hcat, List.length_map]
  have hl := lv_entry (as.map (rel K.2.1 g)) (n := Y.2.2.1) (by omega)
  rw [lg_entry_eq]
  generalize (lg_sl (as.map (rel K.2.1 g)) ++ List.replicate (Y.2.2.1 - (lg_sl (as.map (rel K.2.1 g))).length) Slot.unset).toArray = LS at hl ⊢
  have hl2 : lv_has LS Y.2.2.1 (kn K.2.1 g (en Y.2.2.1 as)) := ⟨hl.1, hl.2.1, fun q hq => by
    obtain ⟨v, h1, h2, h3⟩ := kn_mem.mp hq
    have h4 : as[q.1]? = some v := by
      simp only [en] at h1
      by_cases hi : q.1 < as.length
      · rwa [List.getElem?_append_left hi] at h1
      · rw [List.getElem?_append_right (by omega)] at h1
        exact absurd (List.eq_of_mem_replicate (List.mem_of_getElem? h1)) h2
    have h5 : (as.map (rel K.2.1 g))[q.1]? = some q.2 := by rw [List.getElem?_map, h4, h3]; rfl
    have h6 := lv_args_mem _ hcat 0 q.1 q.2 h5
    rw [Nat.zero_add] at h6
    exact hl.2.2 q h6⟩
  have ho2 : ok1 (sz h) (en Y.2.2.1 as) := fun v hv => by
    rcases List.mem_append.mp hv with q | q
    · exact ho v q
    · rw [List.eq_of_mem_replicate q]; exact ⟨trivial, rfl⟩
  have z := k.2.2 K g h p l e (rmY d (nc h' - nc h) (ns h' - ns h)) s m (as.map (rel K.2.1 g)).toArray below meth c G (by show nc h + (nc h' - nc h) = nc h'; omega) (by show ns h + (ns h' - ns h) = ns h'; omega) g s.heap [] LS ⟨Nat.le_refl _, Nat.le_refl _, Nat.le_refl _, fun _ _ _ => rfl⟩ hw va_S.rf hl2 ho2 trivial
  rw [Nat.sub_self, Nat.sub_self] at z
  exact z
def MOW (Y1 : Mt) (hh : List (Nat × Nat × Nat × Nat)) (n : Nat) : Prop := Cond.codeWith Y1.1 Y1.2.1 Y1.2.2.1 Y1.2.2.2 hh ∈ lw_tbl ∧ Cond.initialized Y1.1.cls ∈ lw_tbl ∧ (Y1.1.cls ≠ "java/lang/invoke/MethodHandle" ∧ Y1.1.cls ≠ "java/lang/invoke/VarHandle") ∧ (parseMethodDescriptor Y1.1.desc).map (fun d => d.parameters.length) = some n ∧ Y1.2.2.1 ≤ 60
theorem GoodIn_wsW {Y1 : Mt} {hh : List (Nat × Nat × Nat × Nat)} {n : Nat} (hm : MOW Y1 hh n) : GoodIn gWs (wsW Y1 hh) := fun w hw => by
  rcases List.mem_cons.mp hw with rfl | q
  · exact ⟨gin hm.1 rfl, good_of_word rfl⟩
  · exact ⟨q, good_of_word (good_gWs q)⟩
theorem J_callSW {hh : List (Nat × Nat × Nat × Nat)} {idx : Nat} {as : List Value} {o1 : Oc} {h1 : Hp} (Y1 : Mt) (n : Nat) (hd : decode Y.2.1 pc = .ok (.invokestatic idx, 3)) (hm : MOW Y1 hh n) (hs : Cond.static Y1.1 ∈ lw_tbl) (hl : Cond.methodLink Y.1.cls idx Y1.1 ∈ lw_tbl) (hn : as.length = n) (hcat : ∀ v ∈ as, v.category = 1) {st0 : List Value} (he : as.reverse ++ st = st0) (hw : (st.map Value.category).sum ≤ 8) (hc : CTW d Y1 hh as h o1 h1) (kv : ∀ v, o1 = .inl v → JP Φ (d + 1) Y (pc + 3) ls (v.toList ++ st) h1 o h') (kx : ∀ E, o1 = .inr E → JX Φ (d + 1) Y pc ls st h1 E o h') : JP Φ (d + 1) Y pc ls st0 h o h' := by
  subst he
  have hmono : nc h1 ≤ nc h' ∧ ns h1 ≤ ns h' := by
    cases o1 with
    | inl v => exact ⟨(kv v rfl).1, (kv v rfl).2.1⟩
    | inr E => exact ⟨(kx E rfl).1, (kx E rfl).2.1⟩
  refine ⟨Nat.le_trans hc.1 hmono.1, Nat.le_trans hc.2.1 hmono.2, fun K g0 h0 p l e R s m args below meth c G r1 r2 g H locs LS a1 a2 a3 a4 a5 a6 => ?_⟩
  have c1 := hc.1
  have c2 := hc.2.1
  have ha := okS_app.mp a6
  have ho : ok1 (sz h) as := fun v hv => ⟨okS_rev ha.1 v hv, hcat v hv⟩
  refine J_run (st := st) (a9 := (as.map (rel K.2.1 g)).toArray) G a1 a3 a4 a5 ha.2 c1 c2 r1 r2 ?_ kv kx
  refine vx_runSX (hh := hh) (nL := Y.2.2.1) (Ts := gWs) (own := Y.1.cls) (ret := Y1.2.2.2) (bytes := Y1.2.1) (maxL := Y1.2.2.1) (ws := wsW Y1 hh) (As := as.map (rel K.2.1 g)) ⟨G.1, G.2.1, G.2.2.2.1, G.2.2.2.2.1, G.2.2.2.2.2.1⟩ (hc.2.2 l K g G.2.2.2.2.2.2.2.2.2.1) (vx_cwSW (n) G.2.2.2.2.2.1 ?_ rfl rfl rfl ⟨hm.2.2.1.1, hm.2.2.1.2, hm.2.2.2.1⟩ ⟨?_, ?_⟩) ⟨Pct_blind, pct_of G a2 a3 ho⟩ rfl (by rw [List.length_map]; exact hn) (a4.1) (by rw [List.map_append, List.map_reverse]) (lv_room (by rw [cat_rest]; exact hw)) hd ⟨by omega, by omega⟩
  · intro w hw'
    rcases List.mem_append.mp hw' with q | q
    · rcases List.mem_cons.mp q with rfl | q
      · exact ⟨gin hl rfl, good_of_word rfl⟩
      · rcases List.mem_cons.mp q with rfl | q
        · exact ⟨gin hs rfl, good_of_word rfl⟩
        · rcases List.mem_cons.mp q with rfl | q
          · exact ⟨gin hm.2.1 rfl, good_of_word rfl⟩
          · cases q
    · exact GoodIn_wsW hm w q
  · have := G.2.2.2.2.2.2.2.2.2.2.1
    show 6 * d + 12 + 1 ≤ _
    omega
  · exact loc_ok G.2.2.2.2.2.2.2.2.2.2.2.1 hm.2.2.2.2
theorem J_cSW {st0 st2 : List Value} {hh : List (Nat × Nat × Nat × Nat)} {idx : Nat} {as : List Value} {v : Option Value} {h1 : Hp} (Y1 : Mt) (n : Nat) (hd : decode Y.2.1 pc = .ok (.invokestatic idx, 3)) (hm : MOW Y1 hh n) (hs : Cond.static Y1.1 ∈ lw_tbl) (hl : Cond.methodLink Y.1.cls idx Y1.1 ∈ lw_tbl) (hc : CTW d Y1 hh as h (.inl v) h1) (hn : as.length = n) (hcat : catOk as = true) (st : List Value) (he : as.reverse ++ st = st0) (hw : ((st.map Value.category).sum).ble 8 = true) (h2 : v.toList ++ st = st2) (k : JP Φ (d + 1) Y (pc + 3) ls st2 h1 o h') : JP Φ (d + 1) Y pc ls st0 h o h' :=
  J_callSW (as := as) (st := st) Y1 n hd hm hs hl hn (catOk_ok hcat) he (Nat.le_of_ble_eq_true hw) hc (fun w hw => by cases hw; rw [h2]; exact k) (fun E hE => by cases hE)
/-- a call that throws, and what comes of it -/
theorem J_cVC {st0 : List Value} {idx r : Nat} {as : List Value} {E : Nat} {h1 : Hp} (c1 : Nat) (Y1 : Mt) (n : Nat) (hd : decode Y.2.1 pc = .ok (.invokevirtual idx, 3)) (hm : MO Y1 n) (hs : MV Y1) (hl : Cond.methodLink Y.1.cls idx Y1.1 ∈ lw_tbl) (hk : kd h r = c1) (hcl : FC c1 = Y1.1.cls) (h12 : c1.blt 12 = true) (hc : CT d Y1 (.ref r :: as) h (.inr E) h1) (hn : as.length = n) (hcat : catOk as = true) (st : List Value) (he : as.reverse ++ .ref r :: st = st0) (hw : ((st.map Value.category).sum).ble 8 = true) (kx : JX Φ (d + 1) Y pc ls st h1 E o h') : JP Φ (d + 1) Y pc ls st0 h o h' :=
  J_callV (as := as) (st := st) Y1 n hd hm hs hl hk (blt_ok h12) hcl hn (catOk_ok hcat) he (Nat.le_of_ble_eq_true hw) hc (fun w hw => by cases hw) (fun E hE => by cases hE; exact kx)
theorem J_slen {L : Nat} {xs : Nat → Int32} (hd : decode Y.2.1 pc = .ok (.arraylength, 1)) (k : JP (PL L xs) d Y (pc + 1) ls (.int (nI L) :: st) h o h') : JP (PL L xs) d Y pc ls (.retAddr 3000 :: st) h o h' := by
  refine ⟨k.1, k.2.1, fun K g0 h0 p l e R s m args below meth c G r1 r2 g H locs LS a1 a2 a3 a4 a5 a6 => ?_⟩
  have X : va_X (K.2.1 3000) L xs s s.heap ∧ K.2.1 3000 < s.heap.size ∧ ¬ kA K (K.2.1 3000) := G.2.2.2.2.2.2.2.1
  rw [List.map_cons, show rel K.2.1 g (.retAddr 3000) = .ref (K.2.1 3000) from rfl]
  exact va_slen G.1 G.2.1 X.1 X.2.1 X.2.2 a3 hd (k.2.2 K g0 h0 p l e R s m args below meth c G r1 r2 g H locs LS a1 a2 a3 a4 a5 ⟨trivial, a6.2⟩)
theorem J_sld {L : Nat} {xs : Nat → Int32} {i : Int32} (hd : decode Y.2.1 pc = .ok (.iaload, 1)) (hi : vp_in i L) (k : JP (PL L xs) d Y (pc + 1) ls (.int (xs i.toNatClampNeg) :: st) h o h') : JP (PL L xs) d Y pc ls (.int i :: .retAddr 3000 :: st) h o h' := by
  refine ⟨k.1, k.2.1, fun K g0 h0 p l e R s m args below meth c G r1 r2 g H locs LS a1 a2 a3 a4 a5 a6 => ?_⟩
  have X : va_X (K.2.1 3000) L xs s s.heap ∧ K.2.1 3000 < s.heap.size ∧ ¬ kA K (K.2.1 3000) := G.2.2.2.2.2.2.2.1
  rw [List.map_cons, List.map_cons, show rel K.2.1 g (.retAddr 3000) = .ref (K.2.1 3000) from rfl]
  exact va_sld G.1 G.2.1 X.1 X.2.1 X.2.2 a3 hi hd (k.2.2 K g0 h0 p l e R s m args below meth c G r1 r2 g H locs LS a1 a2 a3 a4 a5 ⟨trivial, a6.2.2⟩)
theorem J_lretZ {v : Int32} {a b : Nat} (hd : decode Y.2.1 pc = .ok (.ireturn, 1)) (ht : Y.2.2.2 = some .boolean) (hz : zOk v = true) : JP Φ d Y pc ls [.int v] h (oI v) (bmp h a b) := by
  refine ⟨Nat.le_add_right _ _, Nat.le_add_right _ _, fun K g0 h0 p l e R s m args below meth c G r1 r2 g H locs LS a1 a2 a3 a4 a5 a6 => ?_⟩
  have e1 : nc h0 + R.cells = nc h + a := r1
  have e2 : ns h0 + R.slots = ns h + b := r2
  refine W.widen (k := R.cells) (n := R.slots) (by omega) (by omega) ?_
  exact vx_ret (W.zret G.1 G.2.1 (G.2.2.1.trans ht) (zOk_ok hz).1 (fun t ht hW => ⟨⟨some (.int v), g, rfl, rfl, a1.2.2.2, a2.to hW.alike ht, ⟨trivial, trivial⟩, a1.2.2.1⟩, a3.F ht⟩) a3.2.2 hd G.2.2.2.2.2.2.1)
theorem J_lconst' {n : Fin 2} (v : Int32) (hd : decode Y.2.1 pc = .ok (.lconst n, 1)) (hv : Int64.ofNat (n : Nat) = v.toInt64) (k : JP Φ d Y (pc + 1) ls (.long v.toInt64 :: st) h o h') : JP Φ d Y pc ls st h o h' := J_lconst v.toInt64 hd hv k
theorem J_lS2 {r : Nat} {i x : Int32} {hh : Hp} (hd : decode Y.2.1 pc = .ok (.lastore, 1)) (hk : kd h r = 23) (hi : vp_in i (ln h r)) (he : sI h r i.toNatClampNeg x = hh) (kk : JP Φ d Y (pc + 1) ls st hh o h') : JP Φ d Y pc ls (.long x.toInt64 :: .int i :: .ref r :: st) h o h' := by
  subst he
  exact J_last hd hk hi kk
/-- two longs that came out of ints -/
def lgc (x y : Int32) : Int32 := lg_cmp x.toInt64 y.toInt64
theorem J_lcmp' {x y : Int32} (hd : decode Y.2.1 pc = .ok (.lcmp, 1)) (k : JP Φ d Y (pc + 1) ls (.int (lgc x y) :: st) h o h') : JP Φ d Y pc ls (.long y.toInt64 :: .long x.toInt64 :: st) h o h' := J_lcmp hd k
end
theorem lc_0 : Int64.ofNat ((0 : Fin 2) : Nat) = (0 : Int32).toInt64 := by decide
theorem lc_1 : Int64.ofNat ((1 : Fin 2) : Nat) = (1 : Int32).toInt64 := by decide
def bC {β : Type} (x : Option ((β ⊕ Nat) × Hp)) (f : β → Hp → Option (Int32 × Hp)) (k : Nat → Hp → Option (Int32 × Hp)) : Option (Int32 × Hp) := match x with
  | some (.inl v, h) => f v h
  | some (.inr k1, h) => k k1 h
  | none => none
theorem bC_el {β : Type} {x : Option ((β ⊕ Nat) × Hp)} {f : β → Hp → Option (Int32 × Hp)} {k : Nat → Hp → Option (Int32 × Hp)} {r : Int32 × Hp} (H : bC x f k = some r) : (∃ v w, x = some (.inl v, w) ∧ f v w = some r) ∨ ∃ k1 w, x = some (.inr k1, w) ∧ k k1 w = some r := by
  cases x with
  | none => cases H
  | some v =>
    obtain ⟨v, w⟩ := v
    cases v with
    | inl v => exact Or.inl ⟨v, w, rfl, H⟩
    | inr k1 => exact Or.inr ⟨k1, w, rfl, H⟩
theorem kc_6 : Int32.ofInt (6) = (6 : Int32) := by decide
