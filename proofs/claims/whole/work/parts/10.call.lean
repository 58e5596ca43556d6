/-! RULES: ends, calls, throws; a call out of its body -/
set_option maxRecDepth 100000 in
theorem loc_ok {a c d : Nat} (h8 : 100 * (d + 1) + 300 ≤ c) (h9 : a ≤ 60) : 8 + (a + 11) + (100 * d + 300) ≤ c := by omega
theorem Wd.to {D : va_G} {g : Gh} {A : Nat → Prop} {h : Hp} {s t : State} {H : Heap} (w : Wd D g A h s H) (hv : s.vm.Alike t.vm) (ht : t.heap = H) : Wd D g A h t t.heap := by
  subst ht
  exact ⟨w.1, w.2.1, w.2.2.1, fun a h1 h2 => ⟨arrOfT_moved hv (w.2.2.2 a h1 h2).1, (w.2.2.2 a h1 h2).2.moved hv⟩⟩
theorem Wd.mv {D : va_G} {g : Gh} {A : Nat → Prop} {h : Hp} {s t : State} {H : Heap} (w : Wd D g A h s H) (hv : s.vm.Alike t.vm) : Wd D g A h t H := ⟨w.1, w.2.1, w.2.2.1, fun a h1 h2 => ⟨arrOfT_moved hv (w.2.2.2 a h1 h2).1, (w.2.2.2 a h1 h2).2.moved hv⟩⟩
theorem nst_warm {s U : State} (hW : s.WarmedH U.vm) : ∀ w ∈ nWs, va_Nw w s → va_Nw w U := fun w hw hz => by
  have h := (List.mem_filter.mp hw).2
  cases w with
  | methodLinkNest a i x b => exact va_Nw.warmM hW hz
  | castable a b => exact va_Nw.warmC hW hz
  | declares a => exact va_Nw.warmD hW hz
  | _ => cases h
theorem nst_same {s U : State} (h : s.vm = U.vm) : ∀ w ∈ nWs, va_Nw w s → va_Nw w U := fun w hw hz => by
  have h2 := (List.mem_filter.mp hw).2
  refine va_Nw.same ?_ h hz
  cases w with
  | methodLinkNest a i x b => rfl
  | castable a b => rfl
  | declares a => rfl
  | _ => cases h2
theorem Ks.to {K : Kc} {s t : State} (hk : Ks K s) (hv : s.vm.Alike t.vm) (hn : (∀ w ∈ nWs, va_Nw w s → va_Nw w t) ∧ ∀ (a : String) (i : Nat) (b : String) (q : Nat), vk_R a i b q s → vk_R a i b q t) (hz : s.heap.size ≤ t.heap.size) (ho : ∀ q, q < s.heap.size → ¬ kA K q → t.heap[q]? = s.heap[q]?) : Ks K t :=
  ⟨va_K.moved hv hk.1, Nat.le_trans hk.2.1 hz, (vx_Zq.moved hv hk.2.2.1).kept ho, (vx_Zq.moved hv hk.2.2.2.1).kept ho, fun k h => va_AO.moved hv (hk.2.2.2.2.1 k h), over_moved hv hk.2.2.2.2.2.1, fun w hw => hn.1 w hw (hk.2.2.2.2.2.2.1 w hw), fun q hq => (hk.2.2.2.2.2.2.2.1 q hq).moved hv, by
    obtain ⟨⟨adV, k1, k2⟩, k3, k4, k5⟩ := hk.2.2.2.2.2.2.2.2
    exact ⟨⟨adV, (vk_S.moved hv k1).kept ho, k2⟩, fun q hq => hn.2 _ _ _ _ (k3 q hq), (va_Z.moved hv k4).kept ho, (va_Z.moved hv k5).kept ho⟩⟩
theorem Pct_blind {K : Kc} {g : Gh} {as : List Value} {h : Hp} : FrameBlind (Pct K g as h) := fun a U gf mk q =>
  ⟨q.1, q.2.1.to (t := U.calling gf mk a) (Vm.Alike.refl U.vm) rfl, q.2.2.1.to (t := U.calling gf mk a) (Vm.Alike.refl U.vm) ⟨nst_same rfl, fun _ _ _ _ h => vk_R.same rfl h⟩ (Nat.le_refl _) (fun _ _ _ => rfl), q.2.2.2⟩
section
variable {Φ : Kc → State → Code → Prop} {d pc : Nat} {Y : Mt} {ls st : List Value} {h h' : Hp} {o : Oc}
theorem J_iretI {v : Int32} (hd : decode Y.2.1 pc = .ok (.ireturn, 1)) (ht : Y.2.2.2 = some .int) : JP Φ d Y pc ls [.int v] h (.inl (some (.int v))) h := by
  refine ⟨Nat.le_refl _, Nat.le_refl _, fun K g0 h0 p l e R s m args below meth c G r1 r2 g H locs LS a1 a2 a3 a4 a5 a6 => ?_⟩
  have e1 : R.cells = nc h - nc h0 := by omega
  have e2 : R.slots = ns h - ns h0 := by omega
  rw [e1, e2]
  exact vx_ret (W.iret G.1 G.2.1 (G.2.2.1.trans ht) (fun t ht hW => ⟨⟨some (.int v), g, rfl, rfl, a1.2.2.2, a2.to hW.alike ht, ⟨trivial, trivial⟩, a1.2.2.1⟩, a3.F ht⟩) a3.2.2 hd G.2.2.2.2.2.2.1)
theorem J_iretZ {v : Int32} (hd : decode Y.2.1 pc = .ok (.ireturn, 1)) (ht : Y.2.2.2 = some .boolean) (hn : narrow .boolean (.int v) = .int v) : JP Φ d Y pc ls [.int v] h (.inl (some (.int v))) h := by
  refine ⟨Nat.le_refl _, Nat.le_refl _, fun K g0 h0 p l e R s m args below meth c G r1 r2 g H locs LS a1 a2 a3 a4 a5 a6 => ?_⟩
  have e1 : R.cells = nc h - nc h0 := by omega
  have e2 : R.slots = ns h - ns h0 := by omega
  rw [e1, e2]
  exact vx_ret (W.zret G.1 G.2.1 (G.2.2.1.trans ht) hn (fun t ht hW => ⟨⟨some (.int v), g, rfl, rfl, a1.2.2.2, a2.to hW.alike ht, ⟨trivial, trivial⟩, a1.2.2.1⟩, a3.F ht⟩) a3.2.2 hd G.2.2.2.2.2.2.1)
theorem J_aret {r : Nat} {rt : FieldType} (hd : decode Y.2.1 pc = .ok (.areturn, 1)) (ht : Y.2.2.2 = some rt) (hrt : (∃ n, rt = .object n) ∨ ∃ t, rt = .array t) : JP Φ d Y pc ls [.ref r] h (.inl (some (.ref r))) h := by
  refine ⟨Nat.le_refl _, Nat.le_refl _, fun K g0 h0 p l e R s m args below meth c G r1 r2 g H locs LS a1 a2 a3 a4 a5 a6 => ?_⟩
  have e1 : R.cells = nc h - nc h0 := by omega
  have e2 : R.slots = ns h - ns h0 := by omega
  rw [e1, e2]
  exact vx_ret (W.aret (v := rel K.2.1 g (.ref r)) G.1 G.2.1 (G.2.2.1.trans ht) hrt rel_ref (fun t ht hW => ⟨⟨some (.ref r), g, rfl, rfl, a1.2.2.2, a2.to hW.alike ht, ⟨a6.1, trivial⟩, a1.2.2.1⟩, a3.F ht⟩) a3.2.2 hd G.2.2.2.2.2.2.1)
theorem J_ret (hd : decode Y.2.1 pc = .ok (.return_, 1)) (ht : Y.2.2.2 = none) : JP Φ d Y pc ls [] h (.inl none) h := by
  refine ⟨Nat.le_refl _, Nat.le_refl _, fun K g0 h0 p l e R s m args below meth c G r1 r2 g H locs LS a1 a2 a3 a4 a5 a6 => ?_⟩
  have e1 : R.cells = nc h - nc h0 := by omega
  have e2 : R.slots = ns h - ns h0 := by omega
  rw [e1, e2]
  exact vx_ret (W.vret G.1 G.2.1 (G.2.2.1.trans ht) (fun t ht hW => ⟨⟨none, g, rfl, rfl, a1.2.2.2, a2.to hW.alike ht, trivial, a1.2.2.1⟩, a3.F ht⟩) a3.2.2 hd G.2.2.2.2.2.2.1)
theorem lv_args_mem (vs : List Value) (hc : ∀ v ∈ vs, v.category = 1) : ∀ (k i : Nat) (v : Value), vs[i]? = some v → (k + i, v) ∈ lv_args k vs := by
  induction vs with
  | nil => intro k i v h; simp at h
  | cons w r ih =>
    intro k i v h
    have hw := hc w List.mem_cons_self
    cases i with
    | zero =>
      simp at h
      subst h
      simp [lv_args]
    | succ j =>
      simp only [List.getElem?_cons_succ] at h
      have := ih (fun v hv => hc v (List.mem_cons_of_mem _ hv)) (k + 1) j v h
      simp only [lv_args, hw]
      refine List.mem_cons_of_mem _ ?_
      rw [show k + (j + 1) = k + 1 + j by omega]
      simpa using this
theorem lg_sl_len (vs : List Value) (hc : ∀ v ∈ vs, v.category = 1) : (lg_sl vs).length = vs.length := by
  induction vs with
  | nil => rfl
  | cons w r ih =>
    have hw := hc w List.mem_cons_self
    have := ih (fun v hv => hc v (List.mem_cons_of_mem _ hv))
    simp only [lg_sl, List.flatMap_cons, List.length_append] at this ⊢
    rw [this]
    simp [hw]
    omega
/-- the locals at a method's begin -/
def en (n : Nat) (as : List Value) : List Value := as ++ List.replicate (n - as.length) Value.null
theorem CT_of {as : List Value} (hp : plainName Y.1.cls = true) (hn : as.length ≤ Y.2.2.1) (k : JP PN d Y 0 (en Y.2.2.1 as) [] h o h') : CT d Y as h o h' := by
  refine ⟨k.1, k.2.1, fun l K g hst => ?_⟩
  have k1 := k.1
  have k2 := k.2.1
  refine vx_ofW (cc := Y.2.1) (maxL := Y.2.2.1) (ret := Y.2.2.2) (ws' := gWs) hp rfl ?_
  intro p e s m args below meth c s₁ B hml hex hv
  obtain ⟨rfl, hw, hk, ho⟩ := hv
  have G : Gd PN K d Y p l (rmY d (nc h' - nc h) (ns h' - ns h)) s m (as.map (rel K.2.1 g)).toArray meth c :=
    ⟨B.exec, B.bytes, B.returns, hml, findClass_of_methodNamed B.named, fun w hw => atoms_spec (ws := wsY Y) B.pre w (List.mem_cons_of_mem _ hw), B.notSynchronized, hex, (name_of_methodNamed B.named B.method).1, hst, Nat.le_refl _, Nat.le_refl _, hk⟩
  have hcat : ∀ v ∈ as.map (rel K.2.1 g), v.category = 1 := fun v hv => by
    obtain ⟨w, h1, rfl⟩ := List.mem_map.mp hv
    rw [rel_cat]; exact (ho w h1).2
  have hlen : (lg_sl (as.map (rel K.2.1 g))).length = as.length := by rw [lg_sl_len _ hcat, List.length_map]
  have hl := lv_entry (as.map (rel K.2.1 g)) (n := Y.2.2.1) (by omega)
  rw [lg_entry_eq]
  generalize (lg_sl (as.map (rel K.2.1 g)) ++ List.replicate (Y.2.2.1 - (lg_sl (as.map (rel K.2.1 g))).length) Slot.unset).toArray = LS at hl ⊢
  have hl2 : lv_has LS Y.2.2.1 (kn K.2.1 g (en Y.2.2.1 as)) := ⟨hl.1, hl.2.1, fun q hq => by
    obtain ⟨v, h1, h2, h3⟩ := kn_mem.mp hq
    have h4 : as[q.1]? = some v := by
      simp only [en] at h1
      by_cases hi : q.1 < as.length
      · rwa [List.getElem?_append_left hi] at h1
      · rw [List.getElem?_append_right (by omega)] at h1
        exact absurd (List.eq_of_mem_replicate (List.mem_of_getElem? h1)) h2
    have h5 : (as.map (rel K.2.1 g))[q.1]? = some q.2 := by rw [List.getElem?_map, h4, h3]; rfl
    have h6 := lv_args_mem _ hcat 0 q.1 q.2 h5
    rw [Nat.zero_add] at h6
    exact hl.2.2 q h6⟩
  have ho2 : ok1 (sz h) (en Y.2.2.1 as) := fun v hv => by
    rcases List.mem_append.mp hv with q | q
    · exact ho v q
    · rw [List.eq_of_mem_replicate q]; exact ⟨trivial, rfl⟩
  have z := k.2.2 K g h p l e (rmY d (nc h' - nc h) (ns h' - ns h)) s m (as.map (rel K.2.1 g)).toArray below meth c G (by show nc h + (nc h' - nc h) = nc h'; omega) (by show ns h + (ns h' - ns h) = ns h'; omega) g s.heap [] LS ⟨Nat.le_refl _, Nat.le_refl _, Nat.le_refl _, fun _ _ _ => rfl⟩ hw va_S.rf hl2 ho2 trivial
  rw [Nat.sub_self, Nat.sub_self] at z
  exact z
/-- what a call needs of the method that it names -/
def MO (Y1 : Mt) (n : Nat) : Prop := Cond.code Y1.1 Y1.2.1 Y1.2.2.1 Y1.2.2.2 ∈ lw_tbl ∧ Cond.initialized Y1.1.cls ∈ lw_tbl ∧ (Y1.1.cls ≠ "java/lang/invoke/MethodHandle" ∧ Y1.1.cls ≠ "java/lang/invoke/VarHandle") ∧ (parseMethodDescriptor Y1.1.desc).map (fun d => d.parameters.length) = some n ∧ Y1.2.2.1 ≤ 60
def MV (Y1 : Mt) : Prop := Cond.instanceMethod Y1.1 ∈ lw_tbl ∧ Cond.selects Y1.1.cls Y1.1 Y1.1 ∈ lw_tbl
theorem gin {w : Cond} (h : w ∈ lw_tbl) (hg : goodWord w = true) : w ∈ gWs := List.mem_filter.mpr ⟨h, hg⟩
theorem good_gWs {w : Cond} (h : w ∈ gWs) : goodWord w = true := (List.mem_filter.mp h).2
theorem GoodIn_wsY {Y1 : Mt} {n : Nat} (hm : MO Y1 n) : GoodIn gWs (wsY Y1) := fun w hw => by
  rcases List.mem_cons.mp hw with rfl | q
  · exact ⟨gin hm.1 rfl, good_of_word rfl⟩
  · exact ⟨q, good_of_word (good_gWs q)⟩
theorem locs_in {K : Kc} {H : Heap} {s : State} {locs L : List Loc} (h : va_S (kA K) s.heap H locs) (hL : ∀ q ∈ L, kA K q.base) {st₀ t T' : State} (e0 : st₀.heap = H) (e1 : T'.heap = t.heap) (hF : va_F (kA K) st₀ t) : va_S (kA K) s.heap T'.heap (locs ++ L) :=
  ⟨by have := hF.1; rw [e0] at this; rw [e1]; exact Nat.le_trans h.1 this, fun q q1 q2 => by
    rw [e1]
    have := hF.2 q (by rw [e0]; exact Nat.lt_of_lt_of_le q1 h.1) q2
    rw [this, e0]
    exact h.2.1 q q1 q2, fun q hq => (List.mem_append.mp hq).elim (h.2.2 q) (hL q)⟩
theorem cat_rest {sa : Nat → Nat} {g : Gh} (st : List Value) : ((st.map (rel sa g)).map fun v => v.category) = st.map Value.category := by
  rw [List.map_map]
  exact List.map_congr_left (fun v _ => rel_cat)
/-- a frame at pc in which an exception of the class of number E flies -/
def JX (Φ : Kc → State → Code → Prop) (d : Nat) (Y : Mt) (pc : Nat) (ls st : List Value) (h : Hp) (E : Nat) (o : Oc) (h' : Hp) : Prop := nc h ≤ nc h' ∧ ns h ≤ ns h' ∧
  ∀ (K : Kc) (g0 : Gh) (h0 : Hp) (p : Program) (l : Launch) (e : Env) (R : Room) (s : State) (m : MethodId) (args : Array Value) (below : List Frame) (meth : Method) (c : Code),
    Gd Φ K d Y p l R s m args meth c → nc h0 + R.cells = nc h' → ns h0 + R.slots = ns h' →
    ∀ (g : Gh) (H : Heap) (locs : List Loc) (LS : Array Slot) (q : Addr) (ce : Cell), nc h0 ≤ nc h ∧ ns h0 ≤ ns h ∧ sz h0 ≤ sz h ∧ Ext (sz h0) g0 g → Wd K.1 g (kA K) h s H → va_S (kA K) s.heap H locs → lv_has LS Y.2.2.1 (kn K.2.1 g ls) → ok1 (sz h) ls → okS (sz h) st →
      H[q]? = some ce → ce.vm = .none → s.vm.findClass (exN E) = some ce.cls →
      vx_W p l e R s m args below meth c H locs (nc h - nc h0) (ns h - ns h0) (vx_MQ below (Qct K g0 h0 o h') (Xct K g0 h0 o h') args s R.cells R.slots (kA K)) (F0 m pc LS (st.map (rel K.2.1 g))) q
/-- no handler: it goes on to the caller -/
theorem JX_out {E : Nat} : JX PN d Y pc ls st h E (.inr E) h := by
  refine ⟨Nat.le_refl _, Nat.le_refl _, fun K g0 h0 p l e R s m args below meth c G r1 r2 g H locs LS q ce a1 a2 a3 a4 a5 a6 hq hce hcl => ?_⟩
  exact vx_out (E := exN E) (ce := ce) (fun x hx => absurd hx (fun z => G.2.2.2.2.2.2.2.1 x z)) G.2.2.2.2.2.2.1 hq hce hcl (fun t3 h3 hv3 => ⟨⟨E, g, rfl, rfl, a1.2.2.2, by
    rw [h3]
    exact a2.mv hv3, a1.2.2.1⟩, a3.F h3⟩) a3.2.2 (by omega) (by omega)
/-- behind a call that returned, or threw -/
theorem J_run {o1 : Oc} {h1 : Hp} {K : Kc} {g0 g : Gh} {h0 : Hp} {p : Program} {l : Launch} {e : Env} {R : Room} {s : State} {m : MethodId} {args : Array Value} {below : List Frame} {meth : Method} {c : Code} {H : Heap} {locs : List Loc} {LS : Array Slot} {st0 : List Value} {a9 : Array Value}
    (G : Gd Φ K (d + 1) Y p l R s m args meth c) (a1 : nc h0 ≤ nc h ∧ ns h0 ≤ ns h ∧ sz h0 ≤ sz h ∧ Ext (sz h0) g0 g) (a3 : va_S (kA K) s.heap H locs) (a4 : lv_has LS Y.2.2.1 (kn K.2.1 g ls)) (a5 : ok1 (sz h) ls) (a6 : okS (sz h) st) (hc : nc h ≤ nc h1) (hs : ns h ≤ ns h1)
    (r1 : nc h0 + R.cells = nc h') (r2 : ns h0 + R.slots = ns h')
    (hr : vx_Run p l e R s m args below meth c H locs (nc h - nc h0) (ns h - ns h0) (nc h1 - nc h) (ns h1 - ns h) (F0 m pc LS st0) (st.map (rel K.2.1 g)) (Qct K g h o1 h1 a9) (Xct K g h o1 h1) (kA K))
    (kv : ∀ v, o1 = .inl v → JP Φ (d + 1) Y (pc + 3) ls (v.toList ++ st) h1 o h') (kx : ∀ E, o1 = .inr E → JX Φ (d + 1) Y pc ls st h1 E o h') :
    W p l e R s m args below meth c H locs (nc h - nc h0) (ns h - ns h0) (vx_MQ below (Qct K g0 h0 o h') (Xct K g0 h0 o h') args s R.cells R.slots (kA K)) (F0 m pc LS st0) := by
  intro T hT X
  rcases hr T hT X with ⟨v, st₀, t, T', L, e0, X', hL, e1, e2, hQ, hgo⟩ | ⟨q, st₀, t, T', L, E, ce, e0, X', hL, e1, e2, hX, hq, hce, hcl, hsteps⟩
  · obtain ⟨⟨v', g', rfl, hv, hE, hW, hok, hsz⟩, hF⟩ := hQ
    cases hv
    have k := kv v' rfl
    have hvm : s.vm.Alike t.vm := by have := X'.warmed.alike; rwa [e2] at this
    have z := k.2.2 K g0 h0 p l e R s m args below meth c G r1 r2 g' T'.heap (locs ++ L) LS ⟨by omega, by omega, by omega, a1.2.2.2.tr hE a1.2.2.1⟩
      (by rw [e1]; exact hW.mv hvm.symm) (locs_in a3 hL e0 e1 hF) (by rw [kn_ext hE a5]; exact a4) (ok1_mono hsz a5) (by cases v' with
        | none => exact okS_mono hsz a6
        | some w => exact ⟨hok.1, okS_mono hsz a6⟩)
    rw [show nc h1 - nc h0 = nc h - nc h0 + (nc h1 - nc h) by omega, show ns h1 - ns h0 = ns h - ns h0 + (ns h1 - ns h) by omega] at z
    obtain ⟨t2, q1, q2⟩ := z T' rfl X'
    refine ⟨t2, hgo t2 ?_, q2⟩
    have e9 : (v'.map (rel K.2.1 g')).toList ++ st.map (rel K.2.1 g) = (v'.toList ++ st).map (rel K.2.1 g') := by
      rw [List.map_append, map_ext hE a6]
      cases v' <;> rfl
    rw [e9]
    exact q1
  · obtain ⟨⟨k, g', rfl, rfl, hE, hW, hsz⟩, hF⟩ := hX
    have kz := kx k rfl
    have hvm : s.vm.Alike t.vm := by have := X'.warmed.alike; rwa [e2] at this
    have z := kz.2.2 K g0 h0 p l e R s m args below meth c G r1 r2 g' T'.heap (locs ++ L) LS q ce ⟨by omega, by omega, by omega, a1.2.2.2.tr hE a1.2.2.1⟩
      (by rw [e1]; exact hW.mv hvm.symm) (locs_in a3 hL e0 e1 hF) (by rw [kn_ext hE a5]; exact a4) (ok1_mono hsz a5) (okS_mono hsz a6) (by rw [e1]; exact hq) hce hcl
    rw [map_ext hE a6, show nc h1 - nc h0 = nc h - nc h0 + (nc h1 - nc h) by omega, show ns h1 - ns h0 = ns h - ns h0 + (ns h1 - ns h) by omega] at z
    obtain ⟨t2, q1, q2⟩ := z T' rfl X'
    exact ⟨t2, hsteps.trans q1, q2⟩
theorem pct_of {as : List Value} {K : Kc} {p : Program} {l : Launch} {R : Room} {s : State} {m : MethodId} {args : Array Value} {meth : Method} {c : Code} {g : Gh} {H : Heap} {locs : List Loc} (G : Gd Φ K (d + 1) Y p l R s m args meth c) (a2 : Wd K.1 g (kA K) h s H) (a3 : va_S (kA K) s.heap H locs) (ha : ok1 (sz h) as) :
    ∀ U : State, U.heap = H → s.WarmedH U.vm → Pct K g as h (as.map (rel K.2.1 g)).toArray U := fun U hU hW =>
  ⟨rfl, by rw [hU]; exact a2.mv hW.alike, G.2.2.2.2.2.2.2.2.2.2.2.2.to hW.alike ⟨nst_warm hW, fun _ _ _ _ h => vk_R.warm hW h⟩ (by rw [hU]; exact a3.1) (fun q q1 q2 => by rw [hU]; exact a3.2.1 q q1 q2), ha⟩
theorem okS_app {n : Nat} {a b : List Value} : okS n (a ++ b) ↔ okS n a ∧ okS n b := by
  induction a with
  | nil => exact ⟨fun h => ⟨trivial, h⟩, fun h => h.2⟩
  | cons v r ih => exact ⟨fun h => ⟨⟨h.1, (ih.mp h.2).1⟩, (ih.mp h.2).2⟩, fun h => ⟨h.1.1, ih.mpr ⟨h.1.2, h.2⟩⟩⟩
theorem okS_rev {n : Nat} {a : List Value} (h : okS n a.reverse) : ∀ v ∈ a, okV n v := by
  induction a with
  | nil => intro v hv; cases hv
  | cons w r ih =>
    rw [List.reverse_cons, okS_app] at h
    intro v hv
    rcases List.mem_cons.mp hv with rfl | q
    · exact h.2.1
    · exact ih h.1 v q
/-- a call of a static method -/
theorem J_callS {idx : Nat} {as : List Value} {o1 : Oc} {h1 : Hp} (Y1 : Mt) (n : Nat) (hd : decode Y.2.1 pc = .ok (.invokestatic idx, 3)) (hm : MO Y1 n) (hs : Cond.static Y1.1 ∈ lw_tbl) (hl : Cond.methodLink Y.1.cls idx Y1.1 ∈ lw_tbl) (hn : as.length = n) (hcat : ∀ v ∈ as, v.category = 1) {st0 : List Value} (he : as.reverse ++ st = st0) (hw : (st.map Value.category).sum ≤ 8) (hc : CT d Y1 as h o1 h1) (kv : ∀ v, o1 = .inl v → JP Φ (d + 1) Y (pc + 3) ls (v.toList ++ st) h1 o h') (kx : ∀ E, o1 = .inr E → JX Φ (d + 1) Y pc ls st h1 E o h') : JP Φ (d + 1) Y pc ls st0 h o h' := by
  subst he
  have hmono : nc h1 ≤ nc h' ∧ ns h1 ≤ ns h' := by
    cases o1 with
    | inl v => exact ⟨(kv v rfl).1, (kv v rfl).2.1⟩
    | inr E => exact ⟨(kx E rfl).1, (kx E rfl).2.1⟩
  refine ⟨Nat.le_trans hc.1 hmono.1, Nat.le_trans hc.2.1 hmono.2, fun K g0 h0 p l e R s m args below meth c G r1 r2 g H locs LS a1 a2 a3 a4 a5 a6 => ?_⟩
  have c1 := hc.1
  have c2 := hc.2.1
  have ha := okS_app.mp a6
  have ho : ok1 (sz h) as := fun v hv => ⟨okS_rev ha.1 v hv, hcat v hv⟩
  refine J_run (st := st) (a9 := (as.map (rel K.2.1 g)).toArray) G a1 a3 a4 a5 ha.2 c1 c2 r1 r2 ?_ kv kx
  refine vx_runS (nL := Y.2.2.1) (Ts := gWs) (own := Y.1.cls) (ret := Y1.2.2.2) (bytes := Y1.2.1) (maxL := Y1.2.2.1) (ws := wsY Y1) (As := as.map (rel K.2.1 g)) ⟨G.1, G.2.1, G.2.2.2.1, G.2.2.2.2.1, G.2.2.2.2.2.1⟩ (hc.2.2 l K g G.2.2.2.2.2.2.2.2.2.1) (va_cwS (n) G.2.2.2.2.2.1 ?_ rfl rfl rfl ⟨hm.2.2.1.1, hm.2.2.1.2, hm.2.2.2.1⟩ ⟨?_, ?_⟩) ⟨Pct_blind, pct_of G a2 a3 ho⟩ rfl (by rw [List.length_map]; exact hn) (a4.1) (by rw [List.map_append, List.map_reverse]) (lv_room (by rw [cat_rest]; exact hw)) hd ⟨by omega, by omega⟩
  · intro w hw'
    rcases List.mem_append.mp hw' with q | q
    · rcases List.mem_cons.mp q with rfl | q
      · exact ⟨gin hl rfl, good_of_word rfl⟩
      · rcases List.mem_cons.mp q with rfl | q
        · exact ⟨gin hs rfl, good_of_word rfl⟩
        · rcases List.mem_cons.mp q with rfl | q
          · exact ⟨gin hm.2.1 rfl, good_of_word rfl⟩
          · cases q
    · exact GoodIn_wsY hm w q
  · have := G.2.2.2.2.2.2.2.2.2.2.1
    show 6 * d + 12 + 1 ≤ _
    omega
  · exact loc_ok G.2.2.2.2.2.2.2.2.2.2.2.1 hm.2.2.2.2
/-- a call of a nest mate's private static method -/
theorem J_callSN {idx : Nat} {as : List Value} {o1 : Oc} {h1 : Hp} (Y1 : Mt) (host : String) (n : Nat) (hd : decode Y.2.1 pc = .ok (.invokestatic idx, 3)) (hm : MO Y1 n) (hs : Cond.static Y1.1 ∈ lw_tbl) (hl : Cond.methodLinkNest Y.1.cls idx Y1.1 host ∈ lw_tbl) (hn : as.length = n) (hcat : ∀ v ∈ as, v.category = 1) {st0 : List Value} (he : as.reverse ++ st = st0) (hw : (st.map Value.category).sum ≤ 8) (hc : CT d Y1 as h o1 h1) (kv : ∀ v, o1 = .inl v → JP Φ (d + 1) Y (pc + 3) ls (v.toList ++ st) h1 o h') (kx : ∀ E, o1 = .inr E → JX Φ (d + 1) Y pc ls st h1 E o h') : JP Φ (d + 1) Y pc ls st0 h o h' := by
  subst he
  have hmono : nc h1 ≤ nc h' ∧ ns h1 ≤ ns h' := by
    cases o1 with
    | inl v => exact ⟨(kv v rfl).1, (kv v rfl).2.1⟩
    | inr E => exact ⟨(kx E rfl).1, (kx E rfl).2.1⟩
  refine ⟨Nat.le_trans hc.1 hmono.1, Nat.le_trans hc.2.1 hmono.2, fun K g0 h0 p l e R s m args below meth c G r1 r2 g H locs LS a1 a2 a3 a4 a5 a6 => ?_⟩
  have c1 := hc.1
  have c2 := hc.2.1
  have ha := okS_app.mp a6
  have ho : ok1 (sz h) as := fun v hv => ⟨okS_rev ha.1 v hv, hcat v hv⟩
  refine J_run (st := st) (a9 := (as.map (rel K.2.1 g)).toArray) G a1 a3 a4 a5 ha.2 c1 c2 r1 r2 ?_ kv kx
  refine vx_runSN (nL := Y.2.2.1) (Ts := gWs) (own := Y.1.cls) (host := host) (ret := Y1.2.2.2) (bytes := Y1.2.1) (maxL := Y1.2.2.1) (ws := wsY Y1) (As := as.map (rel K.2.1 g)) ⟨G.1, G.2.1, G.2.2.2.1, G.2.2.2.2.1, G.2.2.2.2.2.1⟩ (hc.2.2 l K g G.2.2.2.2.2.2.2.2.2.1) ⟨va_cnB (ws' := gWs) (n) G.2.2.2.2.2.1 (GoodIn_wsY hm) rfl rfl rfl (G.2.2.2.2.2.2.2.2.2.2.2.2.2.2.2.2.2.2.1 _ (List.mem_filter.mpr ⟨hl, rfl⟩)) (G.2.2.2.2.2.1 _ (gin hm.2.1 rfl)) ⟨hm.2.2.1.1, hm.2.2.1.2, hm.2.2.2.1⟩ ⟨?_, ?_⟩, G.2.2.2.2.2.1 _ (gin hs rfl), trivial⟩ ⟨Pct_blind, pct_of G a2 a3 ho⟩ rfl (by rw [List.length_map]; exact hn) (a4.1) (by rw [List.map_append, List.map_reverse]) (lv_room (by rw [cat_rest]; exact hw)) hd ⟨by omega, by omega⟩
  · have := G.2.2.2.2.2.2.2.2.2.2.1
    show 6 * d + 12 + 1 ≤ _
    omega
  · exact loc_ok G.2.2.2.2.2.2.2.2.2.2.2.1 hm.2.2.2.2
/-- a call of an instance's method (private too) -/
theorem J_callV {idx : Nat} {r c1 : Nat} {as : List Value} {o1 : Oc} {h1 : Hp} (Y1 : Mt) (n : Nat) (hd : decode Y.2.1 pc = .ok (.invokevirtual idx, 3)) (hm : MO Y1 n) (hs : MV Y1) (hl : Cond.methodLink Y.1.cls idx Y1.1 ∈ lw_tbl) (hk : kd h r = c1) (hc12 : c1 < 12) (hcl : FC c1 = Y1.1.cls) (hn : as.length = n) (hcat : ∀ v ∈ as, v.category = 1) {st0 : List Value} (he : as.reverse ++ .ref r :: st = st0) (hw : (st.map Value.category).sum ≤ 8) (hc : CT d Y1 (.ref r :: as) h o1 h1) (kv : ∀ v, o1 = .inl v → JP Φ (d + 1) Y (pc + 3) ls (v.toList ++ st) h1 o h') (kx : ∀ E, o1 = .inr E → JX Φ (d + 1) Y pc ls st h1 E o h') : JP Φ (d + 1) Y pc ls st0 h o h' := by
  subst he
  have hmono : nc h1 ≤ nc h' ∧ ns h1 ≤ ns h' := by
    cases o1 with
    | inl v => exact ⟨(kv v rfl).1, (kv v rfl).2.1⟩
    | inr E => exact ⟨(kx E rfl).1, (kx E rfl).2.1⟩
  refine ⟨Nat.le_trans hc.1 hmono.1, Nat.le_trans hc.2.1 hmono.2, fun K g0 h0 p l e R s m args below meth c G r1 r2 g H locs LS a1 a2 a3 a4 a5 a6 => ?_⟩
  have q1 := hc.1
  have q2 := hc.2.1
  have ha := okS_app.mp a6
  have ho : ok1 (sz h) (.ref r :: as) := fun v hv => by
    rcases List.mem_cons.mp hv with rfl | q
    · exact ⟨ha.2.1, rfl⟩
    · exact ⟨okS_rev ha.1 v q, hcat v q⟩
  have hb := a2.2.2.1.1 r (by omega)
  have hg := wsOf_get (g := g) hb.1 hb.2
  rw [cellE_obj hk hc12] at hg
  have hrecv := va_recv G.2.2.2.2.2.2.2.2.2.2.2.2.1 a2.1 (clsF c1 hc12).1 hg
  refine J_run (st := st) (a9 := ((Value.ref r :: as).map (rel K.2.1 g)).toArray) G a1 a3 a4 a5 ha.2.2 q1 q2 r1 r2 ?_ kv kx
  have e1 : rel K.2.1 g (.ref r) = .ref (g r).1 := rel_1 (by omega)
  have hpp := pct_of (as := .ref r :: as) G a2 a3 ho
  rw [List.map_cons, e1] at hpp ⊢
  refine vx_runV (nL := Y.2.2.1) (Ts := gWs) (own := Y.1.cls) (C := Y1.1.cls) (ret := Y1.2.2.2) (bytes := Y1.2.1) (maxL := Y1.2.2.1) (ws := wsY Y1) (As := as.map (rel K.2.1 g)) ⟨G.1, G.2.1, G.2.2.2.1, G.2.2.2.2.1, G.2.2.2.2.2.1⟩ (hc.2.2 l K g G.2.2.2.2.2.2.2.2.2.1) (cwV (n) G.2.2.2.2.2.1 ?_ rfl rfl rfl ⟨rfl, hm.2.2.1.1, hm.2.2.1.2, hm.2.2.2.1⟩ ⟨?_, ?_⟩) ⟨Pct_blind, ?_, hpp⟩ rfl (by rw [List.length_map]; exact hn) (a4.1) (by rw [List.map_append, List.map_reverse, List.map_cons, e1]) (lv_room (by rw [cat_rest]; exact hw)) hd ⟨by omega, by omega⟩
  · intro w hw'
    rcases List.mem_append.mp hw' with q | q
    · rcases List.mem_cons.mp q with rfl | q
      · exact ⟨gin hl rfl, good_of_word rfl⟩
      · rcases List.mem_cons.mp q with rfl | q
        · exact ⟨gin hs.1 rfl, good_of_word rfl⟩
        · rcases List.mem_cons.mp q with rfl | q
          · exact ⟨gin hs.2 rfl, good_of_word rfl⟩
          · rcases List.mem_cons.mp q with rfl | q
            · exact ⟨gin hm.2.1 rfl, good_of_word rfl⟩
            · cases q
    · exact GoodIn_wsY hm w q
  · have := G.2.2.2.2.2.2.2.2.2.2.1
    show 6 * d + 12 + 1 ≤ _
    omega
  · exact loc_ok G.2.2.2.2.2.2.2.2.2.2.2.1 hm.2.2.2.2
  · rw [← hcl]
    exact hrecv
/-- a call of a constructor -/
theorem J_callI {idx : Nat} {r : Nat} {as : List Value} {h1 : Hp} (Y1 : Mt) (n : Nat) (hd : decode Y.2.1 pc = .ok (.invokespecial idx, 3)) (hm : MO Y1 n) (hs : Cond.instanceMethod Y1.1 ∈ lw_tbl) (hl : Cond.methodLink Y.1.cls idx Y1.1 ∈ lw_tbl) (hi : Y1.1.name = "<init>") (hr : Y1.2.2.2 = none) (hk : kd h r ≠ 99) (hn : as.length = n) (hcat : ∀ v ∈ as, v.category = 1) {st0 : List Value} (he : as.reverse ++ .ref r :: st = st0) (hw : (st.map Value.category).sum ≤ 8) (hc : CT d Y1 (.ref r :: as) h (.inl none) h1) (kv : JP Φ (d + 1) Y (pc + 3) ls st h1 o h') : JP Φ (d + 1) Y pc ls st0 h o h' := by
  subst he
  refine ⟨Nat.le_trans hc.1 kv.1, Nat.le_trans hc.2.1 kv.2.1, fun K g0 h0 p l e R s m args below meth c G r1 r2 g H locs LS a1 a2 a3 a4 a5 a6 => ?_⟩
  have q1 := hc.1
  have q2 := hc.2.1
  have q3 := kv.1
  have q4 := kv.2.1
  have ha := okS_app.mp a6
  have ho : ok1 (sz h) (.ref r :: as) := fun v hv => by
    rcases List.mem_cons.mp hv with rfl | q
    · exact ⟨ha.2.1, rfl⟩
    · exact ⟨okS_rev ha.1 v q, hcat v q⟩
  have hb := a2.2.2.1.1 r hk
  refine J_run (st := st) (o1 := .inl none) (a9 := ((Value.ref r :: as).map (rel K.2.1 g)).toArray) G a1 a3 a4 a5 ha.2.2 q1 q2 r1 r2 ?_ (fun v hv => by cases hv; exact kv) (fun E hE => by cases hE)
  have e1 : rel K.2.1 g (.ref r) = .ref (g r).1 := rel_1 (by omega)
  have hpp := pct_of (as := .ref r :: as) G a2 a3 ho
  rw [List.map_cons, e1] at hpp ⊢
  refine vx_runI (nL := Y.2.2.1) (Ts := gWs) (own := Y.1.cls) (bytes := Y1.2.1) (maxL := Y1.2.2.1) (ws := wsY Y1) (As := as.map (rel K.2.1 g)) ⟨G.1, G.2.1, G.2.2.2.1, G.2.2.2.2.1, G.2.2.2.2.2.1⟩ (hc.2.2 l K g G.2.2.2.2.2.2.2.2.2.1) (cwI (ws' := gWs) (n) G.2.2.2.2.2.1 (GoodIn_wsY hm) (by rw [← hr]; rfl) rfl rfl (G.2.2.2.2.2.1 _ (gin hm.2.1 rfl)) (G.2.2.2.2.2.1 _ (gin hl rfl)) (G.2.2.2.2.2.1 _ (gin hs rfl)) hi ⟨hm.2.2.1.1, hm.2.2.1.2, hm.2.2.2.1⟩ ⟨?_, ?_⟩) ⟨Pct_blind, hpp⟩ rfl (by rw [List.length_map]; exact hn) (a4.1) (by rw [List.map_append, List.map_reverse, List.map_cons, e1]) (lv_room (by rw [cat_rest]; exact hw)) hd ⟨by omega, by omega⟩
  · have := G.2.2.2.2.2.2.2.2.2.2.1
    show 6 * d + 12 + 1 ≤ _
    omega
  · exact loc_ok G.2.2.2.2.2.2.2.2.2.2.2.1 hm.2.2.2.2
/-- a call of a nest mate's private constructor -/
theorem J_callIN {idx : Nat} {r : Nat} {as : List Value} {h1 : Hp} (Y1 : Mt) (host : String) (n : Nat) (hd : decode Y.2.1 pc = .ok (.invokespecial idx, 3)) (hm : MO Y1 n) (hs : Cond.instanceMethod Y1.1 ∈ lw_tbl) (hl : Cond.methodLinkNest Y.1.cls idx Y1.1 host ∈ lw_tbl) (hi : Y1.1.name = "<init>") (hr : Y1.2.2.2 = none) (hk : kd h r ≠ 99) (hn : as.length = n) (hcat : ∀ v ∈ as, v.category = 1) {st0 : List Value} (he : as.reverse ++ .ref r :: st = st0) (hw : (st.map Value.category).sum ≤ 8) (hc : CT d Y1 (.ref r :: as) h (.inl none) h1) (kv : JP Φ (d + 1) Y (pc + 3) ls st h1 o h') : JP Φ (d + 1) Y pc ls st0 h o h' := by
  subst he
  refine ⟨Nat.le_trans hc.1 kv.1, Nat.le_trans hc.2.1 kv.2.1, fun K g0 h0 p l e R s m args below meth c G r1 r2 g H locs LS a1 a2 a3 a4 a5 a6 => ?_⟩
  have q1 := hc.1
  have q2 := hc.2.1
  have q3 := kv.1
  have q4 := kv.2.1
  have ha := okS_app.mp a6
  have ho : ok1 (sz h) (.ref r :: as) := fun v hv => by
    rcases List.mem_cons.mp hv with rfl | q
    · exact ⟨ha.2.1, rfl⟩
    · exact ⟨okS_rev ha.1 v q, hcat v q⟩
  have hb := a2.2.2.1.1 r hk
  refine J_run (st := st) (o1 := .inl none) (a9 := ((Value.ref r :: as).map (rel K.2.1 g)).toArray) G a1 a3 a4 a5 ha.2.2 q1 q2 r1 r2 ?_ (fun v hv => by cases hv; exact kv) (fun E hE => by cases hE)
  have e1 : rel K.2.1 g (.ref r) = .ref (g r).1 := rel_1 (by omega)
  have hpp := pct_of (as := .ref r :: as) G a2 a3 ho
  rw [List.map_cons, e1] at hpp ⊢
  refine vx_runIN (nL := Y.2.2.1) (Ts := gWs) (own := Y.1.cls) (host := host) (bytes := Y1.2.1) (maxL := Y1.2.2.1) (ws := wsY Y1) (As := as.map (rel K.2.1 g)) ⟨G.1, G.2.1, G.2.2.2.1, G.2.2.2.2.1, G.2.2.2.2.2.1⟩ (hc.2.2 l K g G.2.2.2.2.2.2.2.2.2.1) ⟨va_cnB (ws' := gWs) (n) G.2.2.2.2.2.1 (GoodIn_wsY hm) (by rw [← hr]; rfl) rfl rfl (G.2.2.2.2.2.2.2.2.2.2.2.2.2.2.2.2.2.2.1 _ (List.mem_filter.mpr ⟨hl, rfl⟩)) (G.2.2.2.2.2.1 _ (gin hm.2.1 rfl)) ⟨hm.2.2.1.1, hm.2.2.1.2, hm.2.2.2.1⟩ ⟨?_, ?_⟩, hi, G.2.2.2.2.2.1 _ (gin hs rfl)⟩ ⟨Pct_blind, hpp⟩ rfl (by rw [List.length_map]; exact hn) (a4.1) (by rw [List.map_append, List.map_reverse, List.map_cons, e1]) (lv_room (by rw [cat_rest]; exact hw)) hd ⟨by omega, by omega⟩
  · have := G.2.2.2.2.2.2.2.2.2.2.1
    show 6 * d + 12 + 1 ≤ _
    omega
  · exact loc_ok G.2.2.2.2.2.2.2.2.2.2.2.1 hm.2.2.2.2
/-- super() of Object -/
theorem J_objI {idx r : Nat} (hd : decode Y.2.1 pc = .ok (.invokespecial idx, 3)) (hl : Cond.methodLink Y.1.cls idx Lib.objectInit ∈ lw_tbl) (hi : Cond.instanceMethod Lib.objectInit ∈ lw_tbl) (hc : Cond.code Lib.objectInit ⟨#[0xb1]⟩ 1 none ∈ lw_tbl) (hr : ¬ r = 0) (hw : (st.map Value.category).sum ≤ 8) (k : JP Φ d Y (pc + 3) ls st h o h') : JP Φ d Y pc ls (.ref r :: st) h o h' := by
  refine ⟨k.1, k.2.1, fun K g0 h0 p l e R s m args below meth c G r1 r2 g H locs LS a1 a2 a3 a4 a5 a6 => ?_⟩
  rw [List.map_cons, rel_1 hr]
  have h7 := G.2.2.2.2.2.2.2.2.2.2.1
  have h8 := G.2.2.2.2.2.2.2.2.2.2.2.1
  exact W.objInit G.1 G.2.1 G.2.2.2.2.1 (G.2.2.2.2.2.1 _ (gin hl rfl)) (G.2.2.2.2.2.1 _ (gin hi rfl)) (G.2.2.2.2.2.1 _ (gin hc rfl)) rfl (by show LS.size = _; rw [a4.1, G.2.2.2.1]) rfl hd (by omega) (by
    have := cat_rest (sa := K.2.1) (g := g) st
    show 2 * (F0 m pc LS _).monitorRoom + _ + 12 ≤ _
    rw [this, show (F0 m pc LS (Value.ref (g r).1 :: st.map (rel K.2.1 g))).monitorRoom = 0 from rfl]
    omega) (k.2.2 K g0 h0 p l e R s m args below meth c G r1 r2 g H locs LS a1 a2 a3 a4 a5 a6.2)
end
