/-! RULES: throws, rows of rows, the library's own -/
theorem nfw : nativeFrameWords "java/lang/System" "arraycopy" 5 = 7 := by decide +kernel
theorem va_at_lt {D : va_G} {cl : List vw_C} {ws : va_W} {H : Heap} (hP : va_P D cl ws H) {k : Nat} {q : Nat × va_E} (hk : ws[k]? = some q) : q.1 < H.size := (hP k q hk).lt
set_option maxRecDepth 100000 in
theorem thr_ok {a b c d : Nat} (h8 : 100 * d + 300 ≤ c) (h : a ≤ 8) (h5 : b ≤ 3) : a + (13 * (b + 1) + 42) ≤ c := by omega
set_option maxRecDepth 100000 in
theorem cpy_ok {a c d : Nat} (h8 : 100 * d + 300 ≤ c) (h : a ≤ 8) : a + (7 + 11) ≤ c := by omega
set_option maxRecDepth 100000 in
theorem mth_ok {a c d : Nat} (h8 : 100 * d + 300 ≤ c) (h : a ≤ 8) : a + 13 ≤ c := by omega
theorem a_over {s : State} {args : Array Value} (h : (Cond.arrayOver (.array .int)).before #[] s = true) : (Cond.arrayOver (.array .int)).before args s = true := over_moved (Vm.Alike.refl s.vm) h
def thr (own : String) (ic k : Nat) (names : List String) : Prop := (∀ w ∈ vx_at0 own ic (exN k) names, (w ∈ lw_tbl ∧ (goodWord w || isNst w) = true) ∧ vx_ot w = true) ∧ Bundle.fit (exN k) = true ∧ (∀ n ∈ names, Bundle.fit n = true) ∧ Cond.initialized (exN k) ∈ lw_tbl ∧ names.length ≤ 3
section
variable {Φ : Kc → State → Code → Prop} {d pc : Nat} {Y : Mt} {ls st : List Value} {h h' : Hp} {o : Oc}
theorem J_throw {ik ic : Nat} (k : Nat) (names : List String) (d0 : decode Y.2.1 pc = .ok (.new ik, 3)) (d3 : decode Y.2.1 (pc + 3) = .ok (.dup, 1)) (d4 : decode Y.2.1 (pc + 4) = .ok (.invokespecial ic, 3)) (d7 : decode Y.2.1 (pc + 7) = .ok (.athrow, 1)) (ht : thr Y.1.cls ic k names) (hl : Cond.classLink Y.1.cls ik (exN k) ∈ lw_tbl) (hw : (st.map Value.category).sum ≤ 8) : JP PN d Y pc ls st h (.inr k) (bmp h 1 6) := by
  refine ⟨Nat.le_succ _, Nat.le_add_right _ _, fun K g0 h0 p l e R s m args below meth c G r1 r2 g H locs LS a1 a2 a3 a4 a5 a6 => ?_⟩
  obtain ⟨t1, t2, t3, t4, t5⟩ := ht
  have hat : ∀ w ∈ vx_at0 Y.1.cls ic (exN k) names, w.before args s = true := fun w hw => by
    have z0 := (t1 w hw).1
    rcases (Bool.or_eq_true _ _).mp z0.2 with q1 | q1
    · exact G.2.2.2.2.2.1 w (gin z0.1 q1)
    · have q : w ∈ nWs := List.mem_filter.mpr ⟨z0.1, q1⟩
      have z := G.2.2.2.2.2.2.2.2.2.2.2.2.2.2.2.2.2.2.1 w q
      refine va_Nw.use ?_ z
      have h2 := (List.mem_filter.mp q).2
      cases w with
      | methodLinkNest a i x b => rfl
      | castable a b => rfl
      | declares a => rfl
      | _ => cases h2
  have s1 : nc h0 + R.cells = nc h + 1 := r1
  have s2 : ns h0 + R.slots = ns h + 6 := r2
  have h7 := G.2.2.2.2.2.2.2.2.2.2.1
  have h8 := G.2.2.2.2.2.2.2.2.2.2.2.1
  refine vx_throw0 (A := kA K) (names := names) (cls := exN k) G.1 G.2.1 G.2.2.2.2.2.2.2.2.2.1 G.2.2.2.2.1 t2 t3 (G.2.2.2.2.2.1 _ (gin hl rfl)) (G.2.2.2.2.2.1 _ (gin t4 rfl)) hat ?_ G.2.2.2.2.2.2.2.2.2.2.2.2.2.2.1 G.2.2.2.2.2.2.2.2.2.2.2.2.2.2.2.1 a3 (by rw [a4.1, G.2.2.2.1]) d0 d3 d4 d7 (fun x hx => absurd hx (fun z => G.2.2.2.2.2.2.2.1 x z)) (by omega) ?_ (by omega) (by omega) G.2.2.2.2.2.2.1 ?_ a3.2.2 (by omega) (by omega)
  · intro w hw
    rcases List.mem_cons.mp hw with rfl | q
    · rfl
    · rcases List.mem_cons.mp q with rfl | q
      · rfl
      · exact (t1 w q).2
  · rw [cat_rest]
    exact thr_ok h8 hw t5
  · intro t q1 q2 q3
    refine ⟨⟨k, g, rfl, rfl, a1.2.2.2, ?_, a1.2.2.1⟩, Nat.le_trans a3.1 q2, fun q z1 z2 => by rw [q3 q (Nat.lt_of_lt_of_le z1 a3.1)]; exact a3.2.1 q z1 z2⟩
    have w := a2.mv (t := t) q1
    exact ⟨w.1.kept (fun k2 q hk => q3 _ (va_at_lt w.1 hk)), w.2⟩
theorem J_newA {idx : Nat} {n : Int32} (N : Nat) (hd : decode Y.2.1 pc = .ok (.anewarray idx, 3)) (hw1 : Cond.classLink Y.1.cls idx "[I" ∈ lw_tbl) (hn : ¬ n < 0) (hN : n.toNatClampNeg = N) (hb : N ≤ 10000000) (kk : JP Φ d Y (pc + 3) ls (.ref (sz h + 1) :: st) (alc h 24 N) o h') : JP Φ d Y pc ls (.int n :: st) h o h' := by
  subst hN
  refine ⟨by have := kk.1; rw [nc_alc] at this; omega, by have := kk.2.1; rw [ns_alc] at this; omega, fun K g0 h0 p l e R s m args below meth c0 G r1 r2 g H locs LS a1 a2 a3 a4 a5 a6 => ?_⟩
  have k1 := kk.1
  have k2 := kk.2.1
  rw [nc_alc] at k1
  rw [ns_alc] at k2
  refine W.anewA (t := .int) G.1 G.2.1 G.2.2.2.2.1 (G.2.2.2.2.2.1 (.classLink Y.1.cls idx "[I") (gin hw1 rfl)) (a_over G.2.2.2.2.2.2.2.2.2.2.2.2.2.2.2.2.2.1) rfl hd rfl hn (by omega) (by omega) (by omega) fun cA kA0 comp f1 f2 f3 f4 => ?_
  generalize hH1 : H.push ({ cls := cA, slots := Array.replicate n.toNatClampNeg .null, vm := .none } : Cell) = H1
  have e1 : H1[H.size]? = some (arrV cA n.toNatClampNeg (fun _ => .null)) := by rw [← hH1, Array.getElem?_push_size, ← arrV_new]
  have z1 : H1.size = H.size + 1 := by rw [← hH1, Array.size_push]
  have o1 : ∀ q : Nat, q < H.size → H1[q]? = H[q]? := fun q hq => by rw [← hH1, Array.getElem?_push, if_neg (Nat.ne_of_lt hq)]
  have hAr : ArrOfT s cA (.array .int) := fun N z => ⟨(fun k h => by cases h), kA0, f2, comp, f3⟩
  have hk : ∀ (k : Nat) (x : Nat × va_E), (wsOf g h)[k]? = some x → H1[x.1]? = H[x.1]? := fun k x hx => o1 x.1 (va_at_lt a2.1 hx)
  obtain ⟨q, hq⟩ : ∃ q, q = H.size := ⟨_, rfl⟩
  have hP1 : va_P K.1 vwCl (wsOf g h ++ [(q, .inl (cA, n.toNatClampNeg, .inr (.inr (.inr (.inr (fun _ => none))))))]) H1 := (a2.1.kept hk).app (fun k x hx => by
    have hz : k < 1 := (List.getElem?_eq_some_iff.mp hx).1
    rw [show k = 0 by omega] at hx
    cases hx
    show H1[q]? = some (vp_cell _ _)
    rw [vp_cell_q, hq]
    exact e1)
  have hD1 : va_D (kA K) (wsOf g h ++ [(q, .inl (cA, n.toNatClampNeg, .inr (.inr (.inr (.inr (fun _ => none))))))]) := a2.2.1.push a2.1 hq (by rw [hq]; exact Nat.le_trans G.2.2.2.2.2.2.2.2.2.2.2.2.2.1 a3.1)
  have hS1 : va_S (kA K) s.heap H1 locs := ⟨Nat.le_trans a3.1 (by omega), fun x h1 h2 => (o1 x (Nat.lt_of_lt_of_le h1 a3.1)).trans (a3.2.1 x h1 h2), a3.2.2⟩
  have he : cellE (gpu g (sz h + 1) q cA) (alc h 24 n.toNatClampNeg) (sz h + 1) = .inl (cA, n.toNatClampNeg, .inr (.inr (.inr (.inr (fun _ => none))))) := by
    rw [cellE_ref (k := 24) (by rw [kd_alc, if_pos rfl]) (by omega)]
    simp [gpu, va_up, ln_alc, gP_alc, rp]
  rw [wsOf_alc a2.2.2.1 he] at hP1 hD1
  have hA1 := ArO_alc (q := q) (n := n.toNatClampNeg) (k := 24) a2.2.2.1 a2.2.2.2 (fun _ _ => ⟨hAr, f1⟩)
  have z := kk.2.2 K g0 h0 p l e R s m args below meth c0 G r1 r2 (gpu g (sz h + 1) q cA) H1 locs LS ⟨by rw [nc_alc]; omega, by rw [ns_alc]; omega, by rw [sz_alc]; omega, a1.2.2.2.tr gpu_ext a1.2.2.1⟩ ⟨hP1, hD1, Wf_alc a2.2.2.1, hA1⟩ hS1 (by rw [kn_ext gpu_ext a5]; exact a4) (ok1_mono (Nat.le_succ _) a5) ⟨Nat.le_refl _, okS_mono (Nat.le_succ _) a6.2⟩
  rw [List.map_cons, map_ext gpu_ext a6.2, rel_1 (by omega), nc_alc, ns_alc, show nc h + 1 - nc h0 = nc h - nc h0 + 1 by omega, show ns h + n.toNatClampNeg - ns h0 = ns h - ns h0 + n.toNatClampNeg by omega] at z
  have e3 : (gpu g (sz h + 1) q cA (sz h + 1)).1 = q := by simp [gpu, va_up]
  rw [e3, hq] at z
  exact z
theorem J_aastA {r v : Nat} {i : Int32} (hd : decode Y.2.1 pc = .ok (.aastore, 1)) (hk : kd h r = 24) (hv : kd h v = 20) (hi : vp_in i (ln h r)) (kk : JP Φ d Y (pc + 1) ls st (sP h r i.toNatClampNeg v) o h') : JP Φ d Y pc ls (.ref v :: .int i :: .ref r :: st) h o h' := by
  refine ⟨kk.1, kk.2.1, fun K g0 h0 p l e R s m args below meth c0 G r1 r2 g H locs LS a1 a2 a3 a4 a5 a6 => ?_⟩
  have hb := a2.2.2.1.1 r (by omega)
  have hg := wsOf_get (g := g) hb.1 hb.2
  rw [cellE_ref hk (by omega)] at hg
  have hb2 := a2.2.2.1.1 v (by omega)
  have hg2 := wsOf_get (g := g) hb2.1 hb2.2
  rw [cellE_int hv (by omega) (by omega)] at hg2
  have zr := a2.2.2.2 r (by omega) (by omega)
  have zv := a2.2.2.2 v (by omega) (by omega)
  rw [hk] at zr
  rw [hv] at zv
  have hlt : i.toNatClampNeg < ln h r := Nat.not_le.mp fun q => hi (Or.inr q)
  have hi0 : ¬ i < 0 := fun q => hi (Or.inl q)
  obtain ⟨comp, cR, kR, k1, k2, k3, k4, k5⟩ := arrayOverA_spec (a_over (args := args) G.2.2.2.2.2.2.2.2.2.2.2.2.2.2.2.2.2.1)
  have e1 : cR = (g r).2 := Option.some.inj (k5.symm.trans zr.2)
  have e2 : comp = (g v).2 := Option.some.inj (k1.symm.trans zv.2)
  obtain ⟨-, kV, kv1, -⟩ := zv.1 0 (fun _ => .null)
  have kv2 : s.vm.classes[(g v).2]? = some kV := kv1
  rw [List.map_cons, List.map_cons, List.map_cons, rel_1 (r := r) (by omega), rel_1 (r := v) (by omega)]
  refine W.aast (t := .array .int) (comp := comp) (kv := kV) (kcomp := kV) G.1 G.2.1 (a2.1 (r - 1) _ hg) (fun q h => by cases h) (fun h => by cases h) (by show s.vm.classes[(g r).2]? = some kR; rw [← e1]; exact k3) k4 rfl (by rw [e2]; exact kv2) ⟨hi0, by show _ < (arrV _ _ _).slots.size; rw [arrV_size]; exact hlt⟩ (a2.1 (v - 1) _ hg2) (fun q h => by cases h) kv2 (by rw [e2]; exact va_asg _ _) rfl rfl hd fun H1 e z oq => ?_
  have hP1 := a2.1.set (e := .inl ((g r).2, ln h r, .inr (.inr (.inr (.inr (va_up (fun j => rp g (gP h r j)) i.toNatClampNeg (some (g v).1))))))) a2.2.1 hg (by
    show H1[_]? = some (vp_cell _ _)
    rw [e, vp_cell_q, vp_cell_q, arrV_store]
    congr 2
    funext q
    by_cases hq : q = i.toNatClampNeg
    · subst hq; simp [updV, va_up, va_rf]
    · simp [updV, va_up, hq]) oq
  have hD1 := a2.2.1.set (e := .inl ((g r).2, ln h r, .inr (.inr (.inr (.inr (va_up (fun j => rp g (gP h r j)) i.toNatClampNeg (some (g v).1))))))) hg
  have e9 : cellE g (sP h r i.toNatClampNeg v) r = .inl ((g r).2, ln h r, .inr (.inr (.inr (.inr (va_up (fun j => rp g (gP h r j)) i.toNatClampNeg (some (g v).1)))))) := by
    rw [sP_arr hk (by omega)]
    simp only [rp]
    rw [if_neg (by omega)]
  rw [wsOf_rP hb.1 hb.2 e9] at hP1 hD1
  exact kk.2.2 K g0 h0 p l _ R s m args below meth c0 G r1 r2 g H1 _ LS a1 ⟨hP1, hD1, Wf_rP a2.2.2.1 (fun j => by simp only [va_up]; split; exact a6.1; exact a2.2.2.1.2.1 r j), a2.2.2.2⟩ (a3.put z oq (a2.2.1.2 (r - 1) _ hg)) a4 a5 a6.2.2.2
theorem J_copy {idx r1 r2 : Nat} {sp dp n : Int32} (k : Nat) (hd : decode Y.2.1 pc = .ok (.invokestatic idx, 3)) (hl : Cond.methodLink Y.1.cls idx arraycopyName ∈ lw_tbl) (hw : Cond.native arraycopyName ∈ lw_tbl ∧ Cond.static arraycopyName ∈ lw_tbl ∧ Cond.initialized "java/lang/System" ∈ lw_tbl) (hk : k = 20 ∨ k = 21) (h1 : kd h r1 = k) (h2 : kd h r2 = k) (hs : ¬ sp < 0 ∧ ¬ dp < 0 ∧ ¬ n < 0) (hb1 : sp.toNatClampNeg + n.toNatClampNeg ≤ ln h r1) (hb2 : dp.toNatClampNeg + n.toNatClampNeg ≤ ln h r2) (hc : (st.map Value.category).sum ≤ 8)
    (kk : JP Φ d Y (pc + 3) ls st (rI h r2 (va_cpy (gI h r1) (gI h r2) sp.toNatClampNeg dp.toNatClampNeg n.toNatClampNeg)) o h') : JP Φ d Y pc ls (.int n :: .int dp :: .ref r2 :: .int sp :: .ref r1 :: st) h o h' := by
  refine ⟨kk.1, kk.2.1, fun K g0 h0 p l e R s m args below meth c0 G q1 q2 g H locs LS a1 a2 a3 a4 a5 a6 => ?_⟩
  have hb := a2.2.2.1.1 r1 (by omega)
  have hg := wsOf_get (g := g) hb.1 hb.2
  rw [cellE_int h1 (by omega) (by omega)] at hg
  have hb' := a2.2.2.1.1 r2 (by omega)
  have hg' := wsOf_get (g := g) hb'.1 hb'.2
  rw [cellE_int h2 (by omega) (by omega)] at hg'
  have z1 := a2.2.2.2 r1 (by omega) (by omega)
  have z2 := a2.2.2.2 r2 (by omega) (by omega)
  rw [h1] at z1
  rw [h2] at z2
  have h7 := G.2.2.2.2.2.2.2.2.2.2.1
  have h8 := G.2.2.2.2.2.2.2.2.2.2.2.1
  have Ks1 := G.2.2.2.2.2.2.2.2.2.2.2.2
  have hK : va_K K.1 vwCl [((g r1).2, kty k), ((g r2).2, kty k)] s := ⟨Ks1.1.1, fun j q hq => by
    have hj : j < 2 := (List.getElem?_eq_some_iff.mp hq).1
    rcases (by omega : j = 0 ∨ j = 1) with rfl | rfl
    · cases hq; exact z1
    · cases hq; exact z2⟩
  rw [List.map_cons, List.map_cons, List.map_cons, List.map_cons, List.map_cons, rel_1 (r := r1) (by omega), rel_1 (r := r2) (by omega)]
  refine va_copyi (tys := [((g r1).2, kty k), ((g r2).2, kty k)]) (ty := kty k) G.1 G.2.1 (by rw [a4.1, G.2.2.2.1]) G.2.2.2.2.1 (G.2.2.2.2.2.1 _ (gin hl rfl)) (G.2.2.2.2.2.1 _ (gin hw.1 rfl)) (G.2.2.2.2.2.1 _ (gin hw.2.1 rfl)) (G.2.2.2.2.2.1 _ (gin hw.2.2 rfl)) hK a2.1 a2.2.1 a3 (r1 - 1) (r2 - 1) 0 1 hg hg' rfl rfl (by rcases hk with rfl | rfl <;> rfl) hs.1 hs.2.1 hs.2.2 hb1 hb2 (fun i hi => by
    rcases hk with rfl | rfl
    · rfl
    · exact a2.2.2.1.2.2 r1 _ h1) (by omega) (by rw [cat_rest, nfw]; exact cpy_ok h8 hc) hd (fun H1 locs1 hP1 hD1 hS1 => ?_)
  have e : cellE g (rI h r2 (va_cpy (gI h r1) (gI h r2) sp.toNatClampNeg dp.toNatClampNeg n.toNatClampNeg)) r2 = .inl ((g r2).2, ln h r2, .inl (va_cpy (gI h r1) (gI h r2) sp.toNatClampNeg dp.toNatClampNeg n.toNatClampNeg)) := by
    rw [cellE_int (h := rI h r2 (va_cpy (gI h r1) (gI h r2) sp.toNatClampNeg dp.toNatClampNeg n.toNatClampNeg)) h2 (by omega) (by omega)]
    simp only [gI_rI, if_pos, ln_rI]
  rw [wsOf_rI hb'.1 hb'.2 e] at hP1 hD1
  exact kk.2.2 K g0 h0 p l _ R s m args below meth c0 G q1 q2 g H1 locs1 LS a1 ⟨hP1, hD1, Wf_rI a2.2.2.1 (fun z j => by
    simp only [va_cpy]
    split
    · exact a2.2.2.1.2.2 r1 _ (by omega)
    · exact a2.2.2.1.2.2 r2 _ z), a2.2.2.2⟩ hS1 a4 a5 a6.2.2.2.2.2
theorem J_max {idx : Nat} {x y : Int32} (hd : decode Y.2.1 pc = .ok (.invokestatic idx, 3)) (hl : Cond.methodLink Y.1.cls idx Lib.Math.max.name ∈ lw_tbl) (hw : Cond.static Lib.Math.max.name ∈ lw_tbl ∧ Cond.initialized "java/lang/Math" ∈ lw_tbl ∧ Cond.code Lib.Math.max.name Lib.Math.max.code 2 (some .int) ∈ lw_tbl) (hc : (st.map Value.category).sum ≤ 8) (k : JP Φ d Y (pc + 3) ls (.int (if x < y then y else x) :: st) h o h') : JP Φ d Y pc ls (.int y :: .int x :: st) h o h' := by
  refine ⟨k.1, k.2.1, fun K g0 h0 p l e R s m args below meth c G r1 r2 g H locs LS a1 a2 a3 a4 a5 a6 => ?_⟩
  have h7 := G.2.2.2.2.2.2.2.2.2.2.1
  have h8 := G.2.2.2.2.2.2.2.2.2.2.2.1
  have k1 := k.1
  have k2 := k.2.1
  exact va_mmax G.1 G.2.1 (by rw [a4.1, G.2.2.2.1]) G.2.2.2.2.1 (G.2.2.2.2.2.1 _ (gin hl rfl)) (G.2.2.2.2.2.1 _ (gin hw.1 rfl)) (G.2.2.2.2.2.1 _ (gin hw.2.1 rfl)) (G.2.2.2.2.2.1 _ (gin hw.2.2 rfl)) (by omega) (by rw [cat_rest]; exact mth_ok h8 hc) (by omega) (by omega) hd (k.2.2 K g0 h0 p l e R s m args below meth c G r1 r2 g H locs LS a1 a2 a3 a4 a5 ⟨trivial, a6.2.2⟩)
theorem J_min {idx : Nat} {x y : Int32} (hd : decode Y.2.1 pc = .ok (.invokestatic idx, 3)) (hl : Cond.methodLink Y.1.cls idx Lib.Math.min.name ∈ lw_tbl) (hw : Cond.static Lib.Math.min.name ∈ lw_tbl ∧ Cond.initialized "java/lang/Math" ∈ lw_tbl ∧ Cond.code Lib.Math.min.name Lib.Math.min.code 2 (some .int) ∈ lw_tbl) (hc : (st.map Value.category).sum ≤ 8) (k : JP Φ d Y (pc + 3) ls (.int (if y < x then y else x) :: st) h o h') : JP Φ d Y pc ls (.int y :: .int x :: st) h o h' := by
  refine ⟨k.1, k.2.1, fun K g0 h0 p l e R s m args below meth c G r1 r2 g H locs LS a1 a2 a3 a4 a5 a6 => ?_⟩
  have h7 := G.2.2.2.2.2.2.2.2.2.2.1
  have h8 := G.2.2.2.2.2.2.2.2.2.2.2.1
  have k1 := k.1
  have k2 := k.2.1
  exact va_mmin G.1 G.2.1 (by rw [a4.1, G.2.2.2.1]) G.2.2.2.2.1 (G.2.2.2.2.2.1 _ (gin hl rfl)) (G.2.2.2.2.2.1 _ (gin hw.1 rfl)) (G.2.2.2.2.2.1 _ (gin hw.2.1 rfl)) (G.2.2.2.2.2.1 _ (gin hw.2.2 rfl)) (by omega) (by rw [cat_rest]; exact mth_ok h8 hc) (by omega) (by omega) hd (k.2.2 K g0 h0 p l e R s m args below meth c G r1 r2 g H locs LS a1 a2 a3 a4 a5 ⟨trivial, a6.2.2⟩)
end
