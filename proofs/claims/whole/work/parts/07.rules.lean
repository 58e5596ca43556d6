section
variable {p : Program} {l : Launch} {e : Env} {R : Room} {s : State} {m : MethodId} {args : Array Value} {below : List Frame} {meth : Method} {c : Code} {H : Heap} {locs : List Loc} {cells slots : Nat} {Q : State → Prop}
variable {cc : ByteArray} {pc : Nat} {ls : Array Slot} {rest : List Value} {v : Value}
theorem lvg_aload_n (hexec : p.tables.exec = Jvm.exec) (hb : c.code = cc) (hv : v = .null ∨ ∃ a, v = .ref a) {k : Fin 4} {i : Nat} (hdg : decode cc pc = .ok (.aload_n k, 1)) (hi : (k : Nat) = i) (hl : ls[i]? = some (.val v))
    (kk : W p l e R s m args below meth c H locs cells slots Q (F0 m (pc + 1) ls (v :: rest))) : W p l e R s m args below meth c H locs cells slots Q (F0 m pc ls rest) := by
  rcases hv with rfl | ⟨a, rfl⟩
  · exact lv_aload_nN hexec hb hdg hi hl kk
  · exact lv_aload_n hexec hb hdg hi hl kk
theorem lvg_aload (hexec : p.tables.exec = Jvm.exec) (hb : c.code = cc) (hv : v = .null ∨ ∃ a, v = .ref a) {i : Nat} (hdg : decode cc pc = .ok (.aload i, 2)) (hl : ls[i]? = some (.val v))
    (kk : W p l e R s m args below meth c H locs cells slots Q (F0 m (pc + 2) ls (v :: rest))) : W p l e R s m args below meth c H locs cells slots Q (F0 m pc ls rest) := by
  rcases hv with rfl | ⟨a, rfl⟩
  · exact lv_aloadN hexec hb hdg hl kk
  · exact lv_aload hexec hb hdg hl kk
theorem lvg_astore_n (hexec : p.tables.exec = Jvm.exec) (hb : c.code = cc) (hv : v = .null ∨ ∃ a, v = .ref a) {k : Fin 4} {i nL : Nat} {lv : List (Nat × Value)} (hdg : decode cc pc = .ok (.astore_n k, 1)) (hi : (k : Nat) = i) (h : lv_has ls nL lv) (hn : i < nL)
    (kk : ∀ ls' : Array Slot, lv_has ls' nL ((i, v) :: lv.filter (fun q => !(q.1 == i) && !(q.1 + 1 == i && q.2.category == 2))) → W p l e R s m args below meth c H locs cells slots Q (F0 m (pc + 1) ls' rest)) : W p l e R s m args below meth c H locs cells slots Q (F0 m pc ls (v :: rest)) := by
  rcases hv with rfl | ⟨a, rfl⟩
  · exact lv_astore_nN hexec hb hdg hi h hn rfl kk
  · exact lv_astore_n hexec hb hdg hi h hn rfl kk
theorem lvg_astore (hexec : p.tables.exec = Jvm.exec) (hb : c.code = cc) (hv : v = .null ∨ ∃ a, v = .ref a) {i nL : Nat} {lv : List (Nat × Value)} (hdg : decode cc pc = .ok (.astore i, 2)) (h : lv_has ls nL lv) (hn : i < nL)
    (kk : ∀ ls' : Array Slot, lv_has ls' nL ((i, v) :: lv.filter (fun q => !(q.1 == i) && !(q.1 + 1 == i && q.2.category == 2))) → W p l e R s m args below meth c H locs cells slots Q (F0 m (pc + 2) ls' rest)) : W p l e R s m args below meth c H locs cells slots Q (F0 m pc ls (v :: rest)) := by
  rcases hv with rfl | ⟨a, rfl⟩
  · exact lv_astoreN hexec hb hdg h hn rfl kk
  · exact lv_astore hexec hb hdg h hn rfl kk
theorem rel_ref {sa : Nat → Nat} {g : Gh} {r : Nat} : rel sa g (.ref r) = .null ∨ ∃ a, rel sa g (.ref r) = .ref a := by
  simp only [rel, rp]
  split
  · exact Or.inl rfl
  · exact Or.inr ⟨_, rfl⟩
theorem rel_T {sa : Nat → Nat} {g : Gh} {k : Nat} : rel sa g (.retAddr k) = .null ∨ ∃ a, rel sa g (.retAddr k) = .ref a := by
  simp only [rel]
  split
  · split
    · exact Or.inl rfl
    · exact Or.inr ⟨_, rfl⟩
  · exact Or.inr ⟨_, rfl⟩
theorem rel_0 {sa : Nat → Nat} {g : Gh} : rel sa g (.ref 0) = .null := rfl
theorem rel_1 {sa : Nat → Nat} {g : Gh} {r : Nat} (hr : ¬ r = 0) : rel sa g (.ref r) = .ref (g r).1 := by
  simp only [rel, rp]; rw [if_neg hr]; rfl
theorem lvg_ifnull {sa : Nat → Nat} {g : Gh} {r : Nat} (hexec : p.tables.exec = Jvm.exec) (hb : c.code = cc) {off : Int} {tgt : Nat} (hdg : decode cc pc = .ok (.ifnull off, 3)) (ht : (pc : Int) + off = (tgt : Int))
    (kt : r = 0 → W p l e R s m args below meth c H locs cells slots Q (F0 m tgt ls rest)) (kf : ¬ r = 0 → W p l e R s m args below meth c H locs cells slots Q (F0 m (pc + 3) ls rest)) : W p l e R s m args below meth c H locs cells slots Q (F0 m pc ls (rel sa g (.ref r) :: rest)) := by
  by_cases q : r = 0
  · subst q
    exact lv_ifnullN hexec hb hdg ht (kt rfl)
  · rw [rel_1 q]
    exact lv_ifnull hexec hb hdg (kf q)
theorem lvg_ifnonnull {sa : Nat → Nat} {g : Gh} {r : Nat} (hexec : p.tables.exec = Jvm.exec) (hb : c.code = cc) {off : Int} {tgt : Nat} (hdg : decode cc pc = .ok (.ifnonnull off, 3)) (ht : (pc : Int) + off = (tgt : Int))
    (kt : ¬ r = 0 → W p l e R s m args below meth c H locs cells slots Q (F0 m tgt ls rest)) (kf : r = 0 → W p l e R s m args below meth c H locs cells slots Q (F0 m (pc + 3) ls rest)) : W p l e R s m args below meth c H locs cells slots Q (F0 m pc ls (rel sa g (.ref r) :: rest)) := by
  by_cases q : r = 0
  · subst q
    exact lv_ifnonnullN hexec hb hdg (kf rfl)
  · rw [rel_1 q]
    exact lv_ifnonnull hexec hb hdg ht (kt q)
end
/-! RULES: locals, stack, numbers, branches -/
section
variable {Φ : Kc → State → Code → Prop} {d pc : Nat} {Y : Mt} {ls st : List Value} {h h' : Hp} {o : Oc}

theorem J_iconst {n : Int} (v : Int32) (hd : decode Y.2.1 pc = .ok (.iconst n, 1)) (hv : Int32.ofInt n = v) (k : JP Φ d Y (pc + 1) ls (.int v :: st) h o h') : JP Φ d Y pc ls (st) h o h' := by
  refine ⟨k.1, k.2.1, fun K g0 h0 p l e R s m args below meth c G r1 r2 g H locs LS a1 a2 a3 a4 a5 a6 => ?_⟩
  exact lv_iconst G.1 G.2.1 hd hv (k.2.2 K g0 h0 p l e R s m args below meth c G r1 r2 g H locs LS a1 a2 a3 a4 a5 ⟨trivial, a6⟩)
theorem J_bipush {n : Int} (v : Int32) (hd : decode Y.2.1 pc = .ok (.bipush n, 2)) (hv : (Int8.ofInt n).toInt32 = v) (k : JP Φ d Y (pc + 2) ls (.int v :: st) h o h') : JP Φ d Y pc ls (st) h o h' := by
  refine ⟨k.1, k.2.1, fun K g0 h0 p l e R s m args below meth c G r1 r2 g H locs LS a1 a2 a3 a4 a5 a6 => ?_⟩
  exact lv_bipush G.1 G.2.1 hd hv (k.2.2 K g0 h0 p l e R s m args below meth c G r1 r2 g H locs LS a1 a2 a3 a4 a5 ⟨trivial, a6⟩)
theorem J_sipush {n : Int} (v : Int32) (hd : decode Y.2.1 pc = .ok (.sipush n, 3)) (hv : (Int16.ofInt n).toInt32 = v) (k : JP Φ d Y (pc + 3) ls (.int v :: st) h o h') : JP Φ d Y pc ls (st) h o h' := by
  refine ⟨k.1, k.2.1, fun K g0 h0 p l e R s m args below meth c G r1 r2 g H locs LS a1 a2 a3 a4 a5 a6 => ?_⟩
  exact lv_sipush G.1 G.2.1 hd hv (k.2.2 K g0 h0 p l e R s m args below meth c G r1 r2 g H locs LS a1 a2 a3 a4 a5 ⟨trivial, a6⟩)
theorem J_ldc {i : Nat} (v : Int32) (hw : Cond.constant Y.1.cls i v ∈ lw_tbl) (hd : decode Y.2.1 pc = .ok (.ldc i, 2)) (k : JP Φ d Y (pc + 2) ls (.int v :: st) h o h') : JP Φ d Y pc ls (st) h o h' := by
  refine ⟨k.1, k.2.1, fun K g0 h0 p l e R s m args below meth c G r1 r2 g H locs LS a1 a2 a3 a4 a5 a6 => ?_⟩
  exact lv_ldc G.1 G.2.1 G.2.2.2.2.1 (G.2.2.2.2.2.1 _ (List.mem_filter.mpr ⟨hw, rfl⟩)) hd (k.2.2 K g0 h0 p l e R s m args below meth c G r1 r2 g H locs LS a1 a2 a3 a4 a5 ⟨trivial, a6⟩)
theorem J_ldcw {i : Nat} (v : Int32) (hw : Cond.constant Y.1.cls i v ∈ lw_tbl) (hd : decode Y.2.1 pc = .ok (.ldc_w i, 3)) (k : JP Φ d Y (pc + 3) ls (.int v :: st) h o h') : JP Φ d Y pc ls (st) h o h' := by
  refine ⟨k.1, k.2.1, fun K g0 h0 p l e R s m args below meth c G r1 r2 g H locs LS a1 a2 a3 a4 a5 a6 => ?_⟩
  exact lv_ldcw G.1 G.2.1 G.2.2.2.2.1 (G.2.2.2.2.2.1 _ (List.mem_filter.mpr ⟨hw, rfl⟩)) hd (k.2.2 K g0 h0 p l e R s m args below meth c G r1 r2 g H locs LS a1 a2 a3 a4 a5 ⟨trivial, a6⟩)
theorem J_lconst {n : Fin 2} (v : Int64) (hd : decode Y.2.1 pc = .ok (.lconst n, 1)) (hv : Int64.ofNat (n : Nat) = v) (k : JP Φ d Y (pc + 1) ls (.long v :: st) h o h') : JP Φ d Y pc ls (st) h o h' := by
  refine ⟨k.1, k.2.1, fun K g0 h0 p l e R s m args below meth c G r1 r2 g H locs LS a1 a2 a3 a4 a5 a6 => ?_⟩
  exact lv_lconst G.1 G.2.1 hd hv (k.2.2 K g0 h0 p l e R s m args below meth c G r1 r2 g H locs LS a1 a2 a3 a4 a5 ⟨trivial, a6⟩)
theorem J_null  (hd : decode Y.2.1 pc = .ok (.aconst_null, 1)) (k : JP Φ d Y (pc + 1) ls (.ref 0 :: st) h o h') : JP Φ d Y pc ls (st) h o h' := by
  refine ⟨k.1, k.2.1, fun K g0 h0 p l e R s m args below meth c G r1 r2 g H locs LS a1 a2 a3 a4 a5 a6 => ?_⟩
  exact lv_null G.1 G.2.1 hd (k.2.2 K g0 h0 p l e R s m args below meth c G r1 r2 g H locs LS a1 a2 a3 a4 a5 ⟨Nat.zero_le _, a6⟩)
theorem J_iload_n {k0 : Fin 4} (i : Nat) {x : Int32} (hd : decode Y.2.1 pc = .ok (.iload_n k0, 1)) (hi : (k0 : Nat) = i) (hl : ls[i]? = some (.int x)) (k : JP Φ d Y (pc + 1) ls (.int x :: st) h o h') : JP Φ d Y pc ls (st) h o h' := by
  refine ⟨k.1, k.2.1, fun K g0 h0 p l e R s m args below meth c G r1 r2 g H locs LS a1 a2 a3 a4 a5 a6 => ?_⟩
  exact lv_iload_n G.1 G.2.1 hd hi (kn_at a4 hl (by simp)) (k.2.2 K g0 h0 p l e R s m args below meth c G r1 r2 g H locs LS a1 a2 a3 a4 a5 ⟨trivial, a6⟩)
theorem J_iload {i : Nat} {x : Int32} (hd : decode Y.2.1 pc = .ok (.iload i, 2)) (hl : ls[i]? = some (.int x)) (k : JP Φ d Y (pc + 2) ls (.int x :: st) h o h') : JP Φ d Y pc ls (st) h o h' := by
  refine ⟨k.1, k.2.1, fun K g0 h0 p l e R s m args below meth c G r1 r2 g H locs LS a1 a2 a3 a4 a5 a6 => ?_⟩
  exact lv_iload G.1 G.2.1 hd (kn_at a4 hl (by simp)) (k.2.2 K g0 h0 p l e R s m args below meth c G r1 r2 g H locs LS a1 a2 a3 a4 a5 ⟨trivial, a6⟩)
theorem J_aload_n {k0 : Fin 4} (i : Nat) {r : Nat} (hd : decode Y.2.1 pc = .ok (.aload_n k0, 1)) (hi : (k0 : Nat) = i) (hl : ls[i]? = some (.ref r)) (k : JP Φ d Y (pc + 1) ls (.ref r :: st) h o h') : JP Φ d Y pc ls (st) h o h' := by
  refine ⟨k.1, k.2.1, fun K g0 h0 p l e R s m args below meth c G r1 r2 g H locs LS a1 a2 a3 a4 a5 a6 => ?_⟩
  exact lvg_aload_n G.1 G.2.1 rel_ref hd hi (kn_at a4 hl (by simp)) (k.2.2 K g0 h0 p l e R s m args below meth c G r1 r2 g H locs LS a1 a2 a3 a4 a5 ⟨(a5 _ (List.mem_of_getElem? hl)).1, a6⟩)
theorem J_aload {i r : Nat} (hd : decode Y.2.1 pc = .ok (.aload i, 2)) (hl : ls[i]? = some (.ref r)) (k : JP Φ d Y (pc + 2) ls (.ref r :: st) h o h') : JP Φ d Y pc ls (st) h o h' := by
  refine ⟨k.1, k.2.1, fun K g0 h0 p l e R s m args below meth c G r1 r2 g H locs LS a1 a2 a3 a4 a5 a6 => ?_⟩
  exact lvg_aload G.1 G.2.1 rel_ref hd (kn_at a4 hl (by simp)) (k.2.2 K g0 h0 p l e R s m args below meth c G r1 r2 g H locs LS a1 a2 a3 a4 a5 ⟨(a5 _ (List.mem_of_getElem? hl)).1, a6⟩)
theorem J_aload_nT {k0 : Fin 4} (i : Nat) {r : Nat} (hd : decode Y.2.1 pc = .ok (.aload_n k0, 1)) (hi : (k0 : Nat) = i) (hl : ls[i]? = some (.retAddr r)) (k : JP Φ d Y (pc + 1) ls (.retAddr r :: st) h o h') : JP Φ d Y pc ls (st) h o h' := by
  refine ⟨k.1, k.2.1, fun K g0 h0 p l e R s m args below meth c G r1 r2 g H locs LS a1 a2 a3 a4 a5 a6 => ?_⟩
  exact lvg_aload_n G.1 G.2.1 rel_T hd hi (kn_at a4 hl (by simp)) (k.2.2 K g0 h0 p l e R s m args below meth c G r1 r2 g H locs LS a1 a2 a3 a4 a5 ⟨(a5 _ (List.mem_of_getElem? hl)).1, a6⟩)
theorem J_istore_n {k0 : Fin 4} (i : Nat) {x : Int32} (hd : decode Y.2.1 pc = .ok (.istore_n k0, 1)) (hi : (k0 : Nat) = i) (hn : i < Y.2.2.1) {ls' : List Value} (he : ls.set i (.int x) = ls') (k : JP Φ d Y (pc + 1) ls' st h o h') : JP Φ d Y pc ls (.int x :: st) h o h' := by
  refine ⟨k.1, k.2.1, fun K g0 h0 p l e R s m args below meth c G r1 r2 g H locs LS a1 a2 a3 a4 a5 a6 => ?_⟩
  subst he
  exact lv_istore_n G.1 G.2.1 hd hi a4 hn rfl (fun LS2 a7 => (k.2.2 K g0 h0 p l e R s m args below meth c G r1 r2 g H locs LS2 a1 a2 a3 (kn_put (v := .int x) a5 a7) (ok1_set a5 a6.1 rfl) a6.2))
theorem J_istore {i : Nat} {x : Int32} (hd : decode Y.2.1 pc = .ok (.istore i, 2)) (hn : i < Y.2.2.1) {ls' : List Value} (he : ls.set i (.int x) = ls') (k : JP Φ d Y (pc + 2) ls' st h o h') : JP Φ d Y pc ls (.int x :: st) h o h' := by
  refine ⟨k.1, k.2.1, fun K g0 h0 p l e R s m args below meth c G r1 r2 g H locs LS a1 a2 a3 a4 a5 a6 => ?_⟩
  subst he
  exact lv_istore G.1 G.2.1 hd a4 hn rfl (fun LS2 a7 => (k.2.2 K g0 h0 p l e R s m args below meth c G r1 r2 g H locs LS2 a1 a2 a3 (kn_put (v := .int x) a5 a7) (ok1_set a5 a6.1 rfl) a6.2))
theorem J_astore_n {k0 : Fin 4} (i : Nat) {r : Nat} (hd : decode Y.2.1 pc = .ok (.astore_n k0, 1)) (hi : (k0 : Nat) = i) (hn : i < Y.2.2.1) {ls' : List Value} (he : ls.set i (.ref r) = ls') (k : JP Φ d Y (pc + 1) ls' st h o h') : JP Φ d Y pc ls (.ref r :: st) h o h' := by
  refine ⟨k.1, k.2.1, fun K g0 h0 p l e R s m args below meth c G r1 r2 g H locs LS a1 a2 a3 a4 a5 a6 => ?_⟩
  subst he
  exact lvg_astore_n G.1 G.2.1 rel_ref hd hi a4 hn (fun LS2 a7 => (k.2.2 K g0 h0 p l e R s m args below meth c G r1 r2 g H locs LS2 a1 a2 a3 (kn_put (v := .ref r) a5 a7) (ok1_set a5 a6.1 rfl) a6.2))
theorem J_astore {i r : Nat} (hd : decode Y.2.1 pc = .ok (.astore i, 2)) (hn : i < Y.2.2.1) {ls' : List Value} (he : ls.set i (.ref r) = ls') (k : JP Φ d Y (pc + 2) ls' st h o h') : JP Φ d Y pc ls (.ref r :: st) h o h' := by
  refine ⟨k.1, k.2.1, fun K g0 h0 p l e R s m args below meth c G r1 r2 g H locs LS a1 a2 a3 a4 a5 a6 => ?_⟩
  subst he
  exact lvg_astore G.1 G.2.1 rel_ref hd a4 hn (fun LS2 a7 => (k.2.2 K g0 h0 p l e R s m args below meth c G r1 r2 g H locs LS2 a1 a2 a3 (kn_put (v := .ref r) a5 a7) (ok1_set a5 a6.1 rfl) a6.2))
theorem J_iinc {i : Nat} {n : Int} {x : Int32} (v : Int32) (hd : decode Y.2.1 pc = .ok (.iinc i n, 3)) (hl : ls[i]? = some (.int x)) (hv : x + Int32.ofInt n = v) (hn : i < Y.2.2.1) {ls' : List Value} (he : ls.set i (.int v) = ls') (k : JP Φ d Y (pc + 3) ls' st h o h') : JP Φ d Y pc ls st h o h' := by
  refine ⟨k.1, k.2.1, fun K g0 h0 p l e R s m args below meth c G r1 r2 g H locs LS a1 a2 a3 a4 a5 a6 => ?_⟩
  subst he
  obtain ⟨j, hj⟩ := List.getElem?_of_mem (kn_mem.mpr ⟨_, hl, by simp, rfl⟩ : (i, rel K.2.1 g (.int x)) ∈ kn K.2.1 g ls)
  exact lv_iinc (v := v) G.1 G.2.1 hd a4 hj hv hn rfl (fun LS2 a7 => (k.2.2 K g0 h0 p l e R s m args below meth c G r1 r2 g H locs LS2 a1 a2 a3 (kn_put (v := .int v) a5 a7) (ok1_set a5 trivial rfl) a6))
theorem J_iadd {x y : Int32} (hd : decode Y.2.1 pc = .ok (.iadd, 1)) (k : JP Φ d Y (pc + 1) ls (.int (x + y) :: st) h o h') : JP Φ d Y pc ls (.int y :: .int x :: st) h o h' := by
  refine ⟨k.1, k.2.1, fun K g0 h0 p l e R s m args below meth c G r1 r2 g H locs LS a1 a2 a3 a4 a5 a6 => ?_⟩
  exact lv_iadd G.1 G.2.1 hd (k.2.2 K g0 h0 p l e R s m args below meth c G r1 r2 g H locs LS a1 a2 a3 a4 a5 ⟨trivial, a6.2.2⟩)
theorem J_isub {x y : Int32} (hd : decode Y.2.1 pc = .ok (.isub, 1)) (k : JP Φ d Y (pc + 1) ls (.int (x - y) :: st) h o h') : JP Φ d Y pc ls (.int y :: .int x :: st) h o h' := by
  refine ⟨k.1, k.2.1, fun K g0 h0 p l e R s m args below meth c G r1 r2 g H locs LS a1 a2 a3 a4 a5 a6 => ?_⟩
  exact lv_isub G.1 G.2.1 hd (k.2.2 K g0 h0 p l e R s m args below meth c G r1 r2 g H locs LS a1 a2 a3 a4 a5 ⟨trivial, a6.2.2⟩)
theorem J_imul {x y : Int32} (hd : decode Y.2.1 pc = .ok (.imul, 1)) (k : JP Φ d Y (pc + 1) ls (.int (x * y) :: st) h o h') : JP Φ d Y pc ls (.int y :: .int x :: st) h o h' := by
  refine ⟨k.1, k.2.1, fun K g0 h0 p l e R s m args below meth c G r1 r2 g H locs LS a1 a2 a3 a4 a5 a6 => ?_⟩
  exact lv_imul G.1 G.2.1 hd (k.2.2 K g0 h0 p l e R s m args below meth c G r1 r2 g H locs LS a1 a2 a3 a4 a5 ⟨trivial, a6.2.2⟩)
theorem J_iand {x y : Int32} (hd : decode Y.2.1 pc = .ok (.iand, 1)) (k : JP Φ d Y (pc + 1) ls (.int (x &&& y) :: st) h o h') : JP Φ d Y pc ls (.int y :: .int x :: st) h o h' := by
  refine ⟨k.1, k.2.1, fun K g0 h0 p l e R s m args below meth c G r1 r2 g H locs LS a1 a2 a3 a4 a5 a6 => ?_⟩
  exact lv_iand G.1 G.2.1 hd (k.2.2 K g0 h0 p l e R s m args below meth c G r1 r2 g H locs LS a1 a2 a3 a4 a5 ⟨trivial, a6.2.2⟩)
theorem J_ior {x y : Int32} (hd : decode Y.2.1 pc = .ok (.ior, 1)) (k : JP Φ d Y (pc + 1) ls (.int (x ||| y) :: st) h o h') : JP Φ d Y pc ls (.int y :: .int x :: st) h o h' := by
  refine ⟨k.1, k.2.1, fun K g0 h0 p l e R s m args below meth c G r1 r2 g H locs LS a1 a2 a3 a4 a5 a6 => ?_⟩
  exact lv_ior G.1 G.2.1 hd (k.2.2 K g0 h0 p l e R s m args below meth c G r1 r2 g H locs LS a1 a2 a3 a4 a5 ⟨trivial, a6.2.2⟩)
theorem J_ixor {x y : Int32} (hd : decode Y.2.1 pc = .ok (.ixor, 1)) (k : JP Φ d Y (pc + 1) ls (.int (x ^^^ y) :: st) h o h') : JP Φ d Y pc ls (.int y :: .int x :: st) h o h' := by
  refine ⟨k.1, k.2.1, fun K g0 h0 p l e R s m args below meth c G r1 r2 g H locs LS a1 a2 a3 a4 a5 a6 => ?_⟩
  exact lv_ixor G.1 G.2.1 hd (k.2.2 K g0 h0 p l e R s m args below meth c G r1 r2 g H locs LS a1 a2 a3 a4 a5 ⟨trivial, a6.2.2⟩)
theorem J_ishl {x y : Int32} (hd : decode Y.2.1 pc = .ok (.ishl, 1)) (k : JP Φ d Y (pc + 1) ls (.int (x <<< (y &&& 31)) :: st) h o h') : JP Φ d Y pc ls (.int y :: .int x :: st) h o h' := by
  refine ⟨k.1, k.2.1, fun K g0 h0 p l e R s m args below meth c G r1 r2 g H locs LS a1 a2 a3 a4 a5 a6 => ?_⟩
  exact lv_ishl G.1 G.2.1 hd (k.2.2 K g0 h0 p l e R s m args below meth c G r1 r2 g H locs LS a1 a2 a3 a4 a5 ⟨trivial, a6.2.2⟩)
theorem J_ishr {x y : Int32} (hd : decode Y.2.1 pc = .ok (.ishr, 1)) (k : JP Φ d Y (pc + 1) ls (.int (x >>> (y &&& 31)) :: st) h o h') : JP Φ d Y pc ls (.int y :: .int x :: st) h o h' := by
  refine ⟨k.1, k.2.1, fun K g0 h0 p l e R s m args below meth c G r1 r2 g H locs LS a1 a2 a3 a4 a5 a6 => ?_⟩
  exact lv_ishr G.1 G.2.1 hd (k.2.2 K g0 h0 p l e R s m args below meth c G r1 r2 g H locs LS a1 a2 a3 a4 a5 ⟨trivial, a6.2.2⟩)
theorem J_iushr {x y : Int32} (hd : decode Y.2.1 pc = .ok (.iushr, 1)) (k : JP Φ d Y (pc + 1) ls (.int (x.toUInt32 >>> (y.toUInt32 &&& Int32.toUInt32 31)).toInt32 :: st) h o h') : JP Φ d Y pc ls (.int y :: .int x :: st) h o h' := by
  refine ⟨k.1, k.2.1, fun K g0 h0 p l e R s m args below meth c G r1 r2 g H locs LS a1 a2 a3 a4 a5 a6 => ?_⟩
  exact lv_iushr G.1 G.2.1 hd rfl (k.2.2 K g0 h0 p l e R s m args below meth c G r1 r2 g H locs LS a1 a2 a3 a4 a5 ⟨trivial, a6.2.2⟩)
theorem J_idiv {x y : Int32} (hd : decode Y.2.1 pc = .ok (.idiv, 1)) (hz : ¬ y = 0) (k : JP Φ d Y (pc + 1) ls (.int (x / y) :: st) h o h') : JP Φ d Y pc ls (.int y :: .int x :: st) h o h' := by
  refine ⟨k.1, k.2.1, fun K g0 h0 p l e R s m args below meth c G r1 r2 g H locs LS a1 a2 a3 a4 a5 a6 => ?_⟩
  exact lv_idiv G.1 G.2.1 hd hz (k.2.2 K g0 h0 p l e R s m args below meth c G r1 r2 g H locs LS a1 a2 a3 a4 a5 ⟨trivial, a6.2.2⟩)
theorem J_irem {x y : Int32} (hd : decode Y.2.1 pc = .ok (.irem, 1)) (hz : ¬ y = 0) (k : JP Φ d Y (pc + 1) ls (.int (x - x / y * y) :: st) h o h') : JP Φ d Y pc ls (.int y :: .int x :: st) h o h' := by
  refine ⟨k.1, k.2.1, fun K g0 h0 p l e R s m args below meth c G r1 r2 g H locs LS a1 a2 a3 a4 a5 a6 => ?_⟩
  exact lv_irem G.1 G.2.1 hd hz (k.2.2 K g0 h0 p l e R s m args below meth c G r1 r2 g H locs LS a1 a2 a3 a4 a5 ⟨trivial, a6.2.2⟩)
theorem J_i2l {x : Int32} (hd : decode Y.2.1 pc = .ok (.i2l, 1)) (k : JP Φ d Y (pc + 1) ls (.long x.toInt64 :: st) h o h') : JP Φ d Y pc ls (.int x :: st) h o h' := by
  refine ⟨k.1, k.2.1, fun K g0 h0 p l e R s m args below meth c G r1 r2 g H locs LS a1 a2 a3 a4 a5 a6 => ?_⟩
  exact lv_i2l G.1 G.2.1 hd rfl (k.2.2 K g0 h0 p l e R s m args below meth c G r1 r2 g H locs LS a1 a2 a3 a4 a5 ⟨trivial, a6.2⟩)
theorem J_i2b {x : Int32} (hd : decode Y.2.1 pc = .ok (.i2b, 1)) (k : JP Φ d Y (pc + 1) ls (.int x.toInt8.toInt32 :: st) h o h') : JP Φ d Y pc ls (.int x :: st) h o h' := by
  refine ⟨k.1, k.2.1, fun K g0 h0 p l e R s m args below meth c G r1 r2 g H locs LS a1 a2 a3 a4 a5 a6 => ?_⟩
  exact lv_i2b G.1 G.2.1 hd rfl (k.2.2 K g0 h0 p l e R s m args below meth c G r1 r2 g H locs LS a1 a2 a3 a4 a5 ⟨trivial, a6.2⟩)
theorem J_lcmp {x y : Int64} (hd : decode Y.2.1 pc = .ok (.lcmp, 1)) (k : JP Φ d Y (pc + 1) ls (.int (lg_cmp x y) :: st) h o h') : JP Φ d Y pc ls (.long y :: .long x :: st) h o h' := by
  refine ⟨k.1, k.2.1, fun K g0 h0 p l e R s m args below meth c G r1 r2 g H locs LS a1 a2 a3 a4 a5 a6 => ?_⟩
  exact W.lcmp G.1 G.2.1 hd (k.2.2 K g0 h0 p l e R s m args below meth c G r1 r2 g H locs LS a1 a2 a3 a4 a5 ⟨trivial, a6.2.2⟩)
theorem J_dup {v : Value} (hd : decode Y.2.1 pc = .ok (.dup, 1)) (hc : v.category = 1) (k : JP Φ d Y (pc + 1) ls (v :: v :: st) h o h') : JP Φ d Y pc ls (v :: st) h o h' := by
  refine ⟨k.1, k.2.1, fun K g0 h0 p l e R s m args below meth c G r1 r2 g H locs LS a1 a2 a3 a4 a5 a6 => ?_⟩
  exact lv_dup G.1 G.2.1 hd (rel_cat.trans hc) (k.2.2 K g0 h0 p l e R s m args below meth c G r1 r2 g H locs LS a1 a2 a3 a4 a5 ⟨a6.1, a6⟩)
theorem J_dup2 {v w : Value} (hd : decode Y.2.1 pc = .ok (.dup2, 1)) (hc : v.category = 1) (hc2 : w.category = 1) (k : JP Φ d Y (pc + 1) ls (v :: w :: v :: w :: st) h o h') : JP Φ d Y pc ls (v :: w :: st) h o h' := by
  refine ⟨k.1, k.2.1, fun K g0 h0 p l e R s m args below meth c G r1 r2 g H locs LS a1 a2 a3 a4 a5 a6 => ?_⟩
  exact lv_dup2_11 G.1 G.2.1 hd (rel_cat.trans hc) (rel_cat.trans hc2) (k.2.2 K g0 h0 p l e R s m args below meth c G r1 r2 g H locs LS a1 a2 a3 a4 a5 ⟨a6.1, a6.2.1, a6⟩)
theorem J_pop {v : Value} (hd : decode Y.2.1 pc = .ok (.pop, 1)) (hc : v.category = 1) (k : JP Φ d Y (pc + 1) ls (st) h o h') : JP Φ d Y pc ls (v :: st) h o h' := by
  refine ⟨k.1, k.2.1, fun K g0 h0 p l e R s m args below meth c G r1 r2 g H locs LS a1 a2 a3 a4 a5 a6 => ?_⟩
  exact lv_pop G.1 G.2.1 hd (rel_cat.trans hc) (k.2.2 K g0 h0 p l e R s m args below meth c G r1 r2 g H locs LS a1 a2 a3 a4 a5 a6.2)
theorem J_if_eq {x : Int32} {off : Int} (tgt : Nat) (hd : decode Y.2.1 pc = .ok (.ifCond .eq off, 3)) (ht : (pc : Int) + off = (tgt : Int)) (kt : x = 0 → JP Φ d Y tgt ls st h o h') (kf : ¬ (x = 0) → JP Φ d Y (pc + 3) ls st h o h') : JP Φ d Y pc ls (.int x :: st) h o h' := by
  refine ⟨(Classical.em (x = 0)).elim (fun q => (kt q).1) (fun q => (kf q).1), (Classical.em (x = 0)).elim (fun q => (kt q).2.1) (fun q => (kf q).2.1), fun K g0 h0 p l e R s m args below meth c G r1 r2 g H locs LS a1 a2 a3 a4 a5 a6 => ?_⟩
  exact lv_if_eq G.1 G.2.1 hd ht (fun q => ((kt q).2.2 K g0 h0 p l e R s m args below meth c G r1 r2 g H locs LS a1 a2 a3 a4 a5 a6.2)) (fun q => ((kf q).2.2 K g0 h0 p l e R s m args below meth c G r1 r2 g H locs LS a1 a2 a3 a4 a5 a6.2))
theorem J_icmp_eq {x y : Int32} {off : Int} (tgt : Nat) (hd : decode Y.2.1 pc = .ok (.if_icmp .eq off, 3)) (ht : (pc : Int) + off = (tgt : Int)) (kt : x = y → JP Φ d Y tgt ls st h o h') (kf : ¬ (x = y) → JP Φ d Y (pc + 3) ls st h o h') : JP Φ d Y pc ls (.int y :: .int x :: st) h o h' := by
  refine ⟨(Classical.em (x = y)).elim (fun q => (kt q).1) (fun q => (kf q).1), (Classical.em (x = y)).elim (fun q => (kt q).2.1) (fun q => (kf q).2.1), fun K g0 h0 p l e R s m args below meth c G r1 r2 g H locs LS a1 a2 a3 a4 a5 a6 => ?_⟩
  exact lv_icmp_eq G.1 G.2.1 hd ht (fun q => ((kt q).2.2 K g0 h0 p l e R s m args below meth c G r1 r2 g H locs LS a1 a2 a3 a4 a5 a6.2.2)) (fun q => ((kf q).2.2 K g0 h0 p l e R s m args below meth c G r1 r2 g H locs LS a1 a2 a3 a4 a5 a6.2.2))
theorem J_if_ne {x : Int32} {off : Int} (tgt : Nat) (hd : decode Y.2.1 pc = .ok (.ifCond .ne off, 3)) (ht : (pc : Int) + off = (tgt : Int)) (kt : ¬ x = 0 → JP Φ d Y tgt ls st h o h') (kf : x = 0 → JP Φ d Y (pc + 3) ls st h o h') : JP Φ d Y pc ls (.int x :: st) h o h' := by
  refine ⟨(Classical.em (x = 0)).elim (fun q => (kf q).1) (fun q => (kt q).1), (Classical.em (x = 0)).elim (fun q => (kf q).2.1) (fun q => (kt q).2.1), fun K g0 h0 p l e R s m args below meth c G r1 r2 g H locs LS a1 a2 a3 a4 a5 a6 => ?_⟩
  exact lv_if_ne G.1 G.2.1 hd ht (fun q => ((kt q).2.2 K g0 h0 p l e R s m args below meth c G r1 r2 g H locs LS a1 a2 a3 a4 a5 a6.2)) (fun q => ((kf q).2.2 K g0 h0 p l e R s m args below meth c G r1 r2 g H locs LS a1 a2 a3 a4 a5 a6.2))
theorem J_icmp_ne {x y : Int32} {off : Int} (tgt : Nat) (hd : decode Y.2.1 pc = .ok (.if_icmp .ne off, 3)) (ht : (pc : Int) + off = (tgt : Int)) (kt : ¬ x = y → JP Φ d Y tgt ls st h o h') (kf : x = y → JP Φ d Y (pc + 3) ls st h o h') : JP Φ d Y pc ls (.int y :: .int x :: st) h o h' := by
  refine ⟨(Classical.em (x = y)).elim (fun q => (kf q).1) (fun q => (kt q).1), (Classical.em (x = y)).elim (fun q => (kf q).2.1) (fun q => (kt q).2.1), fun K g0 h0 p l e R s m args below meth c G r1 r2 g H locs LS a1 a2 a3 a4 a5 a6 => ?_⟩
  exact lv_icmp_ne G.1 G.2.1 hd ht (fun q => ((kt q).2.2 K g0 h0 p l e R s m args below meth c G r1 r2 g H locs LS a1 a2 a3 a4 a5 a6.2.2)) (fun q => ((kf q).2.2 K g0 h0 p l e R s m args below meth c G r1 r2 g H locs LS a1 a2 a3 a4 a5 a6.2.2))
theorem J_if_lt {x : Int32} {off : Int} (tgt : Nat) (hd : decode Y.2.1 pc = .ok (.ifCond .lt off, 3)) (ht : (pc : Int) + off = (tgt : Int)) (kt : x < 0 → JP Φ d Y tgt ls st h o h') (kf : ¬ (x < 0) → JP Φ d Y (pc + 3) ls st h o h') : JP Φ d Y pc ls (.int x :: st) h o h' := by
  refine ⟨(Classical.em (x < 0)).elim (fun q => (kt q).1) (fun q => (kf q).1), (Classical.em (x < 0)).elim (fun q => (kt q).2.1) (fun q => (kf q).2.1), fun K g0 h0 p l e R s m args below meth c G r1 r2 g H locs LS a1 a2 a3 a4 a5 a6 => ?_⟩
  exact lv_if_lt G.1 G.2.1 hd ht (fun q => ((kt q).2.2 K g0 h0 p l e R s m args below meth c G r1 r2 g H locs LS a1 a2 a3 a4 a5 a6.2)) (fun q => ((kf q).2.2 K g0 h0 p l e R s m args below meth c G r1 r2 g H locs LS a1 a2 a3 a4 a5 a6.2))
theorem J_icmp_lt {x y : Int32} {off : Int} (tgt : Nat) (hd : decode Y.2.1 pc = .ok (.if_icmp .lt off, 3)) (ht : (pc : Int) + off = (tgt : Int)) (kt : x < y → JP Φ d Y tgt ls st h o h') (kf : ¬ (x < y) → JP Φ d Y (pc + 3) ls st h o h') : JP Φ d Y pc ls (.int y :: .int x :: st) h o h' := by
  refine ⟨(Classical.em (x < y)).elim (fun q => (kt q).1) (fun q => (kf q).1), (Classical.em (x < y)).elim (fun q => (kt q).2.1) (fun q => (kf q).2.1), fun K g0 h0 p l e R s m args below meth c G r1 r2 g H locs LS a1 a2 a3 a4 a5 a6 => ?_⟩
  exact lv_icmp_lt G.1 G.2.1 hd ht (fun q => ((kt q).2.2 K g0 h0 p l e R s m args below meth c G r1 r2 g H locs LS a1 a2 a3 a4 a5 a6.2.2)) (fun q => ((kf q).2.2 K g0 h0 p l e R s m args below meth c G r1 r2 g H locs LS a1 a2 a3 a4 a5 a6.2.2))
theorem J_if_ge {x : Int32} {off : Int} (tgt : Nat) (hd : decode Y.2.1 pc = .ok (.ifCond .ge off, 3)) (ht : (pc : Int) + off = (tgt : Int)) (kt : 0 ≤ x → JP Φ d Y tgt ls st h o h') (kf : ¬ (0 ≤ x) → JP Φ d Y (pc + 3) ls st h o h') : JP Φ d Y pc ls (.int x :: st) h o h' := by
  refine ⟨(Classical.em (0 ≤ x)).elim (fun q => (kt q).1) (fun q => (kf q).1), (Classical.em (0 ≤ x)).elim (fun q => (kt q).2.1) (fun q => (kf q).2.1), fun K g0 h0 p l e R s m args below meth c G r1 r2 g H locs LS a1 a2 a3 a4 a5 a6 => ?_⟩
  exact lv_if_ge G.1 G.2.1 hd ht (fun q => ((kt q).2.2 K g0 h0 p l e R s m args below meth c G r1 r2 g H locs LS a1 a2 a3 a4 a5 a6.2)) (fun q => ((kf q).2.2 K g0 h0 p l e R s m args below meth c G r1 r2 g H locs LS a1 a2 a3 a4 a5 a6.2))
theorem J_icmp_ge {x y : Int32} {off : Int} (tgt : Nat) (hd : decode Y.2.1 pc = .ok (.if_icmp .ge off, 3)) (ht : (pc : Int) + off = (tgt : Int)) (kt : y ≤ x → JP Φ d Y tgt ls st h o h') (kf : ¬ (y ≤ x) → JP Φ d Y (pc + 3) ls st h o h') : JP Φ d Y pc ls (.int y :: .int x :: st) h o h' := by
  refine ⟨(Classical.em (y ≤ x)).elim (fun q => (kt q).1) (fun q => (kf q).1), (Classical.em (y ≤ x)).elim (fun q => (kt q).2.1) (fun q => (kf q).2.1), fun K g0 h0 p l e R s m args below meth c G r1 r2 g H locs LS a1 a2 a3 a4 a5 a6 => ?_⟩
  exact lv_icmp_ge G.1 G.2.1 hd ht (fun q => ((kt q).2.2 K g0 h0 p l e R s m args below meth c G r1 r2 g H locs LS a1 a2 a3 a4 a5 a6.2.2)) (fun q => ((kf q).2.2 K g0 h0 p l e R s m args below meth c G r1 r2 g H locs LS a1 a2 a3 a4 a5 a6.2.2))
theorem J_if_gt {x : Int32} {off : Int} (tgt : Nat) (hd : decode Y.2.1 pc = .ok (.ifCond .gt off, 3)) (ht : (pc : Int) + off = (tgt : Int)) (kt : 0 < x → JP Φ d Y tgt ls st h o h') (kf : ¬ (0 < x) → JP Φ d Y (pc + 3) ls st h o h') : JP Φ d Y pc ls (.int x :: st) h o h' := by
  refine ⟨(Classical.em (0 < x)).elim (fun q => (kt q).1) (fun q => (kf q).1), (Classical.em (0 < x)).elim (fun q => (kt q).2.1) (fun q => (kf q).2.1), fun K g0 h0 p l e R s m args below meth c G r1 r2 g H locs LS a1 a2 a3 a4 a5 a6 => ?_⟩
  exact lv_if_gt G.1 G.2.1 hd ht (fun q => ((kt q).2.2 K g0 h0 p l e R s m args below meth c G r1 r2 g H locs LS a1 a2 a3 a4 a5 a6.2)) (fun q => ((kf q).2.2 K g0 h0 p l e R s m args below meth c G r1 r2 g H locs LS a1 a2 a3 a4 a5 a6.2))
theorem J_icmp_gt {x y : Int32} {off : Int} (tgt : Nat) (hd : decode Y.2.1 pc = .ok (.if_icmp .gt off, 3)) (ht : (pc : Int) + off = (tgt : Int)) (kt : y < x → JP Φ d Y tgt ls st h o h') (kf : ¬ (y < x) → JP Φ d Y (pc + 3) ls st h o h') : JP Φ d Y pc ls (.int y :: .int x :: st) h o h' := by
  refine ⟨(Classical.em (y < x)).elim (fun q => (kt q).1) (fun q => (kf q).1), (Classical.em (y < x)).elim (fun q => (kt q).2.1) (fun q => (kf q).2.1), fun K g0 h0 p l e R s m args below meth c G r1 r2 g H locs LS a1 a2 a3 a4 a5 a6 => ?_⟩
  exact lv_icmp_gt G.1 G.2.1 hd ht (fun q => ((kt q).2.2 K g0 h0 p l e R s m args below meth c G r1 r2 g H locs LS a1 a2 a3 a4 a5 a6.2.2)) (fun q => ((kf q).2.2 K g0 h0 p l e R s m args below meth c G r1 r2 g H locs LS a1 a2 a3 a4 a5 a6.2.2))
theorem J_if_le {x : Int32} {off : Int} (tgt : Nat) (hd : decode Y.2.1 pc = .ok (.ifCond .le off, 3)) (ht : (pc : Int) + off = (tgt : Int)) (kt : x ≤ 0 → JP Φ d Y tgt ls st h o h') (kf : ¬ (x ≤ 0) → JP Φ d Y (pc + 3) ls st h o h') : JP Φ d Y pc ls (.int x :: st) h o h' := by
  refine ⟨(Classical.em (x ≤ 0)).elim (fun q => (kt q).1) (fun q => (kf q).1), (Classical.em (x ≤ 0)).elim (fun q => (kt q).2.1) (fun q => (kf q).2.1), fun K g0 h0 p l e R s m args below meth c G r1 r2 g H locs LS a1 a2 a3 a4 a5 a6 => ?_⟩
  exact lv_if_le G.1 G.2.1 hd ht (fun q => ((kt q).2.2 K g0 h0 p l e R s m args below meth c G r1 r2 g H locs LS a1 a2 a3 a4 a5 a6.2)) (fun q => ((kf q).2.2 K g0 h0 p l e R s m args below meth c G r1 r2 g H locs LS a1 a2 a3 a4 a5 a6.2))
theorem J_icmp_le {x y : Int32} {off : Int} (tgt : Nat) (hd : decode Y.2.1 pc = .ok (.if_icmp .le off, 3)) (ht : (pc : Int) + off = (tgt : Int)) (kt : x ≤ y → JP Φ d Y tgt ls st h o h') (kf : ¬ (x ≤ y) → JP Φ d Y (pc + 3) ls st h o h') : JP Φ d Y pc ls (.int y :: .int x :: st) h o h' := by
  refine ⟨(Classical.em (x ≤ y)).elim (fun q => (kt q).1) (fun q => (kf q).1), (Classical.em (x ≤ y)).elim (fun q => (kt q).2.1) (fun q => (kf q).2.1), fun K g0 h0 p l e R s m args below meth c G r1 r2 g H locs LS a1 a2 a3 a4 a5 a6 => ?_⟩
  exact lv_icmp_le G.1 G.2.1 hd ht (fun q => ((kt q).2.2 K g0 h0 p l e R s m args below meth c G r1 r2 g H locs LS a1 a2 a3 a4 a5 a6.2.2)) (fun q => ((kf q).2.2 K g0 h0 p l e R s m args below meth c G r1 r2 g H locs LS a1 a2 a3 a4 a5 a6.2.2))
theorem J_goto {off : Int} (tgt : Nat) (hd : decode Y.2.1 pc = .ok (.goto off, 3)) (ht : (pc : Int) + off = (tgt : Int)) (k : JP Φ d Y tgt ls st h o h') : JP Φ d Y pc ls st h o h' := by
  refine ⟨k.1, k.2.1, fun K g0 h0 p l e R s m args below meth c G r1 r2 g H locs LS a1 a2 a3 a4 a5 a6 => ?_⟩
  exact lv_goto G.1 G.2.1 hd ht (k.2.2 K g0 h0 p l e R s m args below meth c G r1 r2 g H locs LS a1 a2 a3 a4 a5 a6)
theorem J_tabIn {dflt lo hi : Int} {offs : Array Int} {len : Nat} {x : Int32} {off : Int} (tgt : Nat) (hd : decode Y.2.1 pc = .ok (.tableswitch dflt lo hi offs, len)) (h1 : ¬ x.toInt < lo) (h2 : ¬ hi < x.toInt) (ho : offs[(x.toInt - lo).toNat]? = some off) (ht : (pc : Int) + off = (tgt : Int)) (k : JP Φ d Y tgt ls st h o h') : JP Φ d Y pc ls (.int x :: st) h o h' := by
  refine ⟨k.1, k.2.1, fun K g0 h0 p l e R s m args below meth c G r1 r2 g H locs LS a1 a2 a3 a4 a5 a6 => ?_⟩
  exact lv_tableIn G.1 G.2.1 hd h1 h2 ho ht (k.2.2 K g0 h0 p l e R s m args below meth c G r1 r2 g H locs LS a1 a2 a3 a4 a5 a6.2)
theorem J_tabOut {dflt lo hi : Int} {offs : Array Int} {len : Nat} {x : Int32} (tgt : Nat) (hd : decode Y.2.1 pc = .ok (.tableswitch dflt lo hi offs, len)) (h1 : x.toInt < lo ∨ hi < x.toInt) (ht : (pc : Int) + dflt = (tgt : Int)) (k : JP Φ d Y tgt ls st h o h') : JP Φ d Y pc ls (.int x :: st) h o h' := by
  refine ⟨k.1, k.2.1, fun K g0 h0 p l e R s m args below meth c G r1 r2 g H locs LS a1 a2 a3 a4 a5 a6 => ?_⟩
  exact lv_tableOut G.1 G.2.1 hd h1 ht (k.2.2 K g0 h0 p l e R s m args below meth c G r1 r2 g H locs LS a1 a2 a3 a4 a5 a6.2)
theorem J_ifnull {r : Nat} {off : Int} (tgt : Nat) (hd : decode Y.2.1 pc = .ok (.ifnull off, 3)) (ht : (pc : Int) + off = (tgt : Int)) (kt : r = 0 → JP Φ d Y tgt ls st h o h') (kf : ¬ r = 0 → JP Φ d Y (pc + 3) ls st h o h') : JP Φ d Y pc ls (.ref r :: st) h o h' := by
  refine ⟨(Classical.em (r = 0)).elim (fun q => (kt q).1) (fun q => (kf q).1), (Classical.em (r = 0)).elim (fun q => (kt q).2.1) (fun q => (kf q).2.1), fun K g0 h0 p l e R s m args below meth c G r1 r2 g H locs LS a1 a2 a3 a4 a5 a6 => ?_⟩
  exact lvg_ifnull G.1 G.2.1 hd ht (fun q => ((kt q).2.2 K g0 h0 p l e R s m args below meth c G r1 r2 g H locs LS a1 a2 a3 a4 a5 a6.2)) (fun q => ((kf q).2.2 K g0 h0 p l e R s m args below meth c G r1 r2 g H locs LS a1 a2 a3 a4 a5 a6.2))
theorem J_ifnonnull {r : Nat} {off : Int} (tgt : Nat) (hd : decode Y.2.1 pc = .ok (.ifnonnull off, 3)) (ht : (pc : Int) + off = (tgt : Int)) (kt : ¬ r = 0 → JP Φ d Y tgt ls st h o h') (kf : r = 0 → JP Φ d Y (pc + 3) ls st h o h') : JP Φ d Y pc ls (.ref r :: st) h o h' := by
  refine ⟨(Classical.em (r = 0)).elim (fun q => (kf q).1) (fun q => (kt q).1), (Classical.em (r = 0)).elim (fun q => (kf q).2.1) (fun q => (kt q).2.1), fun K g0 h0 p l e R s m args below meth c G r1 r2 g H locs LS a1 a2 a3 a4 a5 a6 => ?_⟩
  exact lvg_ifnonnull G.1 G.2.1 hd ht (fun q => ((kt q).2.2 K g0 h0 p l e R s m args below meth c G r1 r2 g H locs LS a1 a2 a3 a4 a5 a6.2)) (fun q => ((kf q).2.2 K g0 h0 p l e R s m args below meth c G r1 r2 g H locs LS a1 a2 a3 a4 a5 a6.2))
end
