/-! RULES: fields and arrays -/
theorem kd_rI (h : Hp) (a : Nat) (f : Nat → Int32) : kd (rI h a f) = kd h := rfl
theorem ln_rI (h : Hp) (a : Nat) (f : Nat → Int32) : ln (rI h a f) = ln h := rfl
theorem gP_rI (h : Hp) (a : Nat) (f : Nat → Int32) : gP (rI h a f) = gP h := rfl
theorem gI_rI (h : Hp) (a : Nat) (f : Nat → Int32) (b : Nat) : gI (rI h a f) b = if b = a then f else gI h b := rfl
theorem kd_rP (h : Hp) (a : Nat) (f : Nat → Nat) : kd (rP h a f) = kd h := rfl
theorem ln_rP (h : Hp) (a : Nat) (f : Nat → Nat) : ln (rP h a f) = ln h := rfl
theorem gI_rP (h : Hp) (a : Nat) (f : Nat → Nat) : gI (rP h a f) = gI h := rfl
theorem gP_rP (h : Hp) (a : Nat) (f : Nat → Nat) (b : Nat) : gP (rP h a f) b = if b = a then f else gP h b := rfl
theorem cellE_congr {g : Gh} {h h' : Hp} {b : Nat} (h1 : kd h' b = kd h b) (h2 : ln h' b = ln h b) (h3 : gI h' b = gI h b) (h4 : gP h' b = gP h b) : cellE g h' b = cellE g h b := by
  have e : ∀ c, fldV g h' c b = fldV g h c b := fun c => by funext k; simp only [fldV, h3, h4]
  simp only [cellE, h1, h2, h3, h4, e]
theorem cellE_obj {g : Gh} {h : Hp} {a c : Nat} (hk : kd h a = c) (hc : c < 12) : cellE g h a = .inr (c, (List.range (nF c)).map (fldV g h c a)) := by
  subst hk
  simp [cellE, hc]
theorem cellE_int {g : Gh} {h : Hp} {a k : Nat} (hk : kd h a = k) (h1 : 20 ≤ k) (h2 : k < 23) : cellE g h a = .inl ((g a).2, ln h a, .inl (gI h a)) := by
  subst hk
  simp only [cellE]
  rw [if_neg (by omega), if_neg (by omega), if_pos (by omega)]
theorem cellE_long {g : Gh} {h : Hp} {a : Nat} (hk : kd h a = 23) : cellE g h a = .inl ((g a).2, ln h a, .inr (.inl (fun i => (gI h a i).toInt64))) := by
  simp only [cellE, hk]
  rw [if_neg (by omega), if_pos trivial]
theorem cellE_ref {g : Gh} {h : Hp} {a k : Nat} (hk : kd h a = k) (h1 : 24 ≤ k) : cellE g h a = .inl ((g a).2, ln h a, .inr (.inr (.inr (.inr (fun i => rp g (gP h a i)))))) := by
  subst hk
  simp only [cellE]
  rw [if_neg (by omega), if_neg (by omega), if_neg (by omega)]
theorem map_set {α : Type} (f : Nat → α) (n k : Nat) (v : α) : ((List.range n).map f).set k v = (List.range n).map (va_up f k v) := by
  apply List.ext_getElem?
  intro j
  rw [List.getElem?_set]
  by_cases hj : j < n
  · by_cases q : k = j
    · subst q; simp [hj, va_up]
    · have q2 : ¬ j = k := fun z => q z.symm
      simp [q, hj, va_up, q2]
  · by_cases q : k = j
    · subst q; simp [hj]
    · simp [q, hj]
theorem map_get {α : Type} (f : Nat → α) {n k : Nat} (h : k < n) : ((List.range n).map f)[k]? = some (f k) := by simp [h]
theorem K1 {K : Kc} {s : State} {cA : ClassId} {ty : FieldType} (hK : Ks K s) (h : ArrOfT s cA ty ∧ va_RA s cA ty) : va_K K.1 vwCl [(cA, ty)] s := ⟨hK.1.1, fun k q hq => by
  have hk : k = 0 := by
    have hz : k < 1 := (List.getElem?_eq_some_iff.mp hq).1
    omega
  subst hk
  cases hq
  exact h⟩
theorem Wf_rI {h : Hp} {r : Nat} {f : Nat → Int32} (w : Wf h) (hf : kd h r = 21 → ∀ i, fits .byte (.int (f i)) = true) : Wf (rI h r f) := ⟨w.1, w.2.1, fun a i hk => by
  rw [gI_rI]
  by_cases q : a = r
  · rw [if_pos q]; exact hf (q ▸ hk) i
  · rw [if_neg q]; exact w.2.2 a i hk⟩
theorem Wf_rP {h : Hp} {r : Nat} {f : Nat → Nat} (w : Wf h) (hf : ∀ i, f i ≤ sz h) : Wf (rP h r f) := ⟨w.1, fun a i => by
  rw [gP_rP]
  by_cases q : a = r
  · rw [if_pos q]; exact hf i
  · rw [if_neg q]; exact w.2.1 a i, w.2.2⟩
/-- the world with another row of numbers, of an array or of an object -/
theorem wsOf_rI {g : Gh} {h : Hp} {r : Nat} {f : Nat → Int32} {e : va_E} (h1 : 1 ≤ r) (h2 : r ≤ sz h) (he : cellE g (rI h r f) r = e) : (wsOf g h).set (r - 1) ((g r).1, e) = wsOf g (rI h r f) :=
  wsOf_set h1 rfl he (fun b hb => cellE_congr rfl rfl (by rw [gI_rI, if_neg hb]) rfl)
theorem wsOf_rP {g : Gh} {h : Hp} {r : Nat} {f : Nat → Nat} {e : va_E} (h1 : 1 ≤ r) (h2 : r ≤ sz h) (he : cellE g (rP h r f) r = e) : (wsOf g h).set (r - 1) ((g r).1, e) = wsOf g (rP h r f) :=
  wsOf_set h1 rfl he (fun b hb => cellE_congr rfl rfl rfl (by rw [gP_rP, if_neg hb]))
def FLs (own : String) (c k idx : Nat) : Prop := c < 12 ∧ k < nF c ∧ Cond.fieldLink own idx (FT c k).1 (FT c k).2.1 (FT c k).2.2.1 ∈ lw_tbl
theorem fits_ref {ty : FieldType} (h : ty.isReference = true) {v : Value} (hv : v = .null ∨ ∃ a, v = .ref a) : narrow ty v = v ∧ fits ty v = true := by
  rcases hv with rfl | ⟨a, rfl⟩ <;> cases ty <;> first | (cases h; done) | exact ⟨rfl, rfl⟩
section
variable {Φ : Kc → State → Code → Prop} {d pc : Nat} {Y : Mt} {ls st : List Value} {h h' : Hp} {o : Oc}
theorem J_getI {idx r : Nat} (c k : Nat) (hd : decode Y.2.1 pc = .ok (.getfield idx, 3)) (hk : kd h r = c) (hf : FLs Y.1.cls c k idx) (hr : refF c k = false) (kk : JP Φ d Y (pc + 3) ls (.int (gI h r k) :: st) h o h') : JP Φ d Y pc ls (.ref r :: st) h o h' := by
  refine ⟨kk.1, kk.2.1, fun K g0 h0 p l e R s m args below meth c0 G r1 r2 g H locs LS a1 a2 a3 a4 a5 a6 => ?_⟩
  obtain ⟨c1, c2, c3⟩ := hf
  have hb := a2.2.2.1.1 r (by omega)
  have hg := wsOf_get (g := g) hb.1 hb.2
  rw [cellE_obj hk c1] at hg
  obtain ⟨q1, q2, q3, q4⟩ := clsF c c1
  rw [List.map_cons, rel_1 (by omega)]
  refine va_get (C := FC c) (T := FT c) (N := nF c) (ci := c) (Ts := gWs) G.1 G.2.1 G.2.2.2.2.2.1 q2 G.2.2.2.2.1 G.2.2.2.2.2.2.2.2.2.2.2.2.1 a2.1 (r - 1) hg q1 k c2 (G.2.2.2.2.2.1 _ (List.mem_filter.mpr ⟨c3, rfl⟩)) (fun _ hx => hx) (map_get _ c2) hd ?_
  have e : fldV g h c r k = rel K.2.1 g (.int (gI h r k)) := by simp [fldV, hr, rel]
  rw [e]
  exact kk.2.2 K g0 h0 p l _ R s m args below meth c0 G r1 r2 g H locs LS a1 a2 a3 a4 a5 ⟨trivial, a6.2⟩
theorem J_getP {idx r : Nat} (c k : Nat) (hd : decode Y.2.1 pc = .ok (.getfield idx, 3)) (hk : kd h r = c) (hf : FLs Y.1.cls c k idx) (hr : refF c k = true) (kk : JP Φ d Y (pc + 3) ls (.ref (gP h r k) :: st) h o h') : JP Φ d Y pc ls (.ref r :: st) h o h' := by
  refine ⟨kk.1, kk.2.1, fun K g0 h0 p l e R s m args below meth c0 G r1 r2 g H locs LS a1 a2 a3 a4 a5 a6 => ?_⟩
  obtain ⟨c1, c2, c3⟩ := hf
  have hb := a2.2.2.1.1 r (by omega)
  have hg := wsOf_get (g := g) hb.1 hb.2
  rw [cellE_obj hk c1] at hg
  obtain ⟨q1, q2, q3, q4⟩ := clsF c c1
  rw [List.map_cons, rel_1 (by omega)]
  refine va_get (C := FC c) (T := FT c) (N := nF c) (ci := c) (Ts := gWs) G.1 G.2.1 G.2.2.2.2.2.1 q2 G.2.2.2.2.1 G.2.2.2.2.2.2.2.2.2.2.2.2.1 a2.1 (r - 1) hg q1 k c2 (G.2.2.2.2.2.1 _ (List.mem_filter.mpr ⟨c3, rfl⟩)) (fun _ hx => hx) (map_get _ c2) hd ?_
  have e : fldV g h c r k = rel K.2.1 g (.ref (gP h r k)) := by simp [fldV, hr, rel]
  rw [e]
  exact kk.2.2 K g0 h0 p l _ R s m args below meth c0 G r1 r2 g H locs LS a1 a2 a3 a4 a5 ⟨a2.2.2.1.2.1 r k, a6.2⟩
theorem sI_obj {g : Gh} {h : Hp} {r c k : Nat} {v : Int32} (hk : kd h r = c) (hc : c < 12) (hr : refF c k = false) : cellE g (sI h r k v) r = .inr (c, ((List.range (nF c)).map (fldV g h c r)).set k (.int v)) := by
  rw [cellE_obj (h := sI h r k v) hk hc, map_set]
  congr 3
  funext j
  simp only [fldV, sI, gI_rI, if_pos, gP_rI, va_up]
  by_cases q : j = k
  · subst q; simp [hr]
  · simp [q]
theorem sP_obj {sa : Nat → Nat} {g : Gh} {h : Hp} {r c k v : Nat} (hk : kd h r = c) (hc : c < 12) (hr : refF c k = true) : cellE g (sP h r k v) r = .inr (c, ((List.range (nF c)).map (fldV g h c r)).set k (rel sa g (.ref v))) := by
  rw [cellE_obj (h := sP h r k v) hk hc, map_set]
  congr 3
  funext j
  simp only [fldV, sP, gI_rP, if_pos, gP_rP, va_up]
  by_cases q : j = k
  · subst q; simp [hr, rel]
  · simp [q]
theorem J_putI {idx r : Nat} {v : Int32} (c k : Nat) (hd : decode Y.2.1 pc = .ok (.putfield idx, 3)) (hk : kd h r = c) (hf : FLs Y.1.cls c k idx) (hr : refF c k = false) (hn : (FT c k).2.2.2 = false) (hv : narrow (tyF c k) (.int v) = .int v ∧ fits (tyF c k) (.int v) = true) (kk : JP Φ d Y (pc + 3) ls st (sI h r k v) o h') : JP Φ d Y pc ls (.int v :: .ref r :: st) h o h' := by
  refine ⟨kk.1, kk.2.1, fun K g0 h0 p l e R s m args below meth c0 G r1 r2 g H locs LS a1 a2 a3 a4 a5 a6 => ?_⟩
  obtain ⟨c1, c2, c3⟩ := hf
  have hb := a2.2.2.1.1 r (by omega)
  have hg := wsOf_get (g := g) hb.1 hb.2
  rw [cellE_obj hk c1] at hg
  obtain ⟨q1, q2, q3, q4⟩ := clsF c c1
  rw [List.map_cons, List.map_cons, rel_1 (by omega)]
  refine va_put (C := FC c) (T := FT c) (N := nF c) (ci := c) (Ts := gWs) (v := .int v) G.1 G.2.1 G.2.2.2.2.2.1 q2 (tyF c) q3 q4 G.2.2.2.2.1 G.2.2.2.2.2.2.2.2.2.2.2.2.1 a2.1 a2.2.1 a3 (r - 1) hg q1 k c2 (G.2.2.2.2.2.1 _ (List.mem_filter.mpr ⟨c3, rfl⟩)) (fun _ hx => hx) hn (q3 k c2) hv.1 hv.2 (by simp [c2]) hd (fun H1 locs1 hP1 hD1 hS1 => ?_)
  rw [wsOf_rI hb.1 hb.2 (sI_obj hk c1 hr)] at hP1 hD1
  exact kk.2.2 K g0 h0 p l _ R s m args below meth c0 G r1 r2 g H1 locs1 LS a1 ⟨hP1, hD1, Wf_rI a2.2.2.1 (fun z => by omega), a2.2.2.2⟩ hS1 a4 a5 a6.2.2
theorem J_putP {idx r v : Nat} (c k : Nat) (hd : decode Y.2.1 pc = .ok (.putfield idx, 3)) (hk : kd h r = c) (hf : FLs Y.1.cls c k idx) (hr : refF c k = true) (hn : (FT c k).2.2.2 = false) (kk : JP Φ d Y (pc + 3) ls st (sP h r k v) o h') : JP Φ d Y pc ls (.ref v :: .ref r :: st) h o h' := by
  refine ⟨kk.1, kk.2.1, fun K g0 h0 p l e R s m args below meth c0 G r1 r2 g H locs LS a1 a2 a3 a4 a5 a6 => ?_⟩
  obtain ⟨c1, c2, c3⟩ := hf
  have hb := a2.2.2.1.1 r (by omega)
  have hg := wsOf_get (g := g) hb.1 hb.2
  rw [cellE_obj hk c1] at hg
  obtain ⟨q1, q2, q3, q4⟩ := clsF c c1
  rw [List.map_cons, List.map_cons, rel_1 (r := r) (by omega)]
  have hv := fits_ref hr (rel_ref (sa := K.2.1) (g := g) (r := v))
  refine va_put (C := FC c) (T := FT c) (N := nF c) (ci := c) (Ts := gWs) (v := rel K.2.1 g (.ref v)) G.1 G.2.1 G.2.2.2.2.2.1 q2 (tyF c) q3 q4 G.2.2.2.2.1 G.2.2.2.2.2.2.2.2.2.2.2.2.1 a2.1 a2.2.1 a3 (r - 1) hg q1 k c2 (G.2.2.2.2.2.1 _ (List.mem_filter.mpr ⟨c3, rfl⟩)) (fun _ hx => hx) hn (q3 k c2) hv.1 hv.2 (by simp [c2]) hd (fun H1 locs1 hP1 hD1 hS1 => ?_)
  rw [wsOf_rP hb.1 hb.2 (sP_obj hk c1 hr)] at hP1 hD1
  exact kk.2.2 K g0 h0 p l _ R s m args below meth c0 G r1 r2 g H1 locs1 LS a1 ⟨hP1, hD1, Wf_rP a2.2.2.1 (fun i => by simp only [va_up]; split; exact a6.1; exact a2.2.2.1.2.1 r i), a2.2.2.2⟩ hS1 a4 a5 a6.2.2
theorem J_putPF {idx r v : Nat} (c k : Nat) (hd : decode Y.2.1 pc = .ok (.putfield idx, 3)) (hk : kd h r = c) (hf : FLs Y.1.cls c k idx) (hr : refF c k = true) (hn : (FT c k).2.2.2 = true) (hi : Y.1.name = "<init>") (ho : (FT c k).1 = Y.1.cls) (kk : JP Φ d Y (pc + 3) ls st (sP h r k v) o h') : JP Φ d Y pc ls (.ref v :: .ref r :: st) h o h' := by
  refine ⟨kk.1, kk.2.1, fun K g0 h0 p l e R s m args below meth c0 G r1 r2 g H locs LS a1 a2 a3 a4 a5 a6 => ?_⟩
  obtain ⟨c1, c2, c3⟩ := hf
  have hb := a2.2.2.1.1 r (by omega)
  have hg := wsOf_get (g := g) hb.1 hb.2
  rw [cellE_obj hk c1] at hg
  obtain ⟨q1, q2, q3, q4⟩ := clsF c c1
  rw [List.map_cons, List.map_cons, rel_1 (r := r) (by omega)]
  have hv := fits_ref hr (rel_ref (sa := K.2.1) (g := g) (r := v))
  refine va_putF (C := FC c) (T := FT c) (N := nF c) (ci := c) (Ts := gWs) (v := rel K.2.1 g (.ref v)) G.1 G.2.1 G.2.2.2.2.2.1 q2 (tyF c) q3 q4 G.2.2.2.2.1 G.2.2.2.2.2.2.2.2.2.2.2.2.1 a2.1 a2.2.1 a3 (r - 1) hg q1 k c2 (G.2.2.2.2.2.1 _ (List.mem_filter.mpr ⟨c3, rfl⟩)) (fun _ hx => hx) hn (G.2.2.2.2.2.2.2.2.1.trans hi) ho (q3 k c2) hv.1 hv.2 (by simp [c2]) hd (fun H1 locs1 hP1 hD1 hS1 => ?_)
  rw [wsOf_rP hb.1 hb.2 (sP_obj hk c1 hr)] at hP1 hD1
  exact kk.2.2 K g0 h0 p l _ R s m args below meth c0 G r1 r2 g H1 locs1 LS a1 ⟨hP1, hD1, Wf_rP a2.2.2.1 (fun i => by simp only [va_up]; split; exact a6.1; exact a2.2.2.1.2.1 r i), a2.2.2.2⟩ hS1 a4 a5 a6.2.2
end
section
variable {Φ : Kc → State → Code → Prop} {d pc : Nat} {Y : Mt} {ls st : List Value} {h h' : Hp} {o : Oc}
theorem J_iald {r : Nat} {i : Int32} (hd : decode Y.2.1 pc = .ok (.iaload, 1)) (hk : kd h r = 20) (hi : vp_in i (ln h r)) (kk : JP Φ d Y (pc + 1) ls (.int (gI h r i.toNatClampNeg) :: st) h o h') : JP Φ d Y pc ls (.int i :: .ref r :: st) h o h' := by
  refine ⟨kk.1, kk.2.1, fun K g0 h0 p l e R s m args below meth c0 G r1 r2 g H locs LS a1 a2 a3 a4 a5 a6 => ?_⟩
  have hb := a2.2.2.1.1 r (by omega)
  have hg := wsOf_get (g := g) hb.1 hb.2
  rw [cellE_int hk (by omega) (by omega)] at hg
  rw [List.map_cons, List.map_cons, rel_1 (r := r) (by omega)]
  exact va_iald (tys := [((g r).2, .int)]) G.1 G.2.1 (K1 G.2.2.2.2.2.2.2.2.2.2.2.2 (by have z := a2.2.2.2 r (by omega) (by omega); rw [hk] at z; exact z)) a2.1 (r - 1) 0 hg rfl hi hd (kk.2.2 K g0 h0 p l _ R s m args below meth c0 G r1 r2 g H locs LS a1 a2 a3 a4 a5 ⟨trivial, a6.2.2⟩)
theorem J_bald {r : Nat} {i : Int32} (hd : decode Y.2.1 pc = .ok (.baload, 1)) (hk : kd h r = 21) (hi : vp_in i (ln h r)) (kk : JP Φ d Y (pc + 1) ls (.int (gI h r i.toNatClampNeg) :: st) h o h') : JP Φ d Y pc ls (.int i :: .ref r :: st) h o h' := by
  refine ⟨kk.1, kk.2.1, fun K g0 h0 p l e R s m args below meth c0 G r1 r2 g H locs LS a1 a2 a3 a4 a5 a6 => ?_⟩
  have hb := a2.2.2.1.1 r (by omega)
  have hg := wsOf_get (g := g) hb.1 hb.2
  rw [cellE_int hk (by omega) (by omega)] at hg
  rw [List.map_cons, List.map_cons, rel_1 (r := r) (by omega)]
  exact va_bald (tys := [((g r).2, .byte)]) G.1 G.2.1 (K1 G.2.2.2.2.2.2.2.2.2.2.2.2 (by have z := a2.2.2.2 r (by omega) (by omega); rw [hk] at z; exact z)) a2.1 (r - 1) 0 hg rfl hi hd (kk.2.2 K g0 h0 p l _ R s m args below meth c0 G r1 r2 g H locs LS a1 a2 a3 a4 a5 ⟨trivial, a6.2.2⟩)
theorem J_zald {r : Nat} {i : Int32} (hd : decode Y.2.1 pc = .ok (.baload, 1)) (hk : kd h r = 22) (hi : vp_in i (ln h r)) (kk : JP Φ d Y (pc + 1) ls (.int (gI h r i.toNatClampNeg) :: st) h o h') : JP Φ d Y pc ls (.int i :: .ref r :: st) h o h' := by
  refine ⟨kk.1, kk.2.1, fun K g0 h0 p l e R s m args below meth c0 G r1 r2 g H locs LS a1 a2 a3 a4 a5 a6 => ?_⟩
  have hb := a2.2.2.1.1 r (by omega)
  have hg := wsOf_get (g := g) hb.1 hb.2
  rw [cellE_int hk (by omega) (by omega)] at hg
  rw [List.map_cons, List.map_cons, rel_1 (r := r) (by omega)]
  exact va_zald (tys := [((g r).2, .boolean)]) G.1 G.2.1 (K1 G.2.2.2.2.2.2.2.2.2.2.2.2 (by have z := a2.2.2.2 r (by omega) (by omega); rw [hk] at z; exact z)) a2.1 (r - 1) 0 hg rfl hi hd (kk.2.2 K g0 h0 p l _ R s m args below meth c0 G r1 r2 g H locs LS a1 a2 a3 a4 a5 ⟨trivial, a6.2.2⟩)
theorem J_lald {r : Nat} {i : Int32} (hd : decode Y.2.1 pc = .ok (.laload, 1)) (hk : kd h r = 23) (hi : vp_in i (ln h r)) (kk : JP Φ d Y (pc + 1) ls (.long (gI h r i.toNatClampNeg).toInt64 :: st) h o h') : JP Φ d Y pc ls (.int i :: .ref r :: st) h o h' := by
  refine ⟨kk.1, kk.2.1, fun K g0 h0 p l e R s m args below meth c0 G r1 r2 g H locs LS a1 a2 a3 a4 a5 a6 => ?_⟩
  have hb := a2.2.2.1.1 r (by omega)
  have hg := wsOf_get (g := g) hb.1 hb.2
  rw [cellE_long hk] at hg
  rw [List.map_cons, List.map_cons, rel_1 (r := r) (by omega)]
  exact va_lald (tys := [((g r).2, .long)]) G.1 G.2.1 (K1 G.2.2.2.2.2.2.2.2.2.2.2.2 (by have z := a2.2.2.2 r (by omega) (by omega); rw [hk] at z; exact z)) a2.1 (r - 1) 0 hg rfl hi hd (kk.2.2 K g0 h0 p l _ R s m args below meth c0 G r1 r2 g H locs LS a1 a2 a3 a4 a5 ⟨trivial, a6.2.2⟩)
theorem J_iast {r : Nat} {i x : Int32} (hd : decode Y.2.1 pc = .ok (.iastore, 1)) (hk : kd h r = 20) (hi : vp_in i (ln h r)) (kk : JP Φ d Y (pc + 1) ls st (sI h r i.toNatClampNeg (x)) o h') : JP Φ d Y pc ls (.int x :: .int i :: .ref r :: st) h o h' := by
  refine ⟨kk.1, kk.2.1, fun K g0 h0 p l e R s m args below meth c0 G r1 r2 g H locs LS a1 a2 a3 a4 a5 a6 => ?_⟩
  have hb := a2.2.2.1.1 r (by omega)
  have hg := wsOf_get (g := g) hb.1 hb.2
  rw [cellE_int hk (by omega) (by omega)] at hg
  rw [List.map_cons, List.map_cons, List.map_cons, rel_1 (r := r) (by omega)]
  refine va_iast (tys := [((g r).2, .int)]) G.1 G.2.1 (K1 G.2.2.2.2.2.2.2.2.2.2.2.2 (by have z := a2.2.2.2 r (by omega) (by omega); rw [hk] at z; exact z)) a2.1 a2.2.1 a3 (r - 1) 0 hg rfl hi hd (fun H1 locs1 hP1 hD1 hS1 => ?_)
  have e : cellE g (sI h r i.toNatClampNeg (x)) r = .inl ((g r).2, ln h r, .inl (upd (gI h r) i.toNatClampNeg (x))) := by
    rw [cellE_int (h := sI h r i.toNatClampNeg (x)) hk (by omega) (by omega)]
    simp only [sI, gI_rI, if_pos, ln_rI]
    rfl
  rw [wsOf_rI hb.1 hb.2 e] at hP1 hD1
  exact kk.2.2 K g0 h0 p l _ R s m args below meth c0 G r1 r2 g H1 locs1 LS a1 ⟨hP1, hD1, Wf_rI a2.2.2.1 (fun z => by omega), a2.2.2.2⟩ hS1 a4 a5 a6.2.2.2
theorem J_bast {r : Nat} {i x : Int32} (hd : decode Y.2.1 pc = .ok (.bastore, 1)) (hk : kd h r = 21) (hi : vp_in i (ln h r)) (kk : JP Φ d Y (pc + 1) ls st (sI h r i.toNatClampNeg (vp_nar .byte x)) o h') : JP Φ d Y pc ls (.int x :: .int i :: .ref r :: st) h o h' := by
  refine ⟨kk.1, kk.2.1, fun K g0 h0 p l e R s m args below meth c0 G r1 r2 g H locs LS a1 a2 a3 a4 a5 a6 => ?_⟩
  have hb := a2.2.2.1.1 r (by omega)
  have hg := wsOf_get (g := g) hb.1 hb.2
  rw [cellE_int hk (by omega) (by omega)] at hg
  rw [List.map_cons, List.map_cons, List.map_cons, rel_1 (r := r) (by omega)]
  refine va_bast (tys := [((g r).2, .byte)]) G.1 G.2.1 (K1 G.2.2.2.2.2.2.2.2.2.2.2.2 (by have z := a2.2.2.2 r (by omega) (by omega); rw [hk] at z; exact z)) a2.1 a2.2.1 a3 (r - 1) 0 hg rfl hi hd (fun H1 locs1 hP1 hD1 hS1 => ?_)
  have e : cellE g (sI h r i.toNatClampNeg (vp_nar .byte x)) r = .inl ((g r).2, ln h r, .inl (upd (gI h r) i.toNatClampNeg (vp_nar .byte x))) := by
    rw [cellE_int (h := sI h r i.toNatClampNeg (vp_nar .byte x)) hk (by omega) (by omega)]
    simp only [sI, gI_rI, if_pos, ln_rI]
    rfl
  rw [wsOf_rI hb.1 hb.2 e] at hP1 hD1
  exact kk.2.2 K g0 h0 p l _ R s m args below meth c0 G r1 r2 g H1 locs1 LS a1 ⟨hP1, hD1, Wf_rI a2.2.2.1 (fun _ j => by simp only [va_up]; split; rw [vp_nar_byte]; exact pk_fb _; exact a2.2.2.1.2.2 r j hk), a2.2.2.2⟩ hS1 a4 a5 a6.2.2.2
theorem J_zast {r : Nat} {i x : Int32} (hd : decode Y.2.1 pc = .ok (.bastore, 1)) (hk : kd h r = 22) (hi : vp_in i (ln h r)) (kk : JP Φ d Y (pc + 1) ls st (sI h r i.toNatClampNeg (vp_nar .boolean x)) o h') : JP Φ d Y pc ls (.int x :: .int i :: .ref r :: st) h o h' := by
  refine ⟨kk.1, kk.2.1, fun K g0 h0 p l e R s m args below meth c0 G r1 r2 g H locs LS a1 a2 a3 a4 a5 a6 => ?_⟩
  have hb := a2.2.2.1.1 r (by omega)
  have hg := wsOf_get (g := g) hb.1 hb.2
  rw [cellE_int hk (by omega) (by omega)] at hg
  rw [List.map_cons, List.map_cons, List.map_cons, rel_1 (r := r) (by omega)]
  refine va_zast (tys := [((g r).2, .boolean)]) G.1 G.2.1 (K1 G.2.2.2.2.2.2.2.2.2.2.2.2 (by have z := a2.2.2.2 r (by omega) (by omega); rw [hk] at z; exact z)) a2.1 a2.2.1 a3 (r - 1) 0 hg rfl hi hd (fun H1 locs1 hP1 hD1 hS1 => ?_)
  have e : cellE g (sI h r i.toNatClampNeg (vp_nar .boolean x)) r = .inl ((g r).2, ln h r, .inl (upd (gI h r) i.toNatClampNeg (vp_nar .boolean x))) := by
    rw [cellE_int (h := sI h r i.toNatClampNeg (vp_nar .boolean x)) hk (by omega) (by omega)]
    simp only [sI, gI_rI, if_pos, ln_rI]
    rfl
  rw [wsOf_rI hb.1 hb.2 e] at hP1 hD1
  exact kk.2.2 K g0 h0 p l _ R s m args below meth c0 G r1 r2 g H1 locs1 LS a1 ⟨hP1, hD1, Wf_rI a2.2.2.1 (fun z => by omega), a2.2.2.2⟩ hS1 a4 a5 a6.2.2.2
theorem J_last {r : Nat} {i x : Int32} (hd : decode Y.2.1 pc = .ok (.lastore, 1)) (hk : kd h r = 23) (hi : vp_in i (ln h r)) (kk : JP Φ d Y (pc + 1) ls st (sI h r i.toNatClampNeg x) o h') : JP Φ d Y pc ls (.long x.toInt64 :: .int i :: .ref r :: st) h o h' := by
  refine ⟨kk.1, kk.2.1, fun K g0 h0 p l e R s m args below meth c0 G r1 r2 g H locs LS a1 a2 a3 a4 a5 a6 => ?_⟩
  have hb := a2.2.2.1.1 r (by omega)
  have hg := wsOf_get (g := g) hb.1 hb.2
  rw [cellE_long hk] at hg
  rw [List.map_cons, List.map_cons, List.map_cons, rel_1 (r := r) (by omega)]
  refine va_last (tys := [((g r).2, .long)]) (x := x.toInt64) G.1 G.2.1 (K1 G.2.2.2.2.2.2.2.2.2.2.2.2 (by have z := a2.2.2.2 r (by omega) (by omega); rw [hk] at z; exact z)) a2.1 a2.2.1 a3 (r - 1) 0 hg rfl hi hd (fun H1 locs1 hP1 hD1 hS1 => ?_)
  have e : cellE g (sI h r i.toNatClampNeg x) r = .inl ((g r).2, ln h r, .inr (.inl (vp_updL (fun j => (gI h r j).toInt64) i.toNatClampNeg x.toInt64))) := by
    rw [cellE_long (h := sI h r i.toNatClampNeg x) hk]
    simp only [sI, gI_rI, if_pos, ln_rI]
    have e9 : (fun j => (va_up (gI h r) i.toNatClampNeg x j).toInt64) = vp_updL (fun j => (gI h r j).toInt64) i.toNatClampNeg x.toInt64 := by
      funext j
      simp only [va_up, vp_updL]
      split <;> rfl
    rw [e9]
  rw [wsOf_rI hb.1 hb.2 e] at hP1 hD1
  exact kk.2.2 K g0 h0 p l _ R s m args below meth c0 G r1 r2 g H1 locs1 LS a1 ⟨hP1, hD1, Wf_rI a2.2.2.1 (fun z => by omega), a2.2.2.2⟩ hS1 a4 a5 a6.2.2.2
theorem kty_ref {k : Nat} (h1 : 24 ≤ k) : (kty k).isReference = true := by
  match k, h1 with
  | 24, _ => rfl
  | 25, _ => rfl
  | 26, _ => rfl
  | 27, _ => rfl
  | n + 28, _ => rfl
theorem J_aald {r : Nat} {i : Int32} (hd : decode Y.2.1 pc = .ok (.aaload, 1)) (hk : 24 ≤ kd h r) (hk2 : kd h r ≤ 28) (hi : vp_in i (ln h r)) (kk : JP Φ d Y (pc + 1) ls (.ref (gP h r i.toNatClampNeg) :: st) h o h') : JP Φ d Y pc ls (.int i :: .ref r :: st) h o h' := by
  refine ⟨kk.1, kk.2.1, fun K g0 h0 p l e R s m args below meth c0 G r1 r2 g H locs LS a1 a2 a3 a4 a5 a6 => ?_⟩
  have hb := a2.2.2.1.1 r (by omega)
  have hg := wsOf_get (g := g) hb.1 hb.2
  rw [cellE_ref rfl hk] at hg
  rw [List.map_cons, List.map_cons, rel_1 (r := r) (by omega)]
  have hlt : i.toNatClampNeg < ln h r := Nat.not_le.mp fun q => hi (Or.inr q)
  refine W.aald (v := va_rf (rp g (gP h r i.toNatClampNeg))) (ty := kty (kd h r)) G.1 G.2.1 (a2.1 (r - 1) _ hg) ((a2.2.2.2 r (by omega) hk2).1 (ln h r) (fun j => va_rf (rp g (gP h r j)))) (kty_ref hk) (fun q => by cases q) (by show ¬ (i < 0 ∨ (arrV _ _ _).slots.size ≤ _); rw [arrV_size]; exact hi) (by show (arrV _ _ _).slots[_]? = _; rw [arrV_read _ _ hlt]) rfl rfl hd ?_
  exact kk.2.2 K g0 h0 p l _ R s m args below meth c0 G r1 r2 g H locs LS a1 a2 a3 a4 a5 ⟨a2.2.2.1.2.1 r _, a6.2.2⟩
theorem elK_ok {k : Nat} (h1 : 25 ≤ k) : elK k < 12 ∧ kty k = .object (FC (elK k)) := by
  match k, h1 with
  | 25, _ => exact ⟨by decide, rfl⟩
  | 26, _ => exact ⟨by decide, rfl⟩
  | 27, _ => exact ⟨by decide, rfl⟩
  | n + 28, _ => exact ⟨by show 7 < 12; decide, rfl⟩
theorem sP_arr {g : Gh} {h : Hp} {r i v k : Nat} (hk : kd h r = k) (h1 : 24 ≤ k) : cellE g (sP h r i v) r = .inl ((g r).2, ln h r, .inr (.inr (.inr (.inr (va_up (fun j => rp g (gP h r j)) i (rp g v)))))) := by
  rw [cellE_ref (h := sP h r i v) hk h1]
  simp only [sP, gP_rP, if_pos, ln_rP]
  have e9 : (fun j => rp g (va_up (gP h r) i v j)) = va_up (fun j => rp g (gP h r j)) i (rp g v) := by
    funext j
    simp only [va_up]
    split <;> rfl
  rw [e9]
theorem J_aast {r v : Nat} {i : Int32} (hd : decode Y.2.1 pc = .ok (.aastore, 1)) (hk : 25 ≤ kd h r) (hk2 : kd h r ≤ 28) (hv : kd h v = elK (kd h r)) (hi : vp_in i (ln h r)) (kk : JP Φ d Y (pc + 1) ls st (sP h r i.toNatClampNeg v) o h') : JP Φ d Y pc ls (.ref v :: .int i :: .ref r :: st) h o h' := by
  refine ⟨kk.1, kk.2.1, fun K g0 h0 p l e R s m args below meth c0 G r1 r2 g H locs LS a1 a2 a3 a4 a5 a6 => ?_⟩
  have hb := a2.2.2.1.1 r (by omega)
  have hg := wsOf_get (g := g) hb.1 hb.2
  rw [cellE_ref rfl (by omega)] at hg
  obtain ⟨e1, e2⟩ := elK_ok hk
  have hb2 := a2.2.2.1.1 v (by omega)
  have hg2 := wsOf_get (g := g) hb2.1 hb2.2
  rw [cellE_obj hv e1] at hg2
  have hq := (clsF _ e1).1
  have z := a2.2.2.2 r (by omega) hk2
  rw [e2] at z
  rw [List.map_cons, List.map_cons, List.map_cons, rel_1 (r := r) (by omega), rel_1 (r := v) (by omega)]
  refine va_astq (tys := [((g r).2, .object (FC (elK (kd h r))))]) G.1 G.2.1 (K1 G.2.2.2.2.2.2.2.2.2.2.2.2 z) a2.1 a2.2.1 a3 (r - 1) 0 (v - 1) (elK (kd h r)) hg rfl hg2 hq hi hd (fun H1 locs1 hP1 hD1 hS1 => ?_)
  have e : cellE g (sP h r i.toNatClampNeg v) r = .inl ((g r).2, ln h r, .inr (.inr (.inr (.inr (va_up (fun j => rp g (gP h r j)) i.toNatClampNeg (some (g v).1)))))) := by
    rw [sP_arr rfl (by omega)]
    simp only [rp]
    rw [if_neg (by omega)]
  rw [wsOf_rP hb.1 hb.2 e] at hP1 hD1
  exact kk.2.2 K g0 h0 p l _ R s m args below meth c0 G r1 r2 g H1 locs1 LS a1 ⟨hP1, hD1, Wf_rP a2.2.2.1 (fun j => by simp only [va_up]; split; exact a6.1; exact a2.2.2.1.2.1 r j), a2.2.2.2⟩ hS1 a4 a5 a6.2.2.2
theorem J_alen {r : Nat} (hd : decode Y.2.1 pc = .ok (.arraylength, 1)) (hk : 20 ≤ kd h r) (hk2 : kd h r ≤ 28) (kk : JP Φ d Y (pc + 1) ls (.int (nI (ln h r)) :: st) h o h') : JP Φ d Y pc ls (.ref r :: st) h o h' := by
  refine ⟨kk.1, kk.2.1, fun K g0 h0 p l e R s m args below meth c0 G r1 r2 g H locs LS a1 a2 a3 a4 a5 a6 => ?_⟩
  have hb := a2.2.2.1.1 r (by omega)
  have hg := wsOf_get (g := g) hb.1 hb.2
  have hx : ∃ x : vp_A, x.1 = ln h r ∧ cellE g h r = .inl ((g r).2, x) := by
    by_cases q1 : kd h r = 23
    · exact ⟨_, rfl, cellE_long q1⟩
    · by_cases q2 : kd h r < 23
      · exact ⟨_, rfl, cellE_int rfl hk q2⟩
      · exact ⟨_, rfl, cellE_ref rfl (by omega)⟩
  obtain ⟨x, x1, x2⟩ := hx
  rw [x2] at hg
  rw [List.map_cons, rel_1 (r := r) (by omega)]
  exact va_alen (tys := [((g r).2, kty (kd h r))]) G.1 G.2.1 (K1 G.2.2.2.2.2.2.2.2.2.2.2.2 (a2.2.2.2 r hk hk2)) a2.1 (r - 1) 0 hg rfl (by rw [x1]; rfl) hd (kk.2.2 K g0 h0 p l _ R s m args below meth c0 G r1 r2 g H locs LS a1 a2 a3 a4 a5 ⟨trivial, a6.2⟩)
theorem sz_alc (h : Hp) (k n : Nat) : sz (alc h k n) = sz h + 1 := rfl
theorem nc_alc (h : Hp) (k n : Nat) : nc (alc h k n) = nc h + 1 := rfl
theorem ns_alc (h : Hp) (k n : Nat) : ns (alc h k n) = ns h + n := rfl
theorem kd_alc (h : Hp) (k n b : Nat) : kd (alc h k n) b = if b = sz h + 1 then k else kd h b := rfl
theorem ln_alc (h : Hp) (k n b : Nat) : ln (alc h k n) b = if b = sz h + 1 then n else ln h b := rfl
theorem gI_alc (h : Hp) (k n b : Nat) : gI (alc h k n) b = if b = sz h + 1 then (fun _ => 0) else gI h b := rfl
theorem gP_alc (h : Hp) (k n b : Nat) : gP (alc h k n) b = if b = sz h + 1 then (fun _ => 0) else gP h b := rfl
theorem Wf_alc {h : Hp} {k n : Nat} (w : Wf h) : Wf (alc h k n) := ⟨fun a hk => by
  rw [kd_alc] at hk
  rw [sz_alc]
  by_cases q : a = sz h + 1
  · omega
  · rw [if_neg q] at hk; have := w.1 a hk; omega, fun a i => by
  rw [gP_alc, sz_alc]
  split
  · exact Nat.zero_le _
  · exact Nat.le_succ_of_le (w.2.1 a i), fun a i hk => by
  rw [kd_alc] at hk
  rw [gI_alc]
  by_cases q : a = sz h + 1
  · rw [if_pos q]; rfl
  · rw [if_neg q] at hk ⊢; exact w.2.2 a i hk⟩
def gpu (g : Gh) (n q : Nat) (cA : ClassId) : Gh := va_up g n (q, cA)
theorem gpu_ext {g : Gh} {n q : Nat} {cA : ClassId} : Ext n g (gpu g (n + 1) q cA) := fun a h1 h2 => by simp only [gpu, va_up]; rw [if_neg (by omega)]
theorem Ext.tr {n n' : Nat} {g g1 g2 : Gh} (h : Ext n g g1) (h2 : Ext n' g1 g2) (hn : n ≤ n') : Ext n g g2 := fun a q1 q2 => (h2 a q1 (by omega)).trans (h a q1 q2)
theorem cellE_ext {n : Nat} {g g' : Gh} {h : Hp} {b : Nat} (he : Ext n g g') (hb : g' b = g b) (hp : ∀ i, gP h b i ≤ n) : cellE g' h b = cellE g h b := by
  have e : ∀ c, fldV g' h c b = fldV g h c b := fun c => by funext k; simp only [fldV, rp_ext he (hp k)]
  have e2 : (fun i => rp g' (gP h b i)) = (fun i => rp g (gP h b i)) := by funext i; exact rp_ext he (hp i)
  simp only [cellE, e, e2, hb]
theorem wsOf_alc {g : Gh} {h : Hp} {q : Nat} {cA : ClassId} {k n : Nat} {e : va_E} (w : Wf h) (he : cellE (gpu g (sz h + 1) q cA) (alc h k n) (sz h + 1) = e) : wsOf g h ++ [(q, e)] = wsOf (gpu g (sz h + 1) q cA) (alc h k n) := by
  refine wsOf_push rfl (by simp [gpu, va_up]) he (fun b h1 h2 => ?_)
  have e1 : gpu g (sz h + 1) q cA b = g b := gpu_ext b h1 h2
  refine ⟨by rw [e1], ?_⟩
  have q : ¬ b = sz h + 1 := by omega
  rw [cellE_congr (h := h) (h' := alc h k n) (by rw [kd_alc, if_neg q]) (by rw [ln_alc, if_neg q]) (by rw [gI_alc, if_neg q]) (by rw [gP_alc, if_neg q])]
  exact cellE_ext gpu_ext e1 (w.2.1 b)
theorem ArO_alc {g : Gh} {h : Hp} {s : State} {q : Nat} {cA : ClassId} {k n : Nat} (w : Wf h) (ha : ArO g h s) (hn : 20 ≤ k → k ≤ 28 → ArrOfT s cA (kty k) ∧ va_RA s cA (kty k)) : ArO (gpu g (sz h + 1) q cA) (alc h k n) s := fun a h1 h2 => by
  rw [kd_alc] at h1 h2 ⊢
  by_cases z : a = sz h + 1
  · rw [if_pos z] at h1 h2 ⊢
    rw [z]
    simp only [gpu, va_up, if_pos]
    exact hn h1 h2
  · rw [if_neg z] at h1 h2 ⊢
    simp only [gpu, va_up]
    rw [if_neg z]
    exact ha a h1 h2
theorem bytes_ok {N : Nat} {ty : FieldType} (hb : N ≤ 10000000) : N * componentBytes ty ≤ 536870912 := by
  have h8 : componentBytes ty ≤ 8 := by cases ty <;> exact Nat.le_of_ble_eq_true rfl
  exact Nat.le_trans (Nat.mul_le_mul hb h8) (Nat.le_of_ble_eq_true rfl)
theorem J_newI {n : Int32} (N : Nat) (hd : decode Y.2.1 pc = .ok (.newarray .int, 2)) (hw : Cond.arrayClass .int ∈ lw_tbl) (hn : ¬ n < 0) (hN : n.toNatClampNeg = N) (hb : N ≤ 10000000) (kk : JP Φ d Y (pc + 2) ls (.ref (sz h + 1) :: st) (alc h 20 N) o h') : JP Φ d Y pc ls (.int n :: st) h o h' := by
  refine ⟨by have := kk.1; rw [nc_alc] at this; omega, by have := kk.2.1; rw [ns_alc] at this; omega, fun K g0 h0 p l e R s m args below meth c0 G r1 r2 g H locs LS a1 a2 a3 a4 a5 a6 => ?_⟩
  have k1 := kk.1
  have k2 := kk.2.1
  rw [nc_alc] at k1
  rw [ns_alc] at k2
  refine va_newa (atype := .int) (N' := N) (ty := .int) (a0 := (N, .inl (fun _ => 0))) G.1 G.2.1 (G.2.2.2.2.2.1 (.arrayClass .int) (List.mem_filter.mpr ⟨hw, rfl⟩)) rfl G.2.2.2.2.2.2.2.2.2.2.2.2.1 a2.1 a2.2.1 a3 (fun q hq => Nat.le_trans G.2.2.2.2.2.2.2.2.2.2.2.2.2.1 hq) (fun cA => rfl) hn hN (bytes_ok hb) (by omega) (by omega) hd (fun q cA H1 hK1 hP1 hD1 hS1 => ?_)
  have he : cellE (gpu g (sz h + 1) q cA) (alc h 20 N) (sz h + 1) = .inl (cA, (N, .inl (fun _ => 0))) := by
    rw [cellE_int (k := 20) (by rw [kd_alc, if_pos rfl]) (by omega) (by omega)]
    simp [gpu, va_up, ln_alc, gI_alc]
  rw [wsOf_alc a2.2.2.1 he] at hP1 hD1
  have hA1 := ArO_alc (q := q) (n := N) (k := 20) a2.2.2.1 a2.2.2.2 (fun _ _ => hK1.2 0 _ rfl)
  have z := kk.2.2 K g0 h0 p l e R s m args below meth c0 G r1 r2 (gpu g (sz h + 1) q cA) H1 locs LS ⟨by rw [nc_alc]; omega, by rw [ns_alc]; omega, by rw [sz_alc]; omega, a1.2.2.2.tr gpu_ext a1.2.2.1⟩ ⟨hP1, hD1, Wf_alc a2.2.2.1, hA1⟩ hS1 (by rw [kn_ext gpu_ext a5]; exact a4) (ok1_mono (Nat.le_succ _) a5) ⟨Nat.le_refl _, okS_mono (Nat.le_succ _) a6.2⟩
  rw [List.map_cons, map_ext gpu_ext a6.2, rel_1 (by omega), nc_alc, ns_alc, show nc h + 1 - nc h0 = nc h - nc h0 + 1 by omega, show ns h + N - ns h0 = ns h - ns h0 + N by omega] at z
  have e3 : (gpu g (sz h + 1) q cA (sz h + 1)).1 = q := by simp [gpu, va_up]
  rw [e3] at z
  exact z
theorem J_newB {n : Int32} (N : Nat) (hd : decode Y.2.1 pc = .ok (.newarray .byte, 2)) (hw : Cond.arrayClass .byte ∈ lw_tbl) (hn : ¬ n < 0) (hN : n.toNatClampNeg = N) (hb : N ≤ 10000000) (kk : JP Φ d Y (pc + 2) ls (.ref (sz h + 1) :: st) (alc h 21 N) o h') : JP Φ d Y pc ls (.int n :: st) h o h' := by
  refine ⟨by have := kk.1; rw [nc_alc] at this; omega, by have := kk.2.1; rw [ns_alc] at this; omega, fun K g0 h0 p l e R s m args below meth c0 G r1 r2 g H locs LS a1 a2 a3 a4 a5 a6 => ?_⟩
  have k1 := kk.1
  have k2 := kk.2.1
  rw [nc_alc] at k1
  rw [ns_alc] at k2
  refine va_newa (atype := .byte) (N' := N) (ty := .byte) (a0 := (N, .inl (fun _ => 0))) G.1 G.2.1 (G.2.2.2.2.2.1 (.arrayClass .byte) (List.mem_filter.mpr ⟨hw, rfl⟩)) rfl G.2.2.2.2.2.2.2.2.2.2.2.2.1 a2.1 a2.2.1 a3 (fun q hq => Nat.le_trans G.2.2.2.2.2.2.2.2.2.2.2.2.2.1 hq) (fun cA => rfl) hn hN (bytes_ok hb) (by omega) (by omega) hd (fun q cA H1 hK1 hP1 hD1 hS1 => ?_)
  have he : cellE (gpu g (sz h + 1) q cA) (alc h 21 N) (sz h + 1) = .inl (cA, (N, .inl (fun _ => 0))) := by
    rw [cellE_int (k := 21) (by rw [kd_alc, if_pos rfl]) (by omega) (by omega)]
    simp [gpu, va_up, ln_alc, gI_alc]
  rw [wsOf_alc a2.2.2.1 he] at hP1 hD1
  have hA1 := ArO_alc (q := q) (n := N) (k := 21) a2.2.2.1 a2.2.2.2 (fun _ _ => hK1.2 0 _ rfl)
  have z := kk.2.2 K g0 h0 p l e R s m args below meth c0 G r1 r2 (gpu g (sz h + 1) q cA) H1 locs LS ⟨by rw [nc_alc]; omega, by rw [ns_alc]; omega, by rw [sz_alc]; omega, a1.2.2.2.tr gpu_ext a1.2.2.1⟩ ⟨hP1, hD1, Wf_alc a2.2.2.1, hA1⟩ hS1 (by rw [kn_ext gpu_ext a5]; exact a4) (ok1_mono (Nat.le_succ _) a5) ⟨Nat.le_refl _, okS_mono (Nat.le_succ _) a6.2⟩
  rw [List.map_cons, map_ext gpu_ext a6.2, rel_1 (by omega), nc_alc, ns_alc, show nc h + 1 - nc h0 = nc h - nc h0 + 1 by omega, show ns h + N - ns h0 = ns h - ns h0 + N by omega] at z
  have e3 : (gpu g (sz h + 1) q cA (sz h + 1)).1 = q := by simp [gpu, va_up]
  rw [e3] at z
  exact z
theorem J_newZ {n : Int32} (N : Nat) (hd : decode Y.2.1 pc = .ok (.newarray .boolean, 2)) (hw : Cond.arrayClass .boolean ∈ lw_tbl) (hn : ¬ n < 0) (hN : n.toNatClampNeg = N) (hb : N ≤ 10000000) (kk : JP Φ d Y (pc + 2) ls (.ref (sz h + 1) :: st) (alc h 22 N) o h') : JP Φ d Y pc ls (.int n :: st) h o h' := by
  refine ⟨by have := kk.1; rw [nc_alc] at this; omega, by have := kk.2.1; rw [ns_alc] at this; omega, fun K g0 h0 p l e R s m args below meth c0 G r1 r2 g H locs LS a1 a2 a3 a4 a5 a6 => ?_⟩
  have k1 := kk.1
  have k2 := kk.2.1
  rw [nc_alc] at k1
  rw [ns_alc] at k2
  refine va_newa (atype := .boolean) (N' := N) (ty := .boolean) (a0 := (N, .inl (fun _ => 0))) G.1 G.2.1 (G.2.2.2.2.2.1 (.arrayClass .boolean) (List.mem_filter.mpr ⟨hw, rfl⟩)) rfl G.2.2.2.2.2.2.2.2.2.2.2.2.1 a2.1 a2.2.1 a3 (fun q hq => Nat.le_trans G.2.2.2.2.2.2.2.2.2.2.2.2.2.1 hq) (fun cA => rfl) hn hN (bytes_ok hb) (by omega) (by omega) hd (fun q cA H1 hK1 hP1 hD1 hS1 => ?_)
  have he : cellE (gpu g (sz h + 1) q cA) (alc h 22 N) (sz h + 1) = .inl (cA, (N, .inl (fun _ => 0))) := by
    rw [cellE_int (k := 22) (by rw [kd_alc, if_pos rfl]) (by omega) (by omega)]
    simp [gpu, va_up, ln_alc, gI_alc]
  rw [wsOf_alc a2.2.2.1 he] at hP1 hD1
  have hA1 := ArO_alc (q := q) (n := N) (k := 22) a2.2.2.1 a2.2.2.2 (fun _ _ => hK1.2 0 _ rfl)
  have z := kk.2.2 K g0 h0 p l e R s m args below meth c0 G r1 r2 (gpu g (sz h + 1) q cA) H1 locs LS ⟨by rw [nc_alc]; omega, by rw [ns_alc]; omega, by rw [sz_alc]; omega, a1.2.2.2.tr gpu_ext a1.2.2.1⟩ ⟨hP1, hD1, Wf_alc a2.2.2.1, hA1⟩ hS1 (by rw [kn_ext gpu_ext a5]; exact a4) (ok1_mono (Nat.le_succ _) a5) ⟨Nat.le_refl _, okS_mono (Nat.le_succ _) a6.2⟩
  rw [List.map_cons, map_ext gpu_ext a6.2, rel_1 (by omega), nc_alc, ns_alc, show nc h + 1 - nc h0 = nc h - nc h0 + 1 by omega, show ns h + N - ns h0 = ns h - ns h0 + N by omega] at z
  have e3 : (gpu g (sz h + 1) q cA (sz h + 1)).1 = q := by simp [gpu, va_up]
  rw [e3] at z
  exact z
theorem J_newL {n : Int32} (N : Nat) (hd : decode Y.2.1 pc = .ok (.newarray .long, 2)) (hw : Cond.arrayClass .long ∈ lw_tbl) (hn : ¬ n < 0) (hN : n.toNatClampNeg = N) (hb : N ≤ 10000000) (kk : JP Φ d Y (pc + 2) ls (.ref (sz h + 1) :: st) (alc h 23 N) o h') : JP Φ d Y pc ls (.int n :: st) h o h' := by
  refine ⟨by have := kk.1; rw [nc_alc] at this; omega, by have := kk.2.1; rw [ns_alc] at this; omega, fun K g0 h0 p l e R s m args below meth c0 G r1 r2 g H locs LS a1 a2 a3 a4 a5 a6 => ?_⟩
  have k1 := kk.1
  have k2 := kk.2.1
  rw [nc_alc] at k1
  rw [ns_alc] at k2
  refine va_newa (atype := .long) (N' := N) (ty := .long) (a0 := (N, .inr (.inl (fun _ => 0)))) G.1 G.2.1 (G.2.2.2.2.2.1 (.arrayClass .long) (List.mem_filter.mpr ⟨hw, rfl⟩)) rfl G.2.2.2.2.2.2.2.2.2.2.2.2.1 a2.1 a2.2.1 a3 (fun q hq => Nat.le_trans G.2.2.2.2.2.2.2.2.2.2.2.2.2.1 hq) (fun cA => rfl) hn hN (bytes_ok hb) (by omega) (by omega) hd (fun q cA H1 hK1 hP1 hD1 hS1 => ?_)
  have he : cellE (gpu g (sz h + 1) q cA) (alc h 23 N) (sz h + 1) = .inl (cA, (N, .inr (.inl (fun _ => 0)))) := by
    rw [cellE_long (by rw [kd_alc, if_pos rfl])]
    simp [gpu, va_up, ln_alc, gI_alc]
  rw [wsOf_alc a2.2.2.1 he] at hP1 hD1
  have hA1 := ArO_alc (q := q) (n := N) (k := 23) a2.2.2.1 a2.2.2.2 (fun _ _ => hK1.2 0 _ rfl)
  have z := kk.2.2 K g0 h0 p l e R s m args below meth c0 G r1 r2 (gpu g (sz h + 1) q cA) H1 locs LS ⟨by rw [nc_alc]; omega, by rw [ns_alc]; omega, by rw [sz_alc]; omega, a1.2.2.2.tr gpu_ext a1.2.2.1⟩ ⟨hP1, hD1, Wf_alc a2.2.2.1, hA1⟩ hS1 (by rw [kn_ext gpu_ext a5]; exact a4) (ok1_mono (Nat.le_succ _) a5) ⟨Nat.le_refl _, okS_mono (Nat.le_succ _) a6.2⟩
  rw [List.map_cons, map_ext gpu_ext a6.2, rel_1 (by omega), nc_alc, ns_alc, show nc h + 1 - nc h0 = nc h - nc h0 + 1 by omega, show ns h + N - ns h0 = ns h - ns h0 + N by omega] at z
  have e3 : (gpu g (sz h + 1) q cA (sz h + 1)).1 = q := by simp [gpu, va_up]
  rw [e3] at z
  exact z
theorem dflt_V (c j : Nat) (hc : c < 12) (hj : j < nF c) : defaultValue (tyF c j) = vp_V ((List.range (nF c)).map (fun k => if refF c k then Value.null else .int 0)) j := by
  simp only [vp_V, List.getD_eq_getElem?_getD, map_get _ hj, Option.getD_some]
  have h2 := dfl c hc
  exact h2 j hj
theorem J_new {idx : Nat} (c n : Nat) (hd : decode Y.2.1 pc = .ok (.new idx, 3)) (hc : c < 12) (hn : nF c = n) (hw1 : Cond.classLink Y.1.cls idx (FC c) ∈ lw_tbl) (hw2 : Cond.instantiable (FC c) (nF c) ∈ lw_tbl) (hw3 : Cond.initialized (FC c) ∈ lw_tbl) (kk : JP Φ d Y (pc + 3) ls (.ref (sz h + 1) :: st) (alc h c n) o h') : JP Φ d Y pc ls st h o h' := by
  subst hn
  refine ⟨by have := kk.1; rw [nc_alc] at this; omega, by have := kk.2.1; rw [ns_alc] at this; omega, fun K g0 h0 p l e R s m args below meth c0 G r1 r2 g H locs LS a1 a2 a3 a4 a5 a6 => ?_⟩
  have k1 := kk.1
  have k2 := kk.2.1
  rw [nc_alc] at k1
  rw [ns_alc] at k2
  obtain ⟨q1, q2, q3, q4⟩ := clsF c hc
  refine va_new (C := FC c) (T := FT c) (N := nF c) (ci := c) (Ts := gWs) (fs := (List.range (nF c)).map (fun k => if refF c k then Value.null else .int 0)) G.1 G.2.1 G.2.2.2.2.2.1 q2 (tyF c) q3 G.2.2.2.2.1 (G.2.2.2.2.2.1 _ (List.mem_filter.mpr ⟨hw1, rfl⟩)) (G.2.2.2.2.2.1 _ (List.mem_filter.mpr ⟨hw2, rfl⟩)) (G.2.2.2.2.2.1 _ (List.mem_filter.mpr ⟨hw3, rfl⟩)) G.2.2.2.2.2.2.2.2.2.2.2.2.1 a2.1 a2.2.1 a3 (fun q hq => Nat.le_trans G.2.2.2.2.2.2.2.2.2.2.2.2.2.1 hq) q1 (fun j hj => dflt_V c j hc hj) (by omega) (by omega) hd (fun q H1 hP1 hD1 hS1 => ?_)
  obtain ⟨cA, hcA⟩ : ∃ cA : ClassId, cA = 0 := ⟨0, rfl⟩
  have he : cellE (gpu g (sz h + 1) q cA) (alc h c (nF c)) (sz h + 1) = .inr (c, (List.range (nF c)).map (fun k => if refF c k then Value.null else .int 0)) := by
    rw [cellE_obj (c := c) (by rw [kd_alc, if_pos rfl]) hc]
    congr 3
    funext k
    simp only [fldV, gP_alc, gI_alc, if_pos]
    rfl
  rw [wsOf_alc a2.2.2.1 he] at hP1 hD1
  have hA1 := ArO_alc (q := q) (cA := cA) (n := nF c) (k := c) a2.2.2.1 a2.2.2.2 (fun z _ => by omega)
  have z := kk.2.2 K g0 h0 p l e R s m args below meth c0 G r1 r2 (gpu g (sz h + 1) q cA) H1 locs LS ⟨by rw [nc_alc]; omega, by rw [ns_alc]; omega, by rw [sz_alc]; omega, a1.2.2.2.tr gpu_ext a1.2.2.1⟩ ⟨hP1, hD1, Wf_alc a2.2.2.1, hA1⟩ hS1 (by rw [kn_ext gpu_ext a5]; exact a4) (ok1_mono (Nat.le_succ _) a5) ⟨Nat.le_refl _, okS_mono (Nat.le_succ _) a6⟩
  rw [List.map_cons, map_ext gpu_ext a6, rel_1 (by omega), nc_alc, ns_alc, show nc h + 1 - nc h0 = nc h - nc h0 + 1 by omega, show ns h + nF c - ns h0 = ns h - ns h0 + nF c by omega] at z
  have e3 : (gpu g (sz h + 1) q cA (sz h + 1)).1 = q := by simp [gpu, va_up]
  rw [e3] at z
  exact z
theorem J_anew {idx : Nat} {n : Int32} (k N : Nat) (hd : decode Y.2.1 pc = .ok (.anewarray idx, 3)) (hk : 25 ≤ k) (hk2 : k ≤ 28) (hw1 : Cond.classLink Y.1.cls idx (FC (elK k)) ∈ lw_tbl) (hn : ¬ n < 0) (hN : n.toNatClampNeg = N) (hb : N ≤ 10000000) (kk : JP Φ d Y (pc + 3) ls (.ref (sz h + 1) :: st) (alc h k N) o h') : JP Φ d Y pc ls (.int n :: st) h o h' := by
  refine ⟨by have := kk.1; rw [nc_alc] at this; omega, by have := kk.2.1; rw [ns_alc] at this; omega, fun K g0 h0 p l e R s m args below meth c0 G r1 r2 g H locs LS a1 a2 a3 a4 a5 a6 => ?_⟩
  have k1 := kk.1
  have k2 := kk.2.1
  rw [nc_alc] at k1
  rw [ns_alc] at k2
  obtain ⟨e1, e2⟩ := elK_ok hk
  refine va_newq (C := FC (elK k)) (N' := N) G.1 G.2.1 G.2.2.2.2.1 (G.2.2.2.2.2.1 _ (List.mem_filter.mpr ⟨hw1, rfl⟩)) (G.2.2.2.2.2.2.2.2.2.2.2.2.2.2.2.2.1 k hk) G.2.2.2.2.2.2.2.2.2.2.2.2.1 a2.1 a2.2.1 a3 (fun q hq => Nat.le_trans G.2.2.2.2.2.2.2.2.2.2.2.2.2.1 hq) hn hN (by omega) (by omega) (by omega) hd (fun q cA H1 hK1 hP1 hD1 hS1 => ?_)
  have he : cellE (gpu g (sz h + 1) q cA) (alc h k N) (sz h + 1) = .inl (cA, N, .inr (.inr (.inr (.inr (fun _ => none))))) := by
    rw [cellE_ref (k := k) (by rw [kd_alc, if_pos rfl]) (by omega)]
    simp [gpu, va_up, ln_alc, gP_alc, rp]
  rw [wsOf_alc a2.2.2.1 he] at hP1 hD1
  have hA1 := ArO_alc (q := q) (n := N) (k := k) a2.2.2.1 a2.2.2.2 (fun _ _ => by rw [e2]; exact hK1.2 0 _ rfl)
  have z := kk.2.2 K g0 h0 p l e R s m args below meth c0 G r1 r2 (gpu g (sz h + 1) q cA) H1 locs LS ⟨by rw [nc_alc]; omega, by rw [ns_alc]; omega, by rw [sz_alc]; omega, a1.2.2.2.tr gpu_ext a1.2.2.1⟩ ⟨hP1, hD1, Wf_alc a2.2.2.1, hA1⟩ hS1 (by rw [kn_ext gpu_ext a5]; exact a4) (ok1_mono (Nat.le_succ _) a5) ⟨Nat.le_refl _, okS_mono (Nat.le_succ _) a6.2⟩
  rw [List.map_cons, map_ext gpu_ext a6.2, rel_1 (by omega), nc_alc, ns_alc, show nc h + 1 - nc h0 = nc h - nc h0 + 1 by omega, show ns h + N - ns h0 = ns h - ns h0 + N by omega] at z
  have e3 : (gpu g (sz h + 1) q cA (sz h + 1)).1 = q := by simp [gpu, va_up]
  rw [e3] at z
  exact z
end
