/-! WHAT A METHOD DOES, TOLD OF NUMBERED CELLS: J (a frame at pc with locals ls and stack st in the world h comes to the outcome o in the world h'), CT (a call does) -/
abbrev Mt : Type := MethodName × ByteArray × Nat × Option FieldType
abbrev Kc : Type := va_G × (Nat → Nat) × Nat
abbrev Oc : Type := Option Value ⊕ Nat
def exN : Nat → String := fun k => match k with
  | 1 => "java/lang/IndexOutOfBoundsException"
  | 2 => "java/lang/IllegalArgumentException"
  | 3 => "java/lang/UnsupportedOperationException"
  | 4 => "java/util/NoSuchElementException"
  | _ => "java/lang/IllegalStateException"
def gWs : List Cond := lw_tbl.filter goodWord
def wsY (Y : Mt) : List Cond := .code Y.1 Y.2.1 Y.2.2.1 Y.2.2.2 :: gWs
def kA (K : Kc) : Nat → Prop := fun q => K.2.2 ≤ q
def elK (k : Nat) : Nat := match k with
  | 25 => 8
  | 26 => 4
  | 27 => 3
  | _ => 7
/-- words that are not good ones, but stay: of nest mates, of casts -/
def isNst : Cond → Bool
  | .methodLinkNest .. => true
  | .castable .. => true
  | .declares _ => true
  | _ => false
def nWs : List Cond := lw_tbl.filter isNst
/-- exceptions of which the first isn't a second -/
def ncL : List (String × String) := [(exN 2, exN 1), (exN 3, exN 1), (exN 4, exN 1), (exN 5, exN 1), (exN 3, exN 2), (exN 4, exN 2), (exN 5, exN 2), (exN 3, exN 5)]
/-- the texts of the String constants, and where they stand: class, place in its pool, text, number -/
def sTx : List (List Int32) := [[97, 110, 100], [97, 116], [98, 105, 116, 115], [99, 108, 111, 115, 101], [99, 111, 114, 114, 101, 99, 116, 101, 100], [100, 117, 101], [102, 97, 116], [102, 114, 101, 101], [104, 101, 97, 100], [105, 102], [108, 97, 116, 101], [108, 101, 116, 116, 101, 114, 115], [109, 97, 99, 104, 105, 110, 101], [109, 101, 97, 115, 117, 114, 101], [109, 105, 110, 117, 116, 101], [110, 111, 116], [111, 114], [112, 97, 114, 116], [112, 97, 121], [115, 112, 97, 99, 101], [119, 111, 114, 100, 115]]
def sTn : List Nat := [3, 2, 4, 5, 9, 3, 3, 4, 4, 2, 4, 7, 7, 7, 6, 3, 2, 4, 3, 5, 5]
def strL : List (String × Nat × String × Nat) := [("LeadRoom$StyleReader", 62, "measure", 13), ("LeadRoom$StyleReader", 72, "if", 9), ("LeadRoom$StyleReader", 77, "space", 19), ("LeadRoom$StyleReader", 82, "part", 17), ("LeadRoom$StyleReader", 84, "fat", 6), ("LeadRoom$StyleReader", 86, "pay", 18), ("LeadRoom$StyleReader", 88, "free", 7), ("LeadRoom$StyleReader", 94, "close", 3), ("LeadRoom$StyleReader", 102, "at", 1), ("LeadRoom$StyleReader", 106, "or", 16), ("LeadRoom$StyleReader", 115, "and", 0), ("LeadRoom$StyleReader", 117, "not", 15), ("LeadRoom$StyleReader", 126, "head", 8), ("LeadRoom$StyleReader", 128, "late", 10), ("LeadRoom$StyleReader", 130, "corrected", 4), ("LeadRoom$StyleReader", 132, "words", 20), ("LeadRoom$StyleReader", 134, "bits", 2), ("LeadRoom$StyleReader", 136, "due", 5), ("LeadRoom$StyleReader", 138, "minute", 14), ("LeadRoom$StyleReader", 140, "letters", 11), ("LeadRoom$StyleReader", 142, "machine", 12), ("LeadRoomModel", 187, "head", 8), ("LeadRoomModel", 193, "late", 10), ("LeadRoomModel", 195, "corrected", 4), ("LeadRoomModel", 197, "words", 20), ("LeadRoomModel", 199, "bits", 2), ("LeadRoomModel", 201, "due", 5), ("LeadRoomModel", 203, "minute", 14), ("LeadRoomModel", 205, "letters", 11), ("LeadRoomModel", 207, "machine", 12), ("LeadRoomModel", 209, "not", 15), ("LeadRoomModel", 236, "and", 0), ("LeadRoomModel", 241, "or", 16), ("LeadRoomModel", 243, "if", 9), ("LeadRoomModel", 248, "measure", 13), ("LeadRoomModel", 250, "space", 19), ("LeadRoomModel", 252, "part", 17), ("LeadRoomModel", 254, "fat", 6), ("LeadRoomModel", 256, "pay", 18), ("LeadRoomModel", 258, "free", 7), ("LeadRoomModel", 260, "close", 3), ("LeadRoomModel", 266, "at", 1)]
def sioD : String := "Ljava/util/function/BiFunction;"
/-- what stays of texts: the constants' objects and bytes (at 0.. and at 1000 + 0..), two statics -/
def Kt (K : Kc) (U : State) : Prop := (∃ adV : Nat → Nat, vk_S 21 sTn sTx K.2.1 adV (kA K) U U.heap ∧ ∀ k, k < 21 → K.2.1 (1000 + k) = adV k) ∧ (∀ q ∈ strL, vk_R q.1 q.2.1 q.2.2.1 (K.2.1 q.2.2.2) U) ∧
  va_Z "java/lang/String" "COMPACT_STRINGS" "Z" (.int 1) (kA K) U U.heap ∧ va_Z "jdk/internal/util/Preconditions" "SIOOBE_FORMATTER" sioD (if K.2.1 2001 = 0 then .null else .ref (K.2.1 2000)) (kA K) U U.heap
/-- what stays: the classes' numbers, where ours begin, the two statics of Throwable, the classes of arrays of objects -/
def Ks (K : Kc) (U : State) : Prop := va_K K.1 vwCl [] U ∧ K.2.2 ≤ U.heap.size ∧ vx_Zq Bundle.tN "UNASSIGNED_STACK" Bundle.steD (kA K) U U.heap ∧ vx_Zq Bundle.tN "SUPPRESSED_SENTINEL" Bundle.listD (kA K) U U.heap ∧
  (∀ k, 25 ≤ k → va_AO (FC (elK k)) U) ∧ (Cond.arrayOver (.array .int)).before #[] U = true ∧ (∀ w ∈ nWs, va_Nw w U) ∧ (∀ q ∈ ncL, va_Nc q.1 q.2 U) ∧ Kt K U
def okS (n : Nat) : List Value → Prop
  | [] => True
  | v :: r => okV n v ∧ okS n r
def ok1 (n : Nat) (ls : List Value) : Prop := ∀ v ∈ ls, okV n v ∧ v.category = 1
def Ext (n : Nat) (g g' : Gh) : Prop := ∀ a, 1 ≤ a → a ≤ n → g' a = g a
def Pct (K : Kc) (g : Gh) (as : List Value) (h : Hp) : Array Value → State → Prop := fun v U => v = (as.map (rel K.2.1 g)).toArray ∧ Wd K.1 g (kA K) h U U.heap ∧ Ks K U ∧ ok1 (sz h) as
def Qct (K : Kc) (g : Gh) (h : Hp) (o : Oc) (h' : Hp) : Array Value → State → Outcome → State → Prop := fun _ st oc t =>
  (∃ (v : Option Value) (g' : Gh), o = .inl v ∧ oc = .returned (v.map (rel K.2.1 g')) ∧ Ext (sz h) g g' ∧ Wd K.1 g' (kA K) h' t t.heap ∧ okS (sz h') v.toList ∧ sz h ≤ sz h') ∧ va_F (kA K) st t
def Xct (K : Kc) (g : Gh) (h : Hp) (o : Oc) (h' : Hp) : String → State → State → Prop := fun E st t =>
  (∃ (k : Nat) (g' : Gh), o = .inr k ∧ E = exN k ∧ Ext (sz h) g g' ∧ Wd K.1 g' (kA K) h' t t.heap ∧ sz h ≤ sz h') ∧ va_F (kA K) st t
def rmY (d mc ms : Nat) : Room := { frames := 6 * d + 12, cells := mc, slots := ms, locals := 100 * d + 300 }
def CT (d : Nat) (Y : Mt) (as : List Value) (h : Hp) (o : Oc) (h' : Hp) : Prop := nc h ≤ nc h' ∧ ns h ≤ ns h' ∧ ∀ (l : Launch) (K : Kc) (g : Gh), l.stackTraces = false →
  vx_Met l Y.1 (wsY Y) (rmY d (nc h' - nc h) (ns h' - ns h)) (Pct K g as h) (Qct K g h o h') (Xct K g h o h') (nc h' - nc h) (ns h' - ns h) (kA K)
def kn (sa : Nat → Nat) (g : Gh) (ls : List Value) : List (Nat × Value) := (List.range ls.length).filterMap (fun i => match ls[i]? with
  | some Value.null => none
  | some v => some (i, rel sa g v)
  | none => none)
def Gd (Φ : Kc → State → Code → Prop) (K : Kc) (d : Nat) (Y : Mt) (p : Program) (l : Launch) (R : Room) (s : State) (m : MethodId) (args : Array Value) (meth : Method) (c : Code) : Prop :=
  p.tables.exec = Jvm.exec ∧ c.code = Y.2.1 ∧ meth.sig.returnType = Y.2.2.2 ∧ c.maxLocals = Y.2.2.1 ∧ s.vm.findClass Y.1.cls = some m.cls ∧ (∀ w ∈ gWs, w.before args s = true) ∧ meth.locks = false ∧ Φ K s c ∧ meth.name = Y.1.name ∧ l.stackTraces = false ∧ 6 * d + 12 ≤ R.frames ∧ 100 * d + 300 ≤ R.locals ∧ Ks K s
def JP (Φ : Kc → State → Code → Prop) (d : Nat) (Y : Mt) (pc : Nat) (ls st : List Value) (h : Hp) (o : Oc) (h' : Hp) : Prop := nc h ≤ nc h' ∧ ns h ≤ ns h' ∧
  ∀ (K : Kc) (g0 : Gh) (h0 : Hp) (p : Program) (l : Launch) (e : Env) (R : Room) (s : State) (m : MethodId) (args : Array Value) (below : List Frame) (meth : Method) (c : Code),
    Gd Φ K d Y p l R s m args meth c → nc h0 + R.cells = nc h' → ns h0 + R.slots = ns h' →
    ∀ (g : Gh) (H : Heap) (locs : List Loc) (LS : Array Slot), nc h0 ≤ nc h ∧ ns h0 ≤ ns h ∧ sz h0 ≤ sz h ∧ Ext (sz h0) g0 g → Wd K.1 g (kA K) h s H → va_S (kA K) s.heap H locs → lv_has LS Y.2.2.1 (kn K.2.1 g ls) → ok1 (sz h) ls → okS (sz h) st →
      W p l e R s m args below meth c H locs (nc h - nc h0) (ns h - ns h0) (vx_MQ below (Qct K g0 h0 o h') (Xct K g0 h0 o h') args s R.cells R.slots (kA K)) (F0 m pc LS (st.map (rel K.2.1 g)))
/-- what a law's own methods know beside: nothing but that there is no handler -/
def PN : Kc → State → Code → Prop := fun _ _ c => ∀ x ∈ c.exceptionTable.toList, False
abbrev J (d : Nat) (Y : Mt) (pc : Nat) (ls st : List Value) (h : Hp) (o : Oc) (h' : Hp) : Prop := JP PN d Y pc ls st h o h'
theorem rel_cat {sa : Nat → Nat} {g : Gh} {v : Value} : (rel sa g v).category = v.category := by
  cases v with
  | ref r => simp only [rel, rp]; split <;> rfl
  | retAddr k => simp only [rel]; split; split <;> rfl; rfl
  | _ => rfl
theorem rp_ext {n r : Nat} {g g' : Gh} (he : Ext n g g') (h : r ≤ n) : rp g' r = rp g r := by
  simp only [rp]
  by_cases q : r = 0
  · simp [q]
  · rw [if_neg q, if_neg q, he r (by omega) h]
theorem rel_ext {n : Nat} {sa : Nat → Nat} {g g' : Gh} {v : Value} (he : Ext n g g') (h : okV n v) : rel sa g' v = rel sa g v := by
  cases v with
  | ref r => simp only [rel]; rw [rp_ext he h]
  | _ => rfl
theorem okV_mono {n n' : Nat} {v : Value} (hn : n ≤ n') (h : okV n v) : okV n' v := by
  cases v with
  | ref r => exact Nat.le_trans h hn
  | _ => trivial
theorem okS_mono {n n' : Nat} {st : List Value} (hn : n ≤ n') (h : okS n st) : okS n' st := by
  induction st with
  | nil => trivial
  | cons v r ih => exact ⟨okV_mono hn h.1, ih h.2⟩
theorem ok1_mono {n n' : Nat} {st : List Value} (hn : n ≤ n') (h : ok1 n st) : ok1 n' st := fun v hv => ⟨okV_mono hn (h v hv).1, (h v hv).2⟩
theorem map_ext {n : Nat} {sa : Nat → Nat} {g g' : Gh} {st : List Value} (he : Ext n g g') (h : okS n st) : st.map (rel sa g') = st.map (rel sa g) := by
  induction st with
  | nil => rfl
  | cons v r ih => simp only [List.map_cons, rel_ext he h.1, ih h.2]
theorem kn_ext {n : Nat} {sa : Nat → Nat} {g g' : Gh} {ls : List Value} (he : Ext n g g') (h : ok1 n ls) : kn sa g' ls = kn sa g ls := by
  simp only [kn]
  congr 1
  funext i
  cases hi : ls[i]? with
  | none => rfl
  | some v => cases v <;> first | rfl | (simp only; rw [rel_ext he (h _ (List.mem_of_getElem? hi)).1])
theorem kn_mem {sa : Nat → Nat} {g : Gh} {ls : List Value} {q : Nat × Value} : q ∈ kn sa g ls ↔ ∃ v, ls[q.1]? = some v ∧ v ≠ Value.null ∧ q.2 = rel sa g v := by
  simp only [kn, List.mem_filterMap, List.mem_range]
  constructor
  · rintro ⟨i, hi, h⟩
    obtain ⟨v, hv⟩ : ∃ v, ls[i]? = some v := ⟨ls[i], List.getElem?_eq_getElem hi⟩
    rw [hv] at h
    cases v <;> simp at h <;> (subst h; exact ⟨_, hv, by simp, rfl⟩)
  · rintro ⟨v, hv, hn, e⟩
    have hi : q.1 < ls.length := (List.getElem?_eq_some_iff.mp hv).1
    refine ⟨q.1, hi, ?_⟩
    rw [hv]
    obtain ⟨q1, q2⟩ := q
    simp only at e
    subst e
    cases v <;> simp at hn ⊢
theorem kn_at {sa : Nat → Nat} {g : Gh} {ls : List Value} {nL i : Nat} {v : Value} {LS : Array Slot} (h : lv_has LS nL (kn sa g ls)) (hv : ls[i]? = some v) (hn : v ≠ Value.null) : LS[i]? = some (.val (rel sa g v)) := h.2.2 (i, rel sa g v) (kn_mem.mpr ⟨v, hv, hn, rfl⟩)
theorem kn_sub {sa : Nat → Nat} {g : Gh} {ls ls' : List Value} {nL : Nat} {LS : Array Slot} (h : lv_has LS nL (kn sa g ls)) (hs : ∀ (i : Nat) (v : Value), ls'[i]? = some v → v ≠ Value.null → ls[i]? = some v) : lv_has LS nL (kn sa g ls') :=
  ⟨h.1, h.2.1, fun q hq => by obtain ⟨v, h1, h2, h3⟩ := kn_mem.mp hq; exact h.2.2 q (kn_mem.mpr ⟨v, hs _ _ h1 h2, h2, h3⟩)⟩
/-- behind a store -/
theorem kn_put {n : Nat} {sa : Nat → Nat} {g : Gh} {ls : List Value} {nL i : Nat} {v : Value} {LS : Array Slot} (ho : ok1 n ls) (h : lv_has LS nL ((i, rel sa g v) :: (kn sa g ls).filter (fun q => !(q.1 == i) && !(q.1 + 1 == i && q.2.category == 2)))) : lv_has LS nL (kn sa g (ls.set i v)) := by
  refine ⟨h.1, h.2.1, fun q hq => h.2.2 q ?_⟩
  obtain ⟨w, h1, h2, h3⟩ := kn_mem.mp hq
  rw [List.getElem?_set] at h1
  by_cases hi : i = q.1
  · rw [if_pos hi] at h1
    split at h1
    · cases h1
      refine List.mem_cons.mpr (Or.inl ?_)
      obtain ⟨q1, q2⟩ := q
      simp only at hi h3
      rw [hi, h3]
    · cases h1
  · rw [if_neg hi] at h1
    refine List.mem_cons.mpr (Or.inr (List.mem_filter.mpr ⟨kn_mem.mpr ⟨w, h1, h2, h3⟩, ?_⟩))
    have hc : q.2.category = 1 := by rw [h3, rel_cat]; exact (ho w (List.mem_of_getElem? h1)).2
    have hi2 : ¬ q.1 = i := fun z => hi z.symm
    simp [hi2, hc]
theorem ok1_set {n i : Nat} {ls : List Value} {v : Value} (h : ok1 n ls) (hv : okV n v) (hc : v.category = 1) : ok1 n (ls.set i v) := fun w hw => by
  rcases List.mem_or_eq_of_mem_set hw with q | q
  · exact h w q
  · rw [q]; exact ⟨hv, hc⟩
