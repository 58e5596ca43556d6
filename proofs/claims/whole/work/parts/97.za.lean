/-! new objects: the builder -/
/-- field, kind, length, arrays below, numbers -/
abbrev En : Type := Nat × Nat × Nat × List (Nat × Nat × Nat) × (Nat → Int32)
def Ar (h : Hp) (p c k n : Nat) : Prop := p < c ∧ c ≤ sz h ∧ kd h c = k ∧ ln h c = n ∧ (∀ j, gI h c j = 0) ∧ ∀ j, gP h c j = 0
def Sb (h : Hp) (p c : Nat) (e : En) : Prop := p < c ∧ c ≤ sz h ∧ kd h c = e.2.1 ∧ (e.2.2.2.1 = [] → ln h c = e.2.2.1) ∧ gI h c = e.2.2.2.2 ∧ (∀ s ∈ e.2.2.2.1, Ar h p (gP h c s.1) s.2.1 s.2.2) ∧ ∀ j, (∀ s ∈ e.2.2.2.1, s.1 ≠ j) → gP h c j = 0
/-- an object that is made -/
def Nob (h : Hp) (p K : Nat) (fs : List En) (nm : Nat → Int32) : Prop := kd h p = K ∧ p ≤ sz h ∧ gI h p = nm ∧ (∀ e ∈ fs, Sb h p (gP h p e.1) e) ∧ ∀ j, (∀ e ∈ fs, e.1 ≠ j) → gP h p j = 0
def Bl (tg0 : Nat → List Nat) (h0 : Hp) (tg : Nat → List Nat) (h : Hp) (p K : Nat) (T : List Nat) (fs : List En) (nm : Nat → Int32) (a b : Nat) : Prop := Own tg h ∧ p = sz h0 + 1 ∧ 109 ≤ sz h0 ∧ (∀ x, x ≤ sz h0 → sm h0 h x ∧ tg x = tg0 x) ∧ tg p = T ∧ Nob h p K fs nm ∧ nc h = nc h0 + a ∧ ns h = ns h0 + b
section
variable {tg tg0 tg' : Nat → List Nat} {h h0 h' : Hp} {p c K a b a' b' f k n j : Nat} {T : List Nat} {fs : List En} {nm : Nat → Int32} {e : En} {v : Int32}
theorem alc_gP {x : Nat} : gP (alc h k n) x j = if x = sz h + 1 then 0 else gP h x j := by
  show va_up (gP h) (sz h + 1) (fun _ => 0) x j = _
  rw [up_at]
  by_cases z : x = sz h + 1
  · rw [if_pos z, if_pos z]
  · rw [if_neg z, if_neg z]
theorem alc_sm {x : Nat} (hx : x ≤ sz h) : sm h (alc h k n) x := by
  have z : ¬ x = sz h + 1 := by omega
  refine ⟨?_, ?_, ?_, ?_⟩
  · show va_up (kd h) (sz h + 1) k x = kd h x
    rw [up_at, if_neg z]
  · show va_up (ln h) (sz h + 1) n x = ln h x
    rw [up_at, if_neg z]
  · show va_up (gI h) (sz h + 1) (fun _ => 0) x = gI h x
    rw [up_at, if_neg z]
  · show va_up (gP h) (sz h + 1) (fun _ => 0) x = gP h x
    rw [up_at, if_neg z]
theorem alc_new : kd (alc h k n) (sz h + 1) = k ∧ ln (alc h k n) (sz h + 1) = n ∧ gI (alc h k n) (sz h + 1) = (fun _ => 0) ∧ gP (alc h k n) (sz h + 1) = (fun _ => 0) := by
  refine ⟨?_, ?_, ?_, ?_⟩
  · show va_up (kd h) (sz h + 1) k (sz h + 1) = k
    rw [up_at, if_pos (Eq.refl _)]
  · show va_up (ln h) (sz h + 1) n (sz h + 1) = n
    rw [up_at, if_pos (Eq.refl _)]
  · show va_up (gI h) (sz h + 1) (fun _ => 0) (sz h + 1) = _
    rw [up_at, if_pos (Eq.refl _)]
  · show va_up (gP h) (sz h + 1) (fun _ => 0) (sz h + 1) = _
    rw [up_at, if_pos (Eq.refl _)]
theorem sP_gP {a j c x l : Nat} : gP (sP h a j c) x l = if x = a ∧ l = j then c else gP h x l := by
  rw [gP_sP]
  by_cases z : x = a
  · rw [if_pos z, up_at]
    by_cases y : l = j
    · rw [if_pos y, if_pos ⟨z, y⟩]
    · rw [if_neg y, if_neg (fun q => y q.2), z]
  · rw [if_neg z, if_neg (fun q => z q.1)]
theorem sP_sm {a j c x : Nat} (hx : x ≠ a) : sm h (sP h a j c) x := ⟨Eq.refl _, Eq.refl _, Eq.refl _, by rw [gP_sP, if_neg hx]⟩
theorem sI_sm {a j x : Nat} (hx : x ≠ a) : sm h (sI h a j v) x := ⟨Eq.refl _, Eq.refl _, by rw [gI_sI, if_neg hx], Eq.refl _⟩
theorem sm.tr {h1 h2 h3 : Hp} {x : Nat} (a : sm h1 h2 x) (b : sm h2 h3 x) : sm h1 h3 x := ⟨b.1.trans a.1, b.2.1.trans a.2.1, b.2.2.1.trans a.2.2.1, b.2.2.2.trans a.2.2.2⟩
theorem own_alc (O : Own tg h) (h9 : 109 ≤ sz h) : Own (va_up tg (sz h + 1) T) (alc h k n) := by
  obtain ⟨o1, o2, o3, o4, o5, o6⟩ := O
  have t1 : ∀ x, x ≤ sz h → va_up tg (sz h + 1) T x = tg x := fun x hx => by rw [up_at, if_neg (by omega)]
  have z : sz (alc h k n) = sz h + 1 := Eq.refl _
  refine ⟨by rw [t1 1 (by omega)]; exact o1, by rw [t1 73 (by omega)]; exact o2, by rw [t1 109 (by omega)]; exact o3, fun j => ?_, fun x j hx h3 => ?_, fun x j => ?_⟩
  · rw [alc_gP, if_neg (by omega)]
    exact o4 j
  · rw [alc_gP] at hx ⊢
    by_cases y : x = sz h + 1
    · rw [if_pos y] at hx
      exact absurd (Eq.refl _) hx
    · rw [if_neg y] at hx ⊢
      rw [t1 _ (o6 x j), o5 x j hx h3, up_at, if_neg y]
  · rw [z, alc_gP]
    by_cases y : x = sz h + 1
    · rw [if_pos y]; omega
    · rw [if_neg y]
      have := o6 x j
      omega
theorem own_ln {x : Nat} (O : Own tg h) (hc : c ≤ sz h) (hx : x ≠ 0) (hT : tg c = j :: tg x) : Own tg (sP h x j c) := by
  obtain ⟨o1, o2, o3, o4, o5, o6⟩ := O
  refine ⟨o1, o2, o3, fun l => ?_, fun y l hy h3 => ?_, fun y l => ?_⟩
  · rw [sP_gP, if_neg (fun q => hx q.1.symm)]
    exact o4 l
  · rw [sP_gP] at hy ⊢
    by_cases z : y = x ∧ l = j
    · rw [if_pos z, z.1, z.2]
      exact hT
    · rw [if_neg z] at hy ⊢
      exact o5 y l hy h3
  · have e : sz (sP h x j c) = sz h := Eq.refl _
    rw [e, sP_gP]
    by_cases z : y = x ∧ l = j
    · rw [if_pos z]; exact hc
    · rw [if_neg z]; exact o6 y l
theorem own_sI {x : Nat} (O : Own tg h) : Own tg (sI h x j v) := O
theorem Ar.mo (A : Ar h p c k n) (hs : ∀ x, p < x → x ≤ sz h → sm h h' x) (hz : sz h ≤ sz h') : Ar h' p c k n := by
  obtain ⟨a1, a2, a3, a4, a5, a6⟩ := A
  obtain ⟨s1, s2, s3, s4⟩ := hs c a1 a2
  exact ⟨a1, by omega, by rw [s1]; exact a3, by rw [s2]; exact a4, fun j => by rw [s3]; exact a5 j, fun j => by rw [s4]; exact a6 j⟩
theorem Sb.mo (A : Sb h p c e) (hs : ∀ x, p < x → x ≤ sz h → sm h h' x) (hz : sz h ≤ sz h') : Sb h' p c e := by
  obtain ⟨a1, a2, a3, a4, a5, a6, a7⟩ := A
  obtain ⟨s1, s2, s3, s4⟩ := hs c a1 a2
  exact ⟨a1, by omega, by rw [s1]; exact a3, fun z => by rw [s2]; exact a4 z, by rw [s3]; exact a5, fun s hm => by rw [s4]; exact (a6 s hm).mo hs hz, fun j hj => by rw [s4]; exact a7 j hj⟩
theorem Nob.mo (A : Nob h p K fs nm) (hs : ∀ x, p ≤ x → x ≤ sz h → sm h h' x) (hz : sz h ≤ sz h') : Nob h' p K fs nm := by
  obtain ⟨a1, a2, a3, a4, a5⟩ := A
  obtain ⟨s1, s2, s3, s4⟩ := hs p (Nat.le_refl _) a2
  exact ⟨by rw [s1]; exact a1, by omega, by rw [s3]; exact a3, fun e he => by rw [s4]; exact (a4 e he).mo (fun x h1 h2 => hs x (by omega) h2) hz, fun j hj => by rw [s4]; exact a5 j hj⟩
/-- a link is set in an object that is being made -/
theorem Bl.lk (B : Bl tg0 h0 tg h p K T fs nm a b) (hf : ∀ e' ∈ fs, e'.1 ≠ e.1) (hz : sz h ≤ sz h') (h1 : ∀ x, x ≤ sz h → x ≠ p → sm h h' x) (h2 : kd h' p = kd h p ∧ gI h' p = gI h p) (h3 : gP h' p e.1 = c) (h4 : ∀ j, j ≠ e.1 → gP h' p j = gP h p j) (O : Own tg' h') (ht : ∀ x, x ≤ sz h → tg' x = tg x) (S : Sb h' p c e) (hn : nc h' = nc h + a') (hs : ns h' = ns h + b') : Bl tg0 h0 tg' h' p K T (e :: fs) nm (a + a') (b + b') := by
  obtain ⟨b1, b2, b3, b4, b5, ⟨n1, n2, n3, n4, n5⟩, b7, b8⟩ := B
  have hs0 : sz h0 < p := by omega
  refine ⟨O, b2, b3, fun x hx => ⟨(b4 x hx).1.tr (h1 x (by omega) (by omega)), by rw [ht x (by omega)]; exact (b4 x hx).2⟩, by rw [ht p n2]; exact b5, ⟨by rw [h2.1]; exact n1, by omega, by rw [h2.2]; exact n3, fun e' he => ?_, fun j hj => ?_⟩, by omega, by omega⟩
  · rcases List.mem_cons.mp he with z | z
    · rw [z, h3]
      exact S
    · rw [h4 _ (hf e' z)]
      exact (n4 e' z).mo (fun x q1 q2 => h1 x q2 (by omega)) hz
  · rw [h4 j (fun z => hj e List.mem_cons_self z.symm)]
    exact n5 j (fun e' he => hj e' (List.mem_cons_of_mem _ he))
theorem Bl.start (O : Own tg0 h0) (h9 : 109 ≤ sz h0) : Bl tg0 h0 (va_up tg0 (sz h0 + 1) T) (alc h0 K n) (sz h0 + 1) K T [] (fun _ => 0) 1 n := by
  obtain ⟨e1, -, e3, e4⟩ := alc_new (h := h0) (k := K) (n := n)
  exact ⟨own_alc O h9, Eq.refl _, h9, fun x hx => ⟨alc_sm hx, by rw [up_at, if_neg (by omega)]⟩, by rw [up_at, if_pos (Eq.refl _)], ⟨e1, Nat.le_refl _, e3, fun e he => absurd he (List.not_mem_nil), fun j _ => by rw [e4]⟩, Eq.refl _, Eq.refl _⟩
theorem Bl.arr (B : Bl tg0 h0 tg h p K T fs nm a b) (hf : ∀ e' ∈ fs, e'.1 ≠ f) : Bl tg0 h0 (va_up tg (sz h + 1) (f :: T)) (sP (alc h k n) p f (sz h + 1)) p K T ((f, k, n, [], fun _ => 0) :: fs) nm (a + 1) (b + n) := by
  have B' := B
  obtain ⟨b1, b2, b3, b4, b5, ⟨n1, n2, n3, n4, n5⟩, b7, b8⟩ := B'
  have h9 : 109 ≤ sz h := by omega
  obtain ⟨w1, w2, w3, w4⟩ := alc_new (h := h) (k := k) (n := n)
  have zp : sz h + 1 ≠ p := by omega
  have z : sz (sP (alc h k n) p f (sz h + 1)) = sz h + 1 := Eq.refl _
  have pm := alc_sm (h := h) (k := k) (n := n) n2
  refine Bl.lk (e := (f, k, n, [], fun _ => 0)) B hf (by rw [z]; omega) (fun x q1 q2 => (alc_sm q1).tr (sP_sm q2)) ⟨pm.1, pm.2.2.1⟩ (by rw [sP_gP, if_pos ⟨Eq.refl _, Eq.refl _⟩]) (fun j hj => by rw [sP_gP, if_neg (fun q => hj q.2), pm.2.2.2]) ?_ (fun x hx => by rw [up_at, if_neg (by omega)]) ?_ (Eq.refl _) (Eq.refl _)
  · refine own_ln (own_alc b1 h9) (Nat.le_refl _) (by omega) ?_
    rw [up_at, if_pos (Eq.refl _), up_at, if_neg (fun q => zp q.symm), b5]
  · have s := sP_sm (h := alc h k n) (a := p) (j := f) (c := sz h + 1) zp
    refine ⟨by omega, by rw [z]; omega, by rw [s.1]; exact w1, fun _ => by rw [s.2.1]; exact w2, by rw [s.2.2.1]; exact w3, fun s hs => absurd hs (List.not_mem_nil), fun j _ => by rw [s.2.2.2, w4]⟩
theorem Bl.num (B : Bl tg0 h0 tg h p K T fs nm a b) : Bl tg0 h0 tg (sI h p j v) p K T fs (va_up nm j v) a b := by
  obtain ⟨b1, b2, b3, b4, b5, ⟨n1, n2, n3, n4, n5⟩, b7, b8⟩ := B
  have z : sz (sI h p j v) = sz h := Eq.refl _
  refine ⟨own_sI b1, b2, b3, fun x hx => ⟨(b4 x hx).1.tr (sI_sm (by omega)), (b4 x hx).2⟩, b5, ⟨n1, by rw [z]; exact n2, by rw [gI_sI, if_pos (Eq.refl _), n3], fun e he => (n4 e he).mo (fun x q1 q2 => sI_sm (by omega)) (Nat.le_refl _), n5⟩, b7, b8⟩
theorem Bl.cg (B : Bl tg0 h0 tg h p K T fs nm a b) (ha : a = a') (hb : b = b') : Bl tg0 h0 tg h p K T fs nm a' b' := by
  rw [← ha, ← hb]
  exact B
theorem bl_kd (B : Bl tg0 h0 tg h p K T fs nm a b) : kd h p = K := B.2.2.2.2.2.1.1
theorem Bl.p0 (B : Bl tg0 h0 tg h p K T fs nm a b) : p ≠ 0 := by
  have := B.2.1
  omega
theorem Bl.arrK {β : Type} {Q : β → Prop} {kk : Hp → Option β} (B : Bl tg0 h0 tg h p K T fs nm a b) (hf : ∀ e' ∈ fs, e'.1 ≠ f) (H : ∀ tg' h', Bl tg0 h0 tg' h' p K T ((f, k, n, [], fun _ => 0) :: fs) nm (a + 1) (b + n) → ∃ r, kk h' = some r ∧ Q r) : ∃ r, (lt (alc h k n) fun (g : Hp) => gg (kd g p = K) (lt (sP g p f (sz h + 1)) fun (g2 : Hp) => kk g2)) = some r ∧ Q r := by
  have B2 := B.arr (k := k) (n := n) hf
  obtain ⟨r, e, q⟩ := H _ _ B2
  have pm := alc_sm (h := h) (k := k) (n := n) B.2.2.2.2.2.1.2.1
  refine ⟨r, ?_, q⟩
  rw [lt_eq, gg_t (pm.1.trans (bl_kd B)), lt_eq]
  exact e
theorem Bl.numK {β : Type} {Q : β → Prop} {kk : Hp → Option β} (B : Bl tg0 h0 tg h p K T fs nm a b) (H : ∀ h', Bl tg0 h0 tg h' p K T fs (va_up nm j v) a b → ∃ r, kk h' = some r ∧ Q r) : ∃ r, (lt (sI h p j v) fun (g : Hp) => kk g) = some r ∧ Q r := by
  obtain ⟨r, e, q⟩ := H _ (B.num (j := j) (v := v))
  exact ⟨r, by rw [lt_eq]; exact e, q⟩
theorem Bl.subK {β : Type} {Q : β → Prop} {kk : Hp → Option β} {ini : Hp → Nat → Option Hp} {K1 n1 a1 b1 : Nat} {ss : List (Nat × Nat × Nat)} {nm1 : Nat → Int32} (B : Bl tg0 h0 tg h p K T fs nm a b) (hf : ∀ e' ∈ fs, e'.1 ≠ f) (HI : Bl tg h (va_up tg (sz h + 1) (f :: T)) (alc h K1 n1) (sz h + 1) K1 (f :: T) [] (fun _ => 0) 1 n1 → ∃ g, ini (alc h K1 n1) (sz h + 1) = some g ∧ ∃ tgy, Bl tg h tgy g (sz h + 1) K1 (f :: T) (ss.map (fun s => (s.1, s.2.1, s.2.2, [], fun _ => 0))) nm1 a1 b1) (hss : ss ≠ []) (H : ∀ tg' h', Bl tg0 h0 tg' h' p K T ((f, K1, n1, ss, nm1) :: fs) nm (a + a1) (b + b1) → ∃ r, kk h' = some r ∧ Q r) : ∃ r, (lt (alc h K1 n1) fun (g : Hp) => Option.bind (ini g (sz h + 1)) fun (g1 : Hp) => gg (kd g1 p = K) (lt (sP g1 p f (sz h + 1)) fun (g2 : Hp) => kk g2)) = some r ∧ Q r := by
  have B' := B
  obtain ⟨b1', b2, b3, b4, b5, ⟨n1', n2, n3, n4, n5⟩, b7, b8⟩ := B'
  obtain ⟨g, ge, tgy, C⟩ := HI (Bl.start b1' (by omega))
  obtain ⟨c1, c2, c3, c4, c5, ⟨m1, m2, m3, m4, m5⟩, c7, c8⟩ := C
  have pm := (c4 p n2).1
  have zp : sz h + 1 ≠ p := by omega
  have z : sz (sP g p f (sz h + 1)) = sz g := Eq.refl _
  have B2 : Bl tg0 h0 tgy (sP g p f (sz h + 1)) p K T ((f, K1, n1, ss, nm1) :: fs) nm (a + a1) (b + b1) := by
    refine Bl.lk (e := (f, K1, n1, ss, nm1)) (c := sz h + 1) B hf (by rw [z]; omega) (fun x q1 q2 => (c4 x q1).1.tr (sP_sm q2)) ⟨pm.1, pm.2.2.1⟩ (by rw [sP_gP, if_pos ⟨Eq.refl _, Eq.refl _⟩]) (fun j hj => by rw [sP_gP, if_neg (fun q => hj q.2), pm.2.2.2]) ?_ (fun x hx => (c4 x hx).2) ?_ c7 c8
    · refine own_ln c1 m2 (by omega) ?_
      rw [c5, (c4 p n2).2, b5]
    · have s := sP_sm (h := g) (a := p) (j := f) (c := sz h + 1) zp
      refine ⟨by omega, by rw [z]; exact m2, by rw [s.1]; exact m1, fun z => absurd z hss, by rw [s.2.2.1]; exact m3, fun w hw => ?_, fun j hj => ?_⟩
      · have M := m4 (w.1, w.2.1, w.2.2, [], fun _ => 0) (List.mem_map.mpr ⟨w, hw, Eq.refl _⟩)
        obtain ⟨q1, q2, q3, q4, q5, q6, q7⟩ := M
        rw [s.2.2.2]
        have s' := sP_sm (h := g) (a := p) (j := f) (c := sz h + 1) (x := gP g (sz h + 1) w.1) (by have : sz h + 1 < gP g (sz h + 1) w.1 := q1; omega)
        exact ⟨by have : sz h + 1 < gP g (sz h + 1) w.1 := q1; omega, q2, by rw [s'.1]; exact q3, by rw [s'.2.1]; exact q4 (Eq.refl _), fun j => by rw [s'.2.2.1, q5], fun j => by rw [s'.2.2.2]; exact q7 j (fun s hs => absurd hs (List.not_mem_nil))⟩
      · rw [s.2.2.2]
        refine m5 j (fun e' he => ?_)
        obtain ⟨w, hw, ew⟩ := List.mem_map.mp he
        rw [← ew]
        exact hj w hw
  obtain ⟨r, e, q⟩ := H _ _ B2
  refine ⟨r, ?_, q⟩
  rw [lt_eq, ge, ob_some, gg_t (pm.1.trans n1'), lt_eq]
  exact e
end
