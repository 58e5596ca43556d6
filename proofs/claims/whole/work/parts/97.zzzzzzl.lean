/-! style: conditions of rules, the reference: the draft, tags, facts -/
def DFt (y : Nat) : Prop := y = 73 ∨ y = 83
/-- it stands at a, D deep, the numbers w are added to the draft behind P0 of them -/
def DK (g0 g : Hp) (a D P0 : Nat) (w : List Nat) : Prop := Fr DFt g0 g ∧ (∀ j, j ≠ 8 → j ≠ 8 → j ≠ 10 → j ≠ 11 → j ≠ 20 → gI g 73 j = gI g0 73 j) ∧ gI g 73 8 = nI a ∧ gI g 73 10 = nI D ∧ gI g 73 20 = nI (P0 + w.length) ∧ ∀ j, gI g 83 j = if P0 ≤ j ∧ j < P0 + w.length then nI (w.getD (j - P0) 0) else gI g0 83 j
/-- it has found a fault at p -/
def DX (g0 g : Hp) (p : Nat) : Prop := Fr DFt g0 g ∧ (∀ j, j ≠ 8 → j ≠ 9 → j ≠ 10 → j ≠ 11 → j ≠ 20 → gI g 73 j = gI g0 73 j) ∧ gI g 73 9 = nI p
/-- a piece of the reference's reading does what f says -/
def DFn (g0 : Hp) (b : Nat → Nat) (e P0 D : Nat) (F : Hp → Option (Int32 × Hp)) (f : Nat → PR) : Prop := ∀ g a i w, DK g0 g a D P0 w → a ≤ e → i ≤ e → ik b e a = ik b e i → P0 + w.length ≤ 62 + i → (∀ p, f i = .inl p → ∃ g', F g = some (nI 0, g') ∧ DX g0 g' p) ∧ ∀ q, f i = .inr q → ∃ g' a', F g = some (nI 1, g') ∧ DK g0 g' a' D P0 (w ++ q.2.flatMap encR) ∧ a' ≤ e ∧ ik b e a' = ik b e q.1
section
variable {g0 g g1 : Hp} {b : Nat → Nat} {e P0 D a c k j x y p i n : Nat} {w : List Nat} {o : Op} {u v v1 : Int32} {rc : Nat → Hp → Nat → Option (Int32 × Hp)}
theorem gA_app : ∀ (l : List Nat) (o d : Nat) (i : Nat), (l ++ [o]).getD i d = if i < l.length then l.getD i d else if i = l.length then o else d
  | [], o, d, 0 => rfl
  | [], o, d, i + 1 => by
    show d = if i + 1 < 0 then d else if i + 1 = 0 then o else d
    rw [if_neg (show ¬ i + 1 < 0 by omega), if_neg (show ¬ i + 1 = 0 by omega)]
  | x :: l, o, d, 0 => by
    show x = if 0 < l.length + 1 then x else _
    rw [if_pos (by omega)]
  | x :: l, o, d, i + 1 => by
    have ih := gA_app l o d i
    show (l ++ [o]).getD i d = if i + 1 < l.length + 1 then l.getD i d else if i + 1 = l.length + 1 then o else d
    rw [ih]
    by_cases z : i < l.length
    · rw [if_pos z, if_pos (by omega)]
    · rw [if_neg z, if_neg (show ¬ i + 1 < l.length + 1 by omega)]
      by_cases w : i = l.length
      · rw [if_pos w, if_pos (by omega)]
      · rw [if_neg w, if_neg (show ¬ i + 1 = l.length + 1 by omega)]
theorem DK.tr (T : TR g0 b e) (K : DK g0 g a D P0 w) : TR g b e := by
  obtain ⟨t1, t2, t3, t4⟩ := T
  obtain ⟨F, k1, -⟩ := K
  exact ⟨t1.fr F, by rw [k1 7 (by omega) (by omega) (by omega) (by omega) (by omega)]; exact t2, t3, fun j hj => by rw [F.2.2.2.2.2.2 77 (by unfold DFt; omega)]; exact t4 j hj⟩
theorem DK.s8 (K : DK g0 g a D P0 w) (x : Nat) : DK g0 (sI g 73 8 (nI x)) x D P0 w := by
  obtain ⟨F, k1, k2, k3, k4, k5⟩ := K
  refine ⟨F.trans (Fr.sI (Or.inl rfl)), fun j h1 h2 h3 h4 h5 => ?_, ?_, ?_, ?_, fun j => ?_⟩
  · rw [gI_sI, if_pos rfl, up_at, if_neg h1]; exact k1 j h1 h2 h3 h4 h5
  · rw [gI_sI, if_pos rfl, up_at, if_pos rfl]
  · rw [gI_sI, if_pos rfl, up_at, if_neg (by decide)]; exact k3
  · rw [gI_sI, if_pos rfl, up_at, if_neg (by decide)]; exact k4
  · rw [gI_sI, if_neg (by decide)]; exact k5 j
theorem DK.s10 (K : DK g0 g a D P0 w) (x : Nat) : DK g0 (sI g 73 10 (nI x)) a x P0 w := by
  obtain ⟨F, k1, k2, k3, k4, k5⟩ := K
  refine ⟨F.trans (Fr.sI (Or.inl rfl)), fun j h1 h2 h3 h4 h5 => ?_, ?_, ?_, ?_, fun j => ?_⟩
  · rw [gI_sI, if_pos rfl, up_at, if_neg h3]; exact k1 j h1 h2 h3 h4 h5
  · rw [gI_sI, if_pos rfl, up_at, if_neg (by decide)]; exact k2
  · rw [gI_sI, if_pos rfl, up_at, if_pos rfl]
  · rw [gI_sI, if_pos rfl, up_at, if_neg (by decide)]; exact k4
  · rw [gI_sI, if_neg (by decide)]; exact k5 j
theorem DK.fl (K : DK g0 g a D P0 w) (p : Nat) : DX g0 (sI g 73 9 (nI p)) p := by
  obtain ⟨F, k1, k2, k3, k4, k5⟩ := K
  refine ⟨F.trans (Fr.sI (Or.inl rfl)), fun j h1 h2 h3 h4 h5 => ?_, ?_⟩
  · rw [gI_sI, if_pos rfl, up_at, if_neg h2]; exact k1 j h1 h1 h3 h4 h5
  · rw [gI_sI, if_pos rfl, up_at, if_pos rfl]
theorem DK.fails (T : TR g0 b e) (K : DK g0 g a D P0 w) : ∃ g', MX12_fails g 73 = some (nI 0, g') ∧ DX g0 g' a := by
  refine ⟨sI g 73 9 (nI a), ?_, K.fl a⟩
  unfold MX12_fails
  simp only [ZL]
  rw [gg_t (RS.f (K.tr T).1).1, K.2.2.1, lt_eq]
theorem DK.act (T : TR g0 b e) (K : DK g0 g a D P0 w) (hw : P0 + w.length < 562) (n : Nat) : ∃ g', MX12_act g 73 (nI n) = some g' ∧ DK g0 g' a D P0 (w ++ [n]) ∧ gI g' 73 11 = gI g 73 11 := by
  have R := (K.tr T).1
  obtain ⟨F, k1, k2, k3, k4, k5⟩ := K
  have ll : (w ++ [n]).length = w.length + 1 := by rw [List.length_append]; rfl
  obtain ⟨g4, hg4⟩ : ∃ g4, g4 = sI g 83 (P0 + w.length) (nI n) := ⟨_, rfl⟩
  have q20 : gI g4 73 20 = nI (P0 + w.length) := by rw [hg4, gI_sI, if_neg (by decide)]; exact k4
  refine ⟨sI g4 73 20 (nI (P0 + w.length + 1)), ?_, ?_, by rw [gI_sI, if_pos rfl, up_at, if_neg (by decide), hg4, gI_sI, if_neg (by decide)]⟩
  · unfold MX12_act
    simp only [ZL, RS.f R]
    rw [gg_T, gg_T, k4, gg_in (by omega) (by omega), nCl (by omega), lt_eq, ← hg4, q20, nAdd, lt_eq]
  · have F4 : Fr DFt g0 g4 := by rw [hg4]; exact F.trans (Fr.sI (Or.inr rfl))
    have o : ∀ j, gI g4 73 j = gI g 73 j := fun j => by rw [hg4, gI_sI, if_neg (by decide)]
    refine ⟨F4.trans (Fr.sI (Or.inl rfl)), fun j h1 h2 h3 h4 h5 => ?_, ?_, ?_, ?_, fun j => ?_⟩
    · rw [gI_sI, if_pos rfl, up_at, if_neg h5, o]; exact k1 j h1 h2 h3 h4 h5
    · rw [gI_sI, if_pos rfl, up_at, if_neg (by decide), o]; exact k2
    · rw [gI_sI, if_pos rfl, up_at, if_neg (by decide), o]; exact k3
    · rw [gI_sI, if_pos rfl, up_at, if_pos rfl, ll]; rfl
    · rw [gI_sI, if_neg (by decide), hg4, gI_sI, if_pos rfl, up_at, k5, ll, gA_app]
      by_cases z : j = P0 + w.length
      · rw [if_pos z, if_pos (by omega), if_neg (by omega), if_pos (by omega)]
      · rw [if_neg z]
        by_cases q : P0 ≤ j ∧ j < P0 + w.length
        · rw [if_pos q, if_pos (by omega), if_pos (by omega)]
        · rw [if_neg q, if_neg (by omega)]
theorem DK.num (T : TR g0 b e) (K : DK g0 g a D P0 w) (ae : a ≤ e) {lo hi : Nat} (hlo : lo < 10000) (hhi : hi < 10000) : (∀ p, nmP b e lo hi a = .inl p → ∃ g', MX12_readNumber g 73 (nI lo) (nI hi) = some (nI 0, g') ∧ DX g0 g' p) ∧ ∀ q, nmP b e lo hi a = .inr q → ∃ g', MX12_readNumber g 73 (nI lo) (nI hi) = some (nI 1, g') ∧ DK g0 g' q.1 D P0 w ∧ gI g' 73 11 = nI q.2 := by
  obtain ⟨g', e1, F1, c1, c2⟩ := r_tkN (K.tr T) K.2.2.1 ae hlo hhi
  obtain ⟨F, k1, k2, k3, k4, k5⟩ := K
  have F2 : Fr DFt g0 g' := F.trans (F1.mono (fun y z => Or.inl z))
  have o : ∀ j, j ≠ 8 → j ≠ 9 → j ≠ 10 → j ≠ 11 → j ≠ 20 → gI g' 73 j = gI g0 73 j := fun j h1 h2 h3 h4 h5 => by rw [c1 j h1 h2 h4]; exact k1 j h1 h1 h3 h4 h5
  cases q : nmP b e lo hi a with
  | inl p =>
    rw [q] at e1 c2
    exact ⟨fun p' hp => by cases hp; exact ⟨g', e1, F2, o, c2⟩, fun q' hq => (nomatch hq)⟩
  | inr r =>
    rw [q] at e1 c2
    exact ⟨fun p' hp => (nomatch hp), fun q' hq => by
      cases hq
      exact ⟨g', e1, ⟨F2, fun j h1 h2 h3 h4 h5 => by
        by_cases z : j = 9
        · rw [z, c2.1]; exact k1 9 (by omega) (by omega) (by omega) (by omega) (by omega)
        · exact o j h1 z h3 h4 h5, c2.2.1, by rw [c1 10 (by omega) (by omega) (by omega)]; exact k3, by rw [c1 20 (by omega) (by omega) (by omega)]; exact k4, fun j => by rw [F1.2.2.2.2.2.2 83 (by decide)]; exact k5 j⟩, c2.2.2⟩⟩
/-- a word where no blank is -/
theorem rtk_j (T : TR g b e) (ha : gI g 73 8 = nI j) (je : j ≤ e) (ij : ik b e j = j) (hk : k < 21) : MX12_takes g 73 k = if wdB b e k j = true then some (nI 1, sI g 73 8 (nI (j + sN k))) else some (nI 0, g) := by
  have := r_tkW T ha je hk
  rw [ij] at this
  rw [this]
  cases w : wdB b e k j with
  | true => rw [if_pos rfl, if_pos rfl]; rfl
  | false => rw [if_neg (by decide), if_neg (by decide), sI_id ha]; rfl
theorem r_tag (T : TR g b e) (ha : gI g 73 8 = nI j) (je : j ≤ e) (ij : ik b e j = j) : MX12_tagHere g 73 = if wdB b e 8 j = true then some (nI 0, sI g 73 8 (nI (j + sN 8))) else if wdB b e 10 j = true then some (nI 1, sI g 73 8 (nI (j + sN 10))) else if wdB b e 4 j = true then some (nI 2, sI g 73 8 (nI (j + sN 4))) else some (-nI 1, g) := by
  have t1 := (RS.f T.1).1
  unfold MX12_tagHere
  simp only [ZL]
  rw [gg_t t1, rtk_j T ha je ij (k := 8) (by omega)]
  by_cases w8 : wdB b e 8 j = true
  · rw [if_pos w8, if_pos w8, b2_some, if_neg (by decide)]
  rw [if_neg w8, if_neg w8, b2_some, if_pos rfl, gg_t t1, rtk_j T ha je ij (k := 10) (by omega)]
  by_cases w10 : wdB b e 10 j = true
  · rw [if_pos w10, if_pos w10, b2_some, if_neg (by decide)]
  rw [if_neg w10, if_neg w10, b2_some, if_pos rfl, gg_t t1, rtk_j T ha je ij (k := 4) (by omega)]
  by_cases w4 : wdB b e 4 j = true
  · rw [if_pos w4, if_pos w4, b2_some, if_neg (by decide)]
  · rw [if_neg w4, if_neg w4, b2_some, if_pos rfl]
theorem r_fct (T : TR g b e) (ha : gI g 73 8 = nI j) (je : j ≤ e) (ij : ik b e j = j) : MX12_factHere g 73 = if wdB b e 20 j = true then some (nI 0, sI g 73 8 (nI (j + sN 20))) else if wdB b e 2 j = true then some (nI 1, sI g 73 8 (nI (j + sN 2))) else if wdB b e 5 j = true then some (nI 2, sI g 73 8 (nI (j + sN 5))) else if wdB b e 14 j = true then some (nI 3, sI g 73 8 (nI (j + sN 14))) else if wdB b e 11 j = true then some (nI 4, sI g 73 8 (nI (j + sN 11))) else if wdB b e 12 j = true then some (nI 5, sI g 73 8 (nI (j + sN 12))) else some (-nI 1, g) := by
  have t1 := (RS.f T.1).1
  unfold MX12_factHere
  simp only [ZL]
  rw [gg_t t1, rtk_j T ha je ij (k := 20) (by omega)]
  by_cases w20 : wdB b e 20 j = true
  · rw [if_pos w20, if_pos w20, b2_some, if_neg (by decide)]
  rw [if_neg w20, if_neg w20, b2_some, if_pos rfl, gg_t t1, rtk_j T ha je ij (k := 2) (by omega)]
  by_cases w2 : wdB b e 2 j = true
  · rw [if_pos w2, if_pos w2, b2_some, if_neg (by decide)]
  rw [if_neg w2, if_neg w2, b2_some, if_pos rfl, gg_t t1, rtk_j T ha je ij (k := 5) (by omega)]
  by_cases w5 : wdB b e 5 j = true
  · rw [if_pos w5, if_pos w5, b2_some, if_neg (by decide)]
  rw [if_neg w5, if_neg w5, b2_some, if_pos rfl, gg_t t1, rtk_j T ha je ij (k := 14) (by omega)]
  by_cases w14 : wdB b e 14 j = true
  · rw [if_pos w14, if_pos w14, b2_some, if_neg (by decide)]
  rw [if_neg w14, if_neg w14, b2_some, if_pos rfl, gg_t t1, rtk_j T ha je ij (k := 11) (by omega)]
  by_cases w11 : wdB b e 11 j = true
  · rw [if_pos w11, if_pos w11, b2_some, if_neg (by decide)]
  rw [if_neg w11, if_neg w11, b2_some, if_pos rfl, gg_t t1, rtk_j T ha je ij (k := 12) (by omega)]
  by_cases w12 : wdB b e 12 j = true
  · rw [if_pos w12, if_pos w12, b2_some, if_neg (by decide)]
  · rw [if_neg w12, if_neg w12, b2_some, if_pos rfl]
/-- behind a fact, the reference -/
noncomputable def fcE (rc : Nat → Hp → Nat → Option (Int32 × Hp)) (h75 : Hp) (t76 : Int32) : Option (Int32 × Hp) := gg (kd h75 73 = 11) <| Option.bind (MX12_blanks h75 73) fun (h80 : Hp) => gg (kd h80 73 = 11) <| if (gI h80 73 7) ≤ (gI h80 73 8) then MX12_readAtom_274 rc h80 73 else gg (kd h80 (gP h80 73 5) = 20) <| gg (inB (gI h80 73 8) (ln h80 (gP h80 73 5)) = true) <| if (gI h80 (gP h80 73 5) (gI h80 73 8).toNatClampNeg) = nI 60 then MX12_readAtom_279 rc h80 73 t76 else if (gI h80 (gP h80 73 5) (gI h80 73 8).toNatClampNeg) = nI 62 then MX12_readAtom_279 rc h80 73 t76 else MX12_readAtom_274 rc h80 73
theorem r_cmp (T : TR g0 b e) (K : DK g0 g j D P0 w) (je : j < e) (hw : P0 + w.length ≤ 462) {f how : Nat} (hh : how = 2 ∨ how = 3) : (∀ p, cmP b e how f (j + 1) = .inl p → ∃ g', MX12_readAtom_298 rc g 73 (nI f) (nI how) = some (nI 0, g') ∧ DX g0 g' p) ∧ ∀ q, cmP b e how f (j + 1) = .inr q → ∃ g', MX12_readAtom_298 rc g 73 (nI f) (nI how) = some (nI 1, g') ∧ DK g0 g' q.1 D P0 (w ++ q.2.flatMap encR) := by
  have K1 := K.s8 (j + 1)
  obtain ⟨n1, n2⟩ := K1.num T (lo := 0) (hi := 9999) (show j + 1 ≤ e by omega) (by omega) (by omega)
  have pre : MX12_readAtom_298 rc g 73 (nI f) (nI how) = b2 (MX12_readNumber (sI g 73 8 (nI (j + 1))) 73 (nI 0) (nI 9999)) fun (t103 : Int32) (h102 : Hp) => if t103 = nI 0 then some (nI 0, h102) else gg (kd h102 73 = 11) <| Option.bind (MX12_act h102 73 (nI how)) fun (h107 : Hp) => gg (kd h107 73 = 11) <| Option.bind (MX12_act h107 73 (nI f)) fun (h110 : Hp) => gg (kd h110 73 = 11) <| Option.bind (MX12_act h110 73 (gI h110 73 11)) fun (h113 : Hp) => some (nI 1, h113) := by
    unfold MX12_readAtom_298
    simp only [ZL]
    rw [gg_t (RS.f (K.tr T).1).1, K.2.2.1, nAdd, lt_eq]
  rw [pre]
  unfold cmP
  cases q : nmP b e 0 9999 (j + 1) with
  | inl p =>
    obtain ⟨g', y1, y2⟩ := n1 p q
    exact ⟨fun p' hp => by cases hp; exact ⟨g', by rw [y1, b2_some, if_pos rfl], y2⟩, fun q' hq => (nomatch hq)⟩
  | inr r =>
    obtain ⟨g', y1, y2, y3⟩ := n2 r q
    refine ⟨fun p hp => (nomatch hp), fun q' hq => ?_⟩
    have hq : q' = (r.1, [(how, f, r.2)]) := by cases hq; rfl
    subst hq
    obtain ⟨z1, a1, a2, a3⟩ := y2.act T (by omega) how
    obtain ⟨z2, b1, b2, b3⟩ := a2.act T (by rw [List.length_append]; show P0 + (w.length + 1) < 562; omega) f
    have l2 : (w ++ [how] ++ [f]).length = w.length + 2 := by rw [List.length_append, List.length_append]; rfl
    obtain ⟨z3, d1, d2, d3⟩ := b2.act T (by omega) r.2
    have c11 : gI z2 73 11 = nI r.2 := by rw [b3, a3]; exact y3
    refine ⟨z3, ?_, ?_⟩
    · rw [y1, b2_some, if_neg (by decide), gg_t (RS.f (y2.tr T).1).1, a1, ob_some, gg_t (RS.f (a2.tr T).1).1, b1, ob_some, gg_t (RS.f (b2.tr T).1).1, c11, d1, ob_some]
    · have : w ++ [how] ++ [f] ++ [r.2] = w ++ [((how, f, r.2) : Op)].flatMap encR := by
        rw [List.append_assoc, List.append_assoc]
        rcases hh with rfl | rfl <;> rfl
      rw [← this]
      exact d2
theorem r_fc (T : TR g0 b e) (K : DK g0 g i D P0 w) (ie : i ≤ e) (hw : P0 + w.length ≤ 462) {f : Nat} : (∀ p, fcQ b e f i = .inl p → ∃ g', fcE rc g (nI f) = some (nI 0, g') ∧ DX g0 g' p) ∧ ∀ q, fcQ b e f i = .inr q → ∃ g', fcE rc g (nI f) = some (nI 1, g') ∧ DK g0 g' q.1 D P0 (w ++ q.2.flatMap encR) := by
  have Tg := K.tr T
  have K1 := K.s8 (ik b e i)
  obtain ⟨j1, j2⟩ := ik_le (b := b) ie
  have bk := r_bk Tg K.2.2.1 ie
  obtain ⟨g8, hg8⟩ : ∃ g8, g8 = sI g 73 8 (nI (ik b e i)) := ⟨_, rfl⟩
  rw [← hg8] at K1 bk
  have T8 := K1.tr T
  have R8 := RS.f T8.1
  obtain ⟨t1, t2, t3, t4⟩ := id T8
  have e274 : MX12_readAtom_274 rc g8 73 = some (nI 0, sI g8 73 9 (nI (ik b e i))) := by
    unfold MX12_readAtom_274 MX12_fails
    simp only [ZL]
    rw [gg_t R8.1, K1.2.2.1, gg_t R8.1, lt_eq, b2_some, gg_t (of_eq_true zk0)]
  have bad : ∀ X, X = MX12_readAtom_274 rc g8 73 → (∀ p, (.inl (ik b e i) : PR) = .inl p → ∃ g', X = some (nI 0, g') ∧ DX g0 g' p) ∧ ∀ q, (.inl (ik b e i) : PR) = .inr q → ∃ g', X = some (nI 1, g') ∧ DK g0 g' q.1 D P0 (w ++ q.2.flatMap encR) := fun X hX => ⟨fun p hp => by
    have hp : p = ik b e i := by cases hp; rfl
    rw [hX, e274, hp]
    exact ⟨_, rfl, K1.fl _⟩, fun q hq => (nomatch hq)⟩
  unfold fcQ fcE
  rw [gg_t (RS.f Tg.1).1, bk, ob_some, gg_t R8.1, t2, K1.2.2.1]
  obtain ⟨j, hj⟩ : ∃ j, j = ik b e i := ⟨_, rfl⟩
  rw [← hj] at j1 j2 K1 bad ⊢
  by_cases y : e ≤ j
  · rw [if_pos (nI_le y (by omega)), if_neg (by omega), if_neg (by omega)]
    exact bad _ rfl
  · obtain ⟨c1, c2⟩ := t4 j (by omega)
    have e279 : ∀ n, (b j = 60 ∧ n = 2) ∨ (b j = 62 ∧ n = 3) → MX12_readAtom_279 rc g8 73 (nI f) = MX12_readAtom_298 rc g8 73 (nI f) (nI n) := fun n hn => by
      unfold MX12_readAtom_279
      simp only [ZL, R8]
      rw [gg_T, gg_T, K1.2.2.1, gg_in (by omega) (by omega), nCl (by omega), c1]
      rcases hn with ⟨h1, rfl⟩ | ⟨h1, rfl⟩
      · rw [if_pos (by rw [h1])]
      · rw [if_neg (by rw [h1]; decide)]
    rw [if_neg (nI_ge (by omega) (by omega))]
    simp only [R8]
    rw [gg_T, gg_in (by omega) (by omega), nCl (by omega), c1]
    by_cases x1 : b j = 60
    · rw [if_pos (show nI (b j) = nI 60 by rw [x1]), if_pos (show j < e ∧ b j = 60 from ⟨by omega, x1⟩), e279 2 (Or.inl ⟨x1, rfl⟩)]
      exact r_cmp T K1 (by omega) hw (Or.inl rfl)
    · rw [if_neg (show ¬ nI (b j) = nI 60 by rw [nEq (by omega) (by omega)]; exact x1), if_neg (show ¬ (j < e ∧ b j = 60) from fun z => x1 z.2)]
      by_cases x2 : b j = 62
      · rw [if_pos (show nI (b j) = nI 62 by rw [x2]), if_pos (show j < e ∧ b j = 62 from ⟨by omega, x2⟩), e279 3 (Or.inr ⟨x2, rfl⟩)]
        exact r_cmp T K1 (by omega) hw (Or.inr rfl)
      · rw [if_neg (show ¬ nI (b j) = nI 62 by rw [nEq (by omega) (by omega)]; exact x2), if_neg (show ¬ (j < e ∧ b j = 62) from fun z => x2 z.2)]
        exact bad _ rfl
theorem r_leaf (T : TR g0 b e) (K : DK g0 g j D P0 w) (je : j ≤ e) (ij : ik b e j = j) (hw : P0 + w.length ≤ 462) : (∀ p, lfP b e j = .inl p → ∃ g', MX12_readAtom_50 rc g 73 v1 (nI 0) (nI 0) = some (nI 0, g') ∧ DX g0 g' p) ∧ ∀ q, lfP b e j = .inr q → ∃ g', MX12_readAtom_50 rc g 73 v1 (nI 0) (nI 0) = some (nI 1, g') ∧ DK g0 g' q.1 D P0 (w ++ q.2.flatMap encR) := by
  have Tg := K.tr T
  have R := RS.f Tg.1
  have rt := r_tag Tg K.2.2.1 je ij
  have rf := r_fct Tg K.2.2.1 je ij
  -- a tag
  have tg : ∀ t k, t < 3 → k < 21 → wdB b e k j = true → MX12_tagHere g 73 = some (nI t, sI g 73 8 (nI (j + sN k))) → (∀ p, (.inr (j + sN k, [(1, t, 0)]) : PR) = .inl p → ∃ g', MX12_readAtom_50 rc g 73 v1 (nI 0) (nI 0) = some (nI 0, g') ∧ DX g0 g' p) ∧ ∀ q, (.inr (j + sN k, [(1, t, 0)]) : PR) = .inr q → ∃ g', MX12_readAtom_50 rc g 73 v1 (nI 0) (nI 0) = some (nI 1, g') ∧ DK g0 g' q.1 D P0 (w ++ q.2.flatMap encR) := fun t k ht hk wk h => ⟨fun p hp => (nomatch hp), fun q hq => by
    have hq : q = (j + sN k, [(1, t, 0)]) := by cases hq; rfl
    subst hq
    have K1 := K.s8 (j + sN k)
    obtain ⟨z1, a1, a2, a3⟩ := K1.act T (by omega) 1
    obtain ⟨z2, b1, b2, b3⟩ := a2.act T (by rw [List.length_append]; show P0 + (w.length + 1) < 562; omega) t
    refine ⟨z2, ?_, ?_⟩
    · unfold MX12_readAtom_50
      simp only [ZL]
      rw [if_pos trivial, if_pos trivial, gg_t R.1, h, b2_some, if_neg (by rw [nM6 (by omega)]; exact id), gg_t (RS.f (K1.tr T).1).1, a1, ob_some, gg_t (RS.f (a2.tr T).1).1, b1, ob_some]
    · rw [List.append_assoc] at b2
      exact b2⟩
  -- a fact
  have fc : ∀ f k, f < 6 → k < 21 → wdB b e k j = true → MX12_tagHere g 73 = some (-nI 1, g) → MX12_factHere g 73 = some (nI f, sI g 73 8 (nI (j + sN k))) → (∀ p, fcQ b e f (j + sN k) = .inl p → ∃ g', MX12_readAtom_50 rc g 73 v1 (nI 0) (nI 0) = some (nI 0, g') ∧ DX g0 g' p) ∧ ∀ q, fcQ b e f (j + sN k) = .inr q → ∃ g', MX12_readAtom_50 rc g 73 v1 (nI 0) (nI 0) = some (nI 1, g') ∧ DK g0 g' q.1 D P0 (w ++ q.2.flatMap encR) := fun f k hf hk wk h1 h2 => by
    have K1 := K.s8 (j + sN k)
    have e1 : MX12_readAtom_50 rc g 73 v1 (nI 0) (nI 0) = fcE rc (sI g 73 8 (nI (j + sN k))) (nI f) := by
      unfold MX12_readAtom_50 fcE
      simp only [ZL]
      rw [if_pos trivial, if_pos trivial, gg_t R.1, h1, b2_some, if_pos rfl, gg_t R.1, h2, b2_some, if_neg (by rw [nM6 (by omega)]; exact id)]
    rw [e1]
    exact r_fc T K1 (wd_i wk).1 hw
  unfold lfP
  by_cases w8 : wdB b e 8 j = true
  · rw [if_pos w8] at rt ⊢; exact tg 0 8 (by omega) (by omega) w8 rt
  rw [if_neg w8] at rt ⊢
  by_cases w10 : wdB b e 10 j = true
  · rw [if_pos w10] at rt ⊢; exact tg 1 10 (by omega) (by omega) w10 rt
  rw [if_neg w10] at rt ⊢
  by_cases w4 : wdB b e 4 j = true
  · rw [if_pos w4] at rt ⊢; exact tg 2 4 (by omega) (by omega) w4 rt
  rw [if_neg w4] at rt ⊢
  by_cases w20 : wdB b e 20 j = true
  · rw [if_pos w20] at rf ⊢; exact fc 0 20 (by omega) (by omega) w20 rt rf
  rw [if_neg w20] at rf ⊢
  by_cases w2 : wdB b e 2 j = true
  · rw [if_pos w2] at rf ⊢; exact fc 1 2 (by omega) (by omega) w2 rt rf
  rw [if_neg w2] at rf ⊢
  by_cases w5 : wdB b e 5 j = true
  · rw [if_pos w5] at rf ⊢; exact fc 2 5 (by omega) (by omega) w5 rt rf
  rw [if_neg w5] at rf ⊢
  by_cases w14 : wdB b e 14 j = true
  · rw [if_pos w14] at rf ⊢; exact fc 3 14 (by omega) (by omega) w14 rt rf
  rw [if_neg w14] at rf ⊢
  by_cases w11 : wdB b e 11 j = true
  · rw [if_pos w11] at rf ⊢; exact fc 4 11 (by omega) (by omega) w11 rt rf
  rw [if_neg w11] at rf ⊢
  by_cases w12 : wdB b e 12 j = true
  · rw [if_pos w12] at rf ⊢; exact fc 5 12 (by omega) (by omega) w12 rt rf
  rw [if_neg w12] at rf ⊢
  refine ⟨fun p hp => ?_, fun q hq => (nomatch hq)⟩
  have hp : p = j := by cases hp; rfl
  obtain ⟨z, y1, y2⟩ := K.fails T
  rw [hp]
  refine ⟨z, ?_, y2⟩
  unfold MX12_readAtom_50
  simp only [ZL]
  rw [if_pos trivial, if_pos trivial, gg_t R.1, rt, b2_some, if_pos rfl, gg_t R.1, rf, b2_some, if_pos rfl, gg_t R.1, y1, b2_some, gg_t (of_eq_true zk0)]
end
