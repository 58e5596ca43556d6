/-! style: rules, the reference's draft -/
/-- rule r in the draft d -/
def RdF (d : Nat → Int32) (rs : List Rl) (r : Nat) : Prop := d (2 + 5 * r) = nI (rs.getD r dRl).1.1 ∧ d (2 + 5 * r + 1) = nI (rs.getD r dRl).1.2.1 ∧ d (2 + 5 * r + 2) = nI (rs.getD r dRl).1.2.2 ∧ d (2 + 5 * r + 3) = nI (if (rs.getD r dRl).2.length = 0 then 0 else poL rs r) ∧ d (2 + 5 * r + 4) = nI ((rs.getD r dRl).2.flatMap encR).length ∧ ∀ i, i < ((rs.getD r dRl).2.flatMap encR).length → d (poL rs r + i) = nI (((rs.getD r dRl).2.flatMap encR).getD i 0)
/-- the rules rs are read, it stands at a; n counts them -/
def RPs (g0 g : Hp) (a : Nat) (rs : List Rl) (n w : Nat) : Prop := Fr DFt g0 g ∧ (∀ j, j ≠ 8 → j ≠ 8 → j ≠ 10 → j ≠ 11 → j ≠ 19 → j ≠ 20 → gI g 73 j = gI g0 73 j) ∧ gI g 73 8 = nI a ∧ gI g 73 10 = nI 0 ∧ gI g 73 19 = nI n ∧ gI g 73 20 = nI (poL rs rs.length) ∧ (∀ r, r < rs.length → RdF (gI g 83) rs r) ∧ ∀ j, ¬ (2 ≤ j ∧ j < 2 + 5 * w) → ¬ (62 ≤ j ∧ j < poL rs rs.length) → gI g 83 j = gI g0 83 j
/-- a rule is being read -/
def KP (g0 g : Hp) (a : Nat) (rs : List Rl) (c : Nat → Nat) : Prop := RPs g0 g a rs rs.length (rs.length + 1) ∧ ∀ k, k < 5 → gI g 83 (2 + 5 * rs.length + k) = nI (c k)
def RFl (g0 g : Hp) (p : Nat) : Prop := Fr DFt g0 g ∧ (∀ j, j ≠ 8 → j ≠ 9 → j ≠ 10 → j ≠ 11 → j ≠ 19 → j ≠ 20 → gI g 73 j = gI g0 73 j) ∧ gI g 73 9 = nI p
section
variable {g0 g g1 g9 : Hp} {b : Nat → Nat} {e a a' k n m j p i lo hi v r w : Nat} {rs : List Rl} {t : Rl} {c c' : Nat → Nat} {l : List Op} {d d' : Nat → Int32}
theorem poL_62 : ∀ k, 62 ≤ poL rs k
  | 0 => Nat.le_refl _
  | k + 1 => Nat.le_trans (poL_62 k) (Nat.le_add_right _ _)
theorem RdF.cg (H : RdF d rs r) (hr : r < rs.length) (hn : rs.length ≤ 12) (h1 : ∀ j, j < 2 + 5 * rs.length → d' j = d j) (h2 : ∀ j, 62 ≤ j → j < poL rs rs.length → d' j = d j) : RdF d' rs r := by
  obtain ⟨a1, a2, a3, a4, a5, a6⟩ := H
  have m1 : poL rs (r + 1) ≤ poL rs rs.length := poL_mono _ (by omega)
  have m2 : poL rs (r + 1) = poL rs r + ((rs.getD r dRl).2.flatMap encR).length := rfl
  have m3 : 62 ≤ poL rs r := poL_62 r
  exact ⟨by rw [h1 _ (by omega)]; exact a1, by rw [h1 _ (by omega)]; exact a2, by rw [h1 _ (by omega)]; exact a3, by rw [h1 _ (by omega)]; exact a4, by rw [h1 _ (by omega)]; exact a5, fun i hi => by rw [h2 _ (by omega) (by omega)]; exact a6 i hi⟩
theorem RdF.app (H : RdF d rs r) (hr : r < rs.length) : RdF d (rs ++ [t]) r := by
  unfold RdF at H ⊢
  rw [gD_l hr, poL_app r (by omega)]
  exact H
theorem RPs.tr (T : TR g0 b e) (K : RPs g0 g a rs n w) : TR g b e := by
  obtain ⟨t1, t2, t3, t4⟩ := T
  obtain ⟨F, k1, -⟩ := K
  exact ⟨t1.fr F, by rw [k1 7 (by omega) (by omega) (by omega) (by omega) (by omega) (by omega)]; exact t2, t3, fun j hj => by rw [F.2.2.2.2.2.2 77 (by unfold DFt; omega)]; exact t4 j hj⟩
theorem RPs.s8 (K : RPs g0 g a rs n w) (x : Nat) : RPs g0 (sI g 73 8 (nI x)) x rs n w := by
  obtain ⟨F, k1, k2, k3, k4, k5, k6, k8⟩ := K
  refine ⟨F.trans (Fr.sI (Or.inl rfl)), fun j h1 h2 h3 h4 h5 h6 => ?_, ?_, ?_, ?_, ?_, fun r hr => ?_, fun j y1 y2 => ?_⟩
  · rw [gI_sI, if_pos rfl, up_at, if_neg h1]; exact k1 j h1 h2 h3 h4 h5 h6
  · rw [gI_sI, if_pos rfl, up_at, if_pos rfl]
  · rw [gI_sI, if_pos rfl, up_at, if_neg (by decide)]; exact k3
  · rw [gI_sI, if_pos rfl, up_at, if_neg (by decide)]; exact k4
  · rw [gI_sI, if_pos rfl, up_at, if_neg (by decide)]; exact k5
  · rw [gI_sI, if_neg (by decide)]; exact k6 r hr
  · rw [gI_sI, if_neg (by decide)]; exact k8 j y1 y2
theorem RPs.s19 (K : RPs g0 g a rs n w) (x : Nat) : RPs g0 (sI g 73 19 (nI x)) a rs x w := by
  obtain ⟨F, k1, k2, k3, k4, k5, k6, k8⟩ := K
  refine ⟨F.trans (Fr.sI (Or.inl rfl)), fun j h1 h2 h3 h4 h5 h6 => ?_, ?_, ?_, ?_, ?_, fun r hr => ?_, fun j y1 y2 => ?_⟩
  · rw [gI_sI, if_pos rfl, up_at, if_neg h5]; exact k1 j h1 h2 h3 h4 h5 h6
  · rw [gI_sI, if_pos rfl, up_at, if_neg (by decide)]; exact k2
  · rw [gI_sI, if_pos rfl, up_at, if_neg (by decide)]; exact k3
  · rw [gI_sI, if_pos rfl, up_at, if_pos rfl]
  · rw [gI_sI, if_pos rfl, up_at, if_neg (by decide)]; exact k5
  · rw [gI_sI, if_neg (by decide)]; exact k6 r hr
  · rw [gI_sI, if_neg (by decide)]; exact k8 j y1 y2
theorem RPs.fl (K : RPs g0 g a rs n w) (p : Nat) : RFl g0 (sI g 73 9 (nI p)) p := by
  obtain ⟨F, k1, k2, k3, k4, k5, k6, k8⟩ := K
  refine ⟨F.trans (Fr.sI (Or.inl rfl)), fun j h1 h2 h3 h4 h5 h6 => ?_, ?_⟩
  · rw [gI_sI, if_pos rfl, up_at, if_neg h2]; exact k1 j h1 h1 h3 h4 h5 h6
  · rw [gI_sI, if_pos rfl, up_at, if_pos rfl]
theorem RPs.fails (T : TR g0 b e) (K : RPs g0 g a rs n w) : ∃ g', MX12_fails g 73 = some (nI 0, g') ∧ RFl g0 g' a := by
  refine ⟨sI g 73 9 (nI a), ?_, K.fl a⟩
  unfold MX12_fails
  simp only [ZL]
  rw [gg_t (RS.f (K.tr T).1).1, K.2.2.1, lt_eq]
theorem KP.s8 (K : KP g0 g a rs c) (x : Nat) : KP g0 (sI g 73 8 (nI x)) x rs c := ⟨K.1.s8 x, fun k hk => by rw [gI_sI, if_neg (by decide)]; exact K.2 k hk⟩
theorem KP.set (K : KP g0 g a rs c) (hn : rs.length < 12) (hk : k < 5) : KP g0 (sI g 83 (2 + 5 * rs.length + k) (nI v)) a rs (fun j => if j = k then v else c j) := by
  obtain ⟨⟨F, k1, k2, k3, k4, k5, k6, k8⟩, k7⟩ := K
  have o : ∀ j, gI (sI g 83 (2 + 5 * rs.length + k) (nI v)) 73 j = gI g 73 j := fun j => by rw [gI_sI, if_neg (by decide)]
  refine ⟨⟨F.trans (Fr.sI (Or.inr rfl)), fun j h1 h2 h3 h4 h5 h6 => by rw [o]; exact k1 j h1 h2 h3 h4 h5 h6, by rw [o]; exact k2, by rw [o]; exact k3, by rw [o]; exact k4, by rw [o]; exact k5, fun r hr => (k6 r hr).cg hr (by omega) (fun j hj => ?_) (fun j h1 h2 => ?_), fun j y1 y2 => ?_⟩, fun j hj => ?_⟩
  · rw [gI_sI, if_pos rfl, up_at, if_neg (by omega)]
  · rw [gI_sI, if_pos rfl, up_at, if_neg (by omega)]
  · rw [gI_sI, if_pos rfl, up_at, if_neg (by omega)]; exact k8 j y1 y2
  · show _ = nI (if j = k then v else c j)
    rw [gI_sI, if_pos rfl, up_at]
    by_cases z : j = k
    · rw [if_pos (by omega), if_pos z]
    · rw [if_neg (by omega), if_neg z]; exact k7 j hj
theorem KP.num (T : TR g0 b e) (K : KP g0 g a rs c) (ae : a ≤ e) (ai : ik b e a = ik b e i) (hlo : lo < 10000) (hhi : hi < 10000) : (∀ p, nmP b e lo hi i = .inl p → ∃ g', MX12_readNumber g 73 (nI lo) (nI hi) = some (nI 0, g') ∧ RFl g0 g' p) ∧ ∀ q, nmP b e lo hi i = .inr q → ∃ g', MX12_readNumber g 73 (nI lo) (nI hi) = some (nI 1, g') ∧ KP g0 g' q.1 rs c ∧ gI g' 73 11 = nI q.2 := by
  obtain ⟨g', e1, F1, c1, c2⟩ := r_tkN (K.1.tr T) K.1.2.2.1 ae hlo hhi
  rw [nm_ik ai] at e1 c2
  obtain ⟨⟨F, k1, k2, k3, k4, k5, k6, k8⟩, k7⟩ := K
  have F2 : Fr DFt g0 g' := F.trans (F1.mono (fun y z => Or.inl z))
  have o83 : gI g' 83 = gI g 83 := F1.2.2.2.2.2.2 83 (by decide)
  have o : ∀ j, j ≠ 8 → j ≠ 9 → j ≠ 10 → j ≠ 11 → j ≠ 19 → j ≠ 20 → gI g' 73 j = gI g0 73 j := fun j h1 h2 h3 h4 h5 h6 => by rw [c1 j h1 h2 h4]; exact k1 j h1 h1 h3 h4 h5 h6
  cases q : nmP b e lo hi i with
  | inl p =>
    rw [q] at e1 c2
    exact ⟨fun p' hp => by cases hp; exact ⟨g', e1, F2, o, c2⟩, fun q' hq => (nomatch hq)⟩
  | inr r =>
    rw [q] at e1 c2
    exact ⟨fun p' hp => (nomatch hp), fun q' hq => by
      cases hq
      exact ⟨g', e1, ⟨⟨F2, fun j h1 h2 h3 h4 h5 h6 => by
        by_cases z : j = 9
        · rw [z, c2.1]; exact k1 9 (by omega) (by omega) (by omega) (by omega) (by omega) (by omega)
        · exact o j h1 z h3 h4 h5 h6, c2.2.1, by rw [c1 10 (by omega) (by omega) (by omega)]; exact k3, by rw [c1 19 (by omega) (by omega) (by omega)]; exact k4, by rw [c1 20 (by omega) (by omega) (by omega)]; exact k5, fun r hr => by rw [o83]; exact k6 r hr, fun j y1 y2 => by rw [o83]; exact k8 j y1 y2⟩, fun k hk => by rw [o83]; exact k7 k hk⟩, c2.2.2⟩⟩
/-- the rule is read, its condition too -/
theorem KP.fin (K : KP g0 g9 a rs c) (hn : rs.length < 12) (D : DK g9 g a' 0 (poL rs rs.length) (l.flatMap encR)) (h3 : c 3 = if l.length = 0 then 0 else poL rs rs.length) : RPs g0 (sI g 83 (2 + 5 * rs.length + 4) (nI (l.flatMap encR).length)) a' (rs ++ [((c 0, c 1, c 2), l)]) rs.length (rs.length + 1) := by
  obtain ⟨⟨F, k1, k2, k3, k4, k5, k6, k8⟩, k7⟩ := K
  obtain ⟨F', d1, d2, d3, d4, d5⟩ := D
  have p62 := poL_62 (rs := rs) rs.length
  obtain ⟨g', hg'⟩ : ∃ g', g' = sI g 83 (2 + 5 * rs.length + 4) (nI (l.flatMap encR).length) := ⟨_, rfl⟩
  rw [← hg']
  have o : ∀ j, gI g' 73 j = gI g 73 j := fun j => by rw [hg', gI_sI, if_neg (by decide)]
  have q : ∀ j, gI g' 83 j = if j = 2 + 5 * rs.length + 4 then nI (l.flatMap encR).length else if poL rs rs.length ≤ j ∧ j < poL rs rs.length + (l.flatMap encR).length then nI ((l.flatMap encR).getD (j - poL rs rs.length) 0) else gI g9 83 j := fun j => by rw [hg', gI_sI, if_pos rfl, up_at, d5]
  have ll : (rs ++ [(((c 0, c 1, c 2), l) : Rl)]).length = rs.length + 1 := by rw [List.length_append]; rfl
  refine ⟨by rw [hg']; exact (F.trans F').trans (Fr.sI (Or.inr rfl)), fun j h1 h2 h3 h4 h5 h6 => by rw [o, d1 j h1 h2 h3 h4 h6]; exact k1 j h1 h2 h3 h4 h5 h6, by rw [o]; exact d2, by rw [o]; exact d3, by rw [o, d1 19 (by omega) (by omega) (by omega) (by omega) (by omega)]; exact k4, by rw [o, d4, ll, poL_end], fun r hr => ?_, fun j y1 y2 => ?_⟩
  case refine_2 =>
    rw [ll, poL_end] at y2
    have y2 : ¬ (62 ≤ j ∧ j < poL rs rs.length + (l.flatMap encR).length) := y2
    rw [q, if_neg (by omega), if_neg (by omega)]
    exact k8 j y1 (by omega)
  rw [ll] at hr
  by_cases z : r < rs.length
  · refine ((k6 r z).cg z (by omega) (fun j hj => ?_) (fun j h1 h2 => ?_)).app z
    · rw [q, if_neg (by omega), if_neg (by omega)]
    · rw [q, if_neg (by omega), if_neg (by omega)]
  · have z : r = rs.length := by omega
    subst z
    unfold RdF
    rw [gD_e, poL_app _ (Nat.le_refl _)]
    refine ⟨?_, ?_, ?_, ?_, ?_, fun i hi => ?_⟩
    · rw [q, if_neg (by omega), if_neg (by omega)]; exact k7 0 (by omega)
    · rw [q, if_neg (by omega), if_neg (by omega)]; exact k7 1 (by omega)
    · rw [q, if_neg (by omega), if_neg (by omega)]; exact k7 2 (by omega)
    · rw [q, if_neg (by omega), if_neg (by omega), ← h3]; exact k7 3 (by omega)
    · rw [q, if_pos rfl]
    · have hi : i < (l.flatMap encR).length := hi
      rw [q, if_neg (by omega), if_pos (by omega), Nat.add_sub_cancel_left]
theorem DK.z (T : TR g0 b e) (K : KP g0 g a rs c) : DK g g a 0 (poL rs rs.length) [] := ⟨Fr.rfl, fun _ _ _ _ _ _ => rfl, K.1.2.2.1, K.1.2.2.2.1, K.1.2.2.2.2.2.1, fun j => by rw [if_neg (show ¬ (poL rs rs.length ≤ j ∧ j < poL rs rs.length + ([] : List Nat).length) from fun z => by have : j < poL rs rs.length + 0 := z.2; omega)]⟩
/-- the rule is read, it has no condition -/
theorem KP.done (T : TR g0 b e) (K : KP g0 g a rs c) (hn : rs.length < 12) (h3 : c 3 = 0) (h4 : c 4 = 0) : RPs g0 g a (rs ++ [((c 0, c 1, c 2), [])]) rs.length (rs.length + 1) := by
  have := K.fin (l := []) hn (DK.z T K) h3
  rw [show sI g 83 (2 + 5 * rs.length + 4) (nI (([] : List Op).flatMap encR).length) = g from sI_id (by rw [K.2 4 (by omega), h4]; rfl)] at this
  exact this
theorem RFl.dx (K : KP g0 g9 a rs c) (X : DX g9 g p) : RFl g0 g p := ⟨K.1.1.trans X.1, fun j h1 h2 h3 h4 h5 h6 => by rw [X.2.1 j h1 h2 h3 h4 h6]; exact K.1.2.1 j h1 h1 h3 h4 h5 h6, X.2.2⟩
theorem r_if (T : TR g0 b e) (K : KP g0 g a rs c) (hn : rs.length < 12) (ae : a ≤ e) (hp : poL rs rs.length ≤ 62 + ik b e a) (h3 : c 3 = 0) (h4 : c 4 = 0) (must : Bool) : (∀ p, ifR b e must (c 0, c 1, c 2) a = .inl p → ∃ g', MX12_readIf g 73 (bI must) = some (nI 0, g') ∧ RFl g0 g' p) ∧ ∀ q, ifR b e must (c 0, c 1, c 2) a = .inr q → ∃ g' a', MX12_readIf g 73 (bI must) = some (nI 1, g') ∧ RPs g0 g' a' (rs ++ [q.2]) rs.length (rs.length + 1) ∧ a' ≤ e ∧ ik b e a' = ik b e q.1 := by
  have Tg := K.1.tr T
  have e400 := T.2.2.1
  obtain ⟨j1, j2⟩ := ik_le (b := b) ae
  have p62 := poL_62 (rs := rs) rs.length
  have tw := r_tkW Tg K.1.2.2.1 ae (k := 9) (by omega)
  unfold ifR MX12_readIf
  simp only [ZL]
  rw [gg_t (RS.f Tg.1).1, tw]
  by_cases wk : wdB b e 9 (ik b e a) = true
  · have w1 := (wd_i wk).1
    rw [if_pos wk, if_pos wk, wk, show bI true = nI 1 from rfl, b2_some, if_neg (show ¬ nI 1 = nI 0 by decide)]
    have K3 := K.s8 (ik b e a + sN 9)
    obtain ⟨g3, hg3⟩ : ∃ g3, g3 = sI g 73 8 (nI (ik b e a + sN 9)) := ⟨_, rfl⟩
    rw [← hg3] at K3 ⊢
    have R3 := RS.f (K3.1.tr T).1
    have K9 := K3.set (k := 3) (v := poL rs rs.length) hn (by omega)
    obtain ⟨g9, hg9⟩ : ∃ g9, g9 = sI g3 83 (2 + 5 * rs.length + 3) (nI (poL rs rs.length)) := ⟨_, rfl⟩
    rw [← hg9] at K9
    have T9 := K9.1.tr T
    obtain ⟨c1, c2⟩ := df_an (u := 28) T9 (df_at (P0 := poL rs rs.length) T9 5 28 (by omega) (by omega)) (at_g 5) g9 (ik b e a + sN 9) (ik b e a + sN 9) [] (DK.z T K9) w1 w1 rfl (by show poL rs rs.length + 0 ≤ _; omega)
    simp only [R3]
    rw [gg_T, gg_T, K3.1.2.2.2.2.1, K3.1.2.2.2.2.2.1, nMul, nAdd, nAdd, gg_in (by omega) (by omega), nCl (by omega), lt_eq, ← hg9, nAdd]
    cases q : anP b e (atP b e 5) (ik b e a + sN 9) with
    | inl p =>
      obtain ⟨g', k1, k2⟩ := c1 p q
      replace k1 : MX12_readAny 30 g9 73 = _ := k1
      refine ⟨fun p' hp => ?_, fun q' hq => (nomatch hq)⟩
      have hp : p = p' := by cases hp; rfl
      subst hp
      exact ⟨g', by rw [k1, b2_some, if_pos rfl], RFl.dx K9 k2⟩
    | inr r =>
      obtain ⟨g', a', k1, k2, k3, k4⟩ := c2 r q
      replace k1 : MX12_readAny 30 g9 73 = _ := k1
      have Rg := RS.f (k2.tr T9).1
      refine ⟨fun p' hp => (nomatch hp), fun q' hq => ?_⟩
      have hq : q' = (r.1, ((c 0, c 1, c 2), r.2)) := by cases hq; rfl
      subst hq
      have ne : ¬ r.2.length = 0 := fun z => by
        have dd := (((an_g (b := b) (at_g (b := b) (e := e) 5)) (ik b e a + sN 9) w1).2 r q).2.2.2.2.2 0 (by omega)
        rw [List.length_eq_zero_iff.mp z] at dd
        have dd : some 0 = some 1 := dd
        cases dd
      have fin := K9.fin (l := r.2) hn k2 (by rw [if_neg ne]; rfl)
      have e3 : gI g' 83 (2 + 5 * rs.length + 3) = nI (poL rs rs.length) := by
        rw [k2.2.2.2.2.2, if_neg (by omega), K9.2 3 (by omega)]
        rfl
      refine ⟨_, a', ?_, fin, k3, k4⟩
      have ll : ([] ++ r.2.flatMap encR).length = (r.2.flatMap encR).length := rfl
      rw [k1, b2_some, if_neg (show ¬ nI 1 = nI 0 by decide)]
      simp only [Rg]
      rw [gg_T, gg_T, gg_in (by omega) (by omega), gg_in (by omega) (by omega), nCl (by omega), e3, k2.2.2.2.2.1, nSub (by omega), Nat.add_sub_cancel_left, lt_eq]
      rfl
  · have wf : wdB b e 9 (ik b e a) = false := by
      cases x : wdB b e 9 (ik b e a) with
      | true => exact absurd x wk
      | false => rfl
    rw [if_neg wk, if_neg wk, wf, show bI false = nI 0 from rfl, b2_some, if_pos rfl]
    have K2 := K.s8 (ik b e a)
    cases must with
    | true =>
      rw [show bI true = nI 1 from rfl, if_neg (show ¬ nI 1 = nI 0 by decide), if_pos rfl]
      obtain ⟨z, y1, y2⟩ := K2.1.fails T
      refine ⟨fun p' hp => ?_, fun q' hq => (nomatch hq)⟩
      have hp : p' = ik b e a := by cases hp; rfl
      subst hp
      exact ⟨z, by rw [gg_t (RS.f (K2.1.tr T).1).1, y1, b2_some, if_pos rfl], y2⟩
    | false =>
      rw [show bI false = nI 0 from rfl, if_pos rfl, if_neg (by decide)]
      refine ⟨fun p' hp => (nomatch hp), fun q' hq => ?_⟩
      have hq : q' = (ik b e a, ((c 0, c 1, c 2), [])) := by cases hq; rfl
      subst hq
      exact ⟨_, ik b e a, rfl, K2.done T hn h3 h4, j2, rfl⟩
end
