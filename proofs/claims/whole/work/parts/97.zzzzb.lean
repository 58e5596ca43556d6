/-! copy is added: the class's loop -/
def cpN (s : TX) : Nat := tp s - (if 0 < s.2.1 then 1 else 0)
def cwN (s : TX) : Nat := tw s - (if 0 < s.2.1 ∨ s.2.2.1 = true then 1 else 0)
def AtS (h h1 : Hp) (p B0 W0 E0 : Nat) (s : TX) : Prop := AtI h h1 p B0 W0 E0 (40 * s.1) (cpN s) (cwN s) (tp s) s.2.2.1 s.2.2.2.2.2.1 s.2.2.2.2.2.2.1 s.2.2.2.2.2.2.2
section
variable {h h1 h2 : Hp} {p B0 W0 E0 w c run E i t f X n mp mw ba : Nat} {bh : Bool} {W Ln Lt : Nat → Int32} {b : Nat → Nat} {s s' s0 : TX}
/-- a step that goes on, no slash -/
theorem stT_c (hs : stT mp mw ba s c n = .inr s') (h47 : c ≠ 47) : (lB c = true ∧ s.2.1 = 0 ∧ tw1 s ≤ mw ∧ tp s + 1 + ba ≤ 40 ∧ s' = tNew s c) ∨ (lB c = true ∧ 0 < s.2.1 ∧ s.2.1 + 1 ≤ 12 ∧ s' = tOn s c) ∨ (lB c = false ∧ s.2.2.1 = false ∧ c = 45 ∧ 0 < s.2.1 ∧ s' = tHy s) ∨ (lB c = false ∧ s.2.2.1 = false ∧ c = 32 ∧ s' = tBl s) := by
  unfold stT at hs
  cases lc : lB c with
  | true =>
    rw [lc, if_pos rfl] at hs
    by_cases r0 : s.2.1 = 0
    · rw [if_pos r0] at hs
      by_cases z : mw < tw1 s ∨ 40 < tp s + 1 + ba
      · rw [if_pos z] at hs; cases hs
      · rw [if_neg z] at hs
        cases hs
        exact Or.inl ⟨rfl, r0, by omega, by omega, rfl⟩
    · rw [if_neg r0] at hs
      by_cases z : 12 < s.2.1 + 1
      · rw [if_pos z] at hs; cases hs
      · rw [if_neg z] at hs
        cases hs
        exact Or.inr (Or.inl ⟨rfl, by omega, by omega, rfl⟩)
  | false =>
    rw [lc, if_neg (by decide)] at hs
    cases bb : s.2.2.1 with
    | true =>
      rw [bb, if_pos rfl] at hs; cases hs
    | false =>
      rw [bb, if_neg (by decide)] at hs
      by_cases z1 : c = 45 ∧ 0 < s.2.1
      · rw [if_pos z1] at hs
        cases hs
        exact Or.inr (Or.inr (Or.inl ⟨rfl, rfl, z1.1, z1.2, rfl⟩))
      · rw [if_neg z1, if_neg (fun x => h47 x.1)] at hs
        by_cases z2 : c = 32
        · rw [if_pos z2] at hs
          cases hs
          exact Or.inr (Or.inr (Or.inr ⟨rfl, rfl, z2, rfl⟩))
        · rw [if_neg z2] at hs; cases hs
/-- what is known of the numbers -/
theorem ti_nm (T : TI mp mw ba s) (hm : mw ≤ 40) : (0 < s.2.1 ∨ s.2.2.1 = true → 1 ≤ tp s ∧ 1 ≤ tw s) ∧ tw s ≤ mw ∧ tp s + ba ≤ 40 ∧ (∀ x, x < tp s → Nn s.2.2.2.2.2.2.1 (40 * s.1 + x) ≤ 12) ∧ (∀ x, x + 1 = tp s → s.2.2.2.2.2.1 (40 * s.1 + x) = nI (tw s - 1) ∧ 1 ≤ tw s) := by
  obtain ⟨-, -, a3, a4, -, a6, -, a8⟩ := T
  obtain ⟨b1, b2⟩ := a8 s.1 (Nat.le_refl _)
  have b1 : tp s = 0 ↔ tw s = 0 := b1
  refine ⟨fun z => ⟨a6 z, ?_⟩, ((a3 s.1 (Nat.le_refl _)).1.eq (by omega)).2, a4, fun x hx => ((b2 x hx).2.1.1.eq (by omega)).2, fun x hx => ?_⟩
  · have := a6 z
    omega
  · obtain ⟨⟨c1, -, c3, -⟩, -, -⟩ := b2 x (show x < tp s by omega)
    have c3 : Nn s.2.2.2.2.2.1 (40 * s.1 + x) + 1 = tw s := c3 hx
    obtain ⟨e1, e2⟩ := c1.eq (by omega)
    exact ⟨by rw [e1, show Nn s.2.2.2.2.2.1 (40 * s.1 + x) = tw s - 1 by omega], by omega⟩
theorem as_new (N : PtN h p) (A : AtS h h1 p B0 W0 E0 s) (T : TI mp mw ba s) (hm : mw ≤ 40) (r0 : s.2.1 = 0) (h1w : tw1 s ≤ mw) (h2p : tp s + 1 + ba ≤ 40) : AtS h (sI h1 (gP h p 0) (E0 + lT s.2.2.2.2.2.2.1 (40 * s.1) (tp s)) (nI (c - 97))) p B0 W0 E0 (tNew s c) := by
  obtain ⟨n1, n2, n3, n4, n5⟩ := ti_nm T hm
  have c0 : cpN s = tp s := by unfold cpN; rw [if_neg (by omega)]; rfl
  have e2 : tp (tNew s c) = tp s + 1 := by
    show Nn (va_up s.2.2.2.2.1 s.1 (nI (tp s + 1))) s.1 = _
    rw [nnU (by omega), if_pos rfl]
  have e1 : cpN (tNew s c) = tp s := by
    unfold cpN
    rw [e2, if_pos (show 0 < (tNew s c).2.1 from Nat.one_pos), Nat.add_sub_cancel]
  have e3 : cwN (tNew s c) = cwN s := by
    have e4 : tw (tNew s c) = tw1 s := by
      show Nn (va_up s.2.2.2.1 s.1 (nI (tw1 s))) s.1 = _
      rw [nnU (by omega), if_pos rfl]
    unfold cwN
    rw [e4, if_pos (Or.inl (show 0 < (tNew s c).2.1 from Nat.one_pos))]
    unfold tw1
    cases bb : s.2.2.1 with
    | true => rw [if_pos rfl, if_pos (Or.inr rfl)]; rfl
    | false => rw [if_neg (by decide), if_neg (by intro x; exact x.elim (fun y => by omega) (fun y => Bool.noConfusion y))]; rfl
  unfold AtS at A ⊢
  rw [c0] at A
  rw [e1, e2, e3]
  exact at_new N A (fun x hx => n4 x hx) fun x hx => by
    obtain ⟨q1, q2⟩ := n5 x hx
    rw [q1]
    unfold tw1
    cases bb : s.2.2.1 with
    | true => rw [if_pos rfl]; exact ⟨fun _ => rfl, fun _ => rfl⟩
    | false =>
      rw [if_neg (by decide), nEq (by omega) (by omega)]
      exact ⟨fun x => by omega, fun x => Bool.noConfusion x⟩
theorem as_on (N : PtN h p) (A : AtS h h1 p B0 W0 E0 s) (T : TI mp mw ba s) (hm : mw ≤ 40) (r0 : 0 < s.2.1) (r12 : s.2.1 + 1 ≤ 12) : AtS h (sI h1 (gP h p 0) (E0 + lT s.2.2.2.2.2.2.1 (40 * s.1) (cpN s) + s.2.1) (nI (c - 97))) p B0 W0 E0 (tOn s c) := by
  obtain ⟨n1, n2, n3, n4, n5⟩ := ti_nm T hm
  obtain ⟨n6, n7⟩ := n1 (Or.inl r0)
  have bf := (T.2.2.2.2.1 r0).1
  have c0 : tp s = cpN s + 1 := by unfold cpN; rw [if_pos r0]; omega
  have lr : s.2.2.2.2.2.2.1 (40 * s.1 + cpN s) = nI s.2.1 := by
    have := (T.2.2.2.2.1 r0).2
    rw [c0, show 40 * s.1 + (cpN s + 1) - 1 = 40 * s.1 + cpN s by omega] at this
    exact this
  have e1 : cpN (tOn s c) = cpN s := by
    unfold cpN
    rw [if_pos (show 0 < (tOn s c).2.1 from Nat.succ_pos _), if_pos r0]
    rfl
  have e3 : cwN (tOn s c) = cwN s := by
    unfold cwN
    rw [if_pos (Or.inl (show 0 < (tOn s c).2.1 from Nat.succ_pos _)), if_pos (Or.inl r0)]
    rfl
  unfold AtS at A ⊢
  rw [c0, bf] at A
  rw [e1, e3]
  have R := at_on (c := c) N A (fun x hx => n4 x (by omega)) lr (by omega)
  show AtI h _ p B0 W0 E0 (40 * s.1) (cpN s) (cwN s) (tp s) false s.2.2.2.2.2.1 (va_up s.2.2.2.2.2.2.1 (40 * s.1 + tp s - 1) (nI (s.2.1 + 1))) (va_up s.2.2.2.2.2.2.2 (12 * (40 * s.1 + tp s - 1) + s.2.1) (nI (c - 97)))
  rw [c0, show 40 * s.1 + (cpN s + 1) - 1 = 40 * s.1 + cpN s by omega]
  exact R
/-- a piece closed -/
theorem as_bit (S : PtS h p) (N : PtN h p) (A : AtS h h1 p B0 W0 E0 s) (T : TI mp mw ba s) (hm : mw ≤ 40) (hB : B0 ≤ ba) (hE : E0 ≤ 12 * B0) (r0 : 0 < s.2.1) {cl : Nat} (hcl : cl ≤ 1) (hs : s' = if cl = 0 then tHy s else tBl s) : ∃ h2, MX5_addBit h1 p (nI (E0 + lT s.2.2.2.2.2.2.1 (40 * s.1) (cpN s) + s.2.1)) (nI cl) = some h2 ∧ AtS h h2 p B0 W0 E0 s' ∧ cpN s' = cpN s + 1 ∧ s'.1 = s.1 ∧ s'.2.1 = 0 ∧ lT s'.2.2.2.2.2.2.1 (40 * s'.1) (cpN s') = lT s.2.2.2.2.2.2.1 (40 * s.1) (cpN s) + s.2.1 := by
  obtain ⟨n1, n2, n3, n4, n5⟩ := ti_nm T hm
  obtain ⟨n6, n7⟩ := n1 (Or.inl r0)
  have r12 := T.2.1
  have bf := (T.2.2.2.2.1 r0).1
  have c0 : tp s = cpN s + 1 := by unfold cpN; rw [if_pos r0]; omega
  have lr : s.2.2.2.2.2.2.1 (40 * s.1 + cpN s) = nI s.2.1 := by
    have := (T.2.2.2.2.1 r0).2
    rw [c0, show 40 * s.1 + (cpN s + 1) - 1 = 40 * s.1 + cpN s by omega] at this
    exact this
  have lb := lT_b (f := s.2.2.2.2.2.2.1) (o := 40 * s.1) (cpN s) (fun y hy => n4 y (by omega))
  have cw0 : tw s = cwN s + 1 := by unfold cwN; rw [if_pos (Or.inl r0)]; omega
  unfold AtS at A
  rw [c0, bf] at A
  have R := at_bit N A lr r12 hcl
  have K := c_addBit (cl := cl) S A.1 N A.2.2.1 A.2.2.2.1 (show B0 + cpN s < 40 by omega) (show E0 + lT s.2.2.2.2.2.2.1 (40 * s.1) (cpN s) + s.2.1 ≤ 480 by omega) hcl
  have tps : tp s' = tp s ∧ tw s' = tw s ∧ s'.1 = s.1 ∧ s'.2.1 = 0 ∧ s'.2.2.1 = decide (cl = 0) ∧ s'.2.2.2.2.2 = s.2.2.2.2.2 := by
    rcases (show cl = 0 ∨ cl = 1 by omega) with rfl | rfl
    · rw [if_pos rfl] at hs; rw [hs]; exact ⟨rfl, rfl, rfl, rfl, rfl, rfl⟩
    · rw [if_neg (by decide)] at hs; rw [hs]; exact ⟨rfl, rfl, rfl, rfl, rfl, rfl⟩
  obtain ⟨t1, t2, t3, t4, t5, t6⟩ := tps
  have c1 : cpN s' = cpN s + 1 := by unfold cpN at c0 ⊢; rw [t4, t1, if_neg (by omega)]; exact c0
  have c2 : cwN s' = cwN s + cl := by
    unfold cwN
    rw [t4, t2, t5]
    rcases (show cl = 0 ∨ cl = 1 by omega) with rfl | rfl
    · rw [if_pos (show (0 : Nat) < 0 ∨ decide ((0 : Nat) = 0) = true from Or.inr (by decide)), if_pos (Or.inl r0)]; rfl
    · rw [if_neg (by decide), if_pos (Or.inl r0)]; omega
  refine ⟨_, K, ?_, c1, t3, t4, ?_⟩
  · unfold AtS
    rw [c1, c2, t1, t3, t5, t6, c0]
    exact R
  · rw [c1, t3, t6]
    show lT s.2.2.2.2.2.2.1 (40 * s.1) (cpN s) + Nn s.2.2.2.2.2.2.1 (40 * s.1 + cpN s) = _
    unfold Nn
    rw [lr, nCl (by omega)]
/-- a text is added -/
theorem c_addTx (S : PtS h p) (N : PtN h p) (T0 : TI mp mw ba s0) (hm : mw ≤ 40) (hba : ba ≤ 40) (hB : B0 ≤ ba) (hE : E0 ≤ 12 * B0) (hX : ¬ PD h p X) (kX : kd h X = 21) (lX : t ≤ ln h X) (lb : ln h X < 100000) (hc : ∀ i, f ≤ i → i < t → gI h X i = bS (b i) ∧ b i ≤ 255 ∧ b i ≠ 47) (ft : f ≤ t) (h5 : gI h p 5 = nI B0) (h6 : gI h p 6 = nI W0) (h1B : gI h (gP h p 1) B0 = nI E0) {sf st : TX} (hf : ruT mp mw ba b s0 f = .inr sf) (f1 : sf.2.1 = 0) (f2 : sf.2.2.1 = false) (f3 : tp sf = 0) (f4 : tw sf = 0) (ht : ruT mp mw ba b s0 t = .inr st) (hb : st.2.2.1 = false) : st.1 = sf.1 ∧ ∃ h1, MX5_addText h p X (nI f) (nI t) = some h1 ∧ AtI h h1 p B0 W0 E0 (40 * st.1) (tp st) (tw st) (tp st) false st.2.2.2.2.2.1 st.2.2.2.2.2.2.1 st.2.2.2.2.2.2.2 := by
  have t31 : t < 100000 := by omega
  have b40 : B0 ≤ 40 := by omega
  have A0 : AtS h h p B0 W0 E0 sf := by
    have e1 : cpN sf = 0 := by unfold cpN; rw [f3]; exact Nat.zero_sub _
    have e2 : cwN sf = 0 := by unfold cwN; rw [f4]; exact Nat.zero_sub _
    unfold AtS
    rw [e1, e2, f3]
    refine ⟨Fr.rfl, fun _ _ _ => rfl, h5, h6, fun _ _ => rfl, fun _ _ => rfl, fun _ _ => rfl, S.2.2.2.2.2.2.2.2.2, fun x hx => ?_, fun x hx => by omega, fun x hx => by omega⟩
    have : x = 0 := by omega
    subst this
    exact h1B
  have K : ∀ d i s h1, i + d = t → f ≤ i → ruT mp mw ba b s0 i = .inr s → s.1 = sf.1 → AtS h h1 p B0 W0 E0 s → st.1 = sf.1 ∧ ∃ h2, it (fun q : Int32 × Int32 × Int32 × Hp => BX5_addText_17 q.2.2.2 p X (nI t) q.1 q.2.1 q.2.2.1) (nI (E0 + lT s.2.2.2.2.2.2.1 (40 * s.1) (cpN s)), nI s.2.1, nI i, h1) = some h2 ∧ AtI h h2 p B0 W0 E0 (40 * st.1) (tp st) (tw st) (tp st) false st.2.2.2.2.2.1 st.2.2.2.2.2.2.1 st.2.2.2.2.2.2.2 := fun d => by
    induction d with
    | zero =>
      intro i s h1 hi hfi hr hk A
      have hi : i = t := hi
      subst hi
      rw [hr] at ht
      cases ht
      have TS := ti_ru T0 hm hba i st hr
      obtain ⟨n1, n2, n3, n4, n5⟩ := ti_nm TS hm
      have r12 := TS.2.1
      have kh : kd h1 p = 4 := by rw [A.1.1]; exact S.1
      have head : BX5_addText_17 h1 p X (nI i) (nI (E0 + lT st.2.2.2.2.2.2.1 (40 * st.1) (cpN st))) (nI st.2.1) (nI i) = up1 (MX5_addText_121 h1 p (nI (E0 + lT st.2.2.2.2.2.2.1 (40 * st.1) (cpN st))) (nI st.2.1)) := by
        unfold BX5_addText_17
        rw [if_pos (nI_le (Nat.le_refl _) (by omega))]
      by_cases r0 : 0 < st.2.1
      · obtain ⟨h2, a1, a2, a3, a4, a5, a6⟩ := as_bit (cl := 1) S N A TS hm hB hE r0 (Nat.le_refl 1) (by rw [if_neg (by decide)])
        refine ⟨hk, h2, it_done ?_, ?_⟩
        · show BX5_addText_17 h1 p X (nI i) (nI (E0 + lT st.2.2.2.2.2.2.1 (40 * st.1) (cpN st))) (nI st.2.1) (nI i) = _
          rw [head]
          unfold MX5_addText_121
          simp only [ZL]
          rw [if_neg (nI_ge r0 (by omega)), gg_t kh, nAdd, a1]
          rfl
        · have e1 : cpN (tBl st) = tp (tBl st) := by unfold cpN; rw [if_neg (by show ¬ 0 < 0; omega)]; rfl
          have e2 : cwN (tBl st) = tw (tBl st) := by unfold cwN; rw [if_neg (show ¬ (0 < (tBl st).2.1 ∨ (tBl st).2.2.1 = true) from fun x => x.elim (fun y => absurd (show 0 < 0 from y) (Nat.lt_irrefl 0)) (fun y => Bool.noConfusion (show false = true from y)))]; rfl
          unfold AtS at a2
          rw [e1, e2] at a2
          exact a2
      · have r00 : st.2.1 = 0 := by omega
        have e1 : cpN st = tp st := by unfold cpN; rw [if_neg r0]; rfl
        have e2 : cwN st = tw st := by unfold cwN; rw [if_neg (show ¬ (0 < st.2.1 ∨ st.2.2.1 = true) from fun x => x.elim r0 (fun y => by rw [hb] at y; exact Bool.noConfusion y))]; rfl
        refine ⟨hk, h1, it_done ?_, ?_⟩
        · show BX5_addText_17 h1 p X (nI i) (nI (E0 + lT st.2.2.2.2.2.2.1 (40 * st.1) (cpN st))) (nI st.2.1) (nI i) = _
          rw [head]
          unfold MX5_addText_121
          simp only [ZL]
          rw [if_pos (nI_le (by omega) (by omega))]
          rfl
        · unfold AtS at A
          rw [e1, e2, hb] at A
          exact A
    | succ d ih =>
      intro i s h1 hi hfi hr hk A
      have TS := ti_ru T0 hm hba i s hr
      obtain ⟨n1, n2, n3, n4, n5⟩ := ti_nm TS hm
      have r12 := TS.2.1
      obtain ⟨x1, x2, x3⟩ := hc i hfi (by omega)
      have kh : kd h1 p = 4 := by rw [A.1.1]; exact S.1
      have xX : gI h1 X i = bS (b i) := by rw [A.1.2.2.2.2.2.2 X hX]; exact x1
      have cpt : cpN s ≤ tp s := Nat.sub_le _ _
      have lb := lT_b (f := s.2.2.2.2.2.2.1) (o := 40 * s.1) (cpN s) (fun y hy => n4 y (by omega))
      obtain ⟨s', hs'⟩ : ∃ s', ruT mp mw ba b s0 (i + 1) = .inr s' := by
        cases e : ruT mp mw ba b s0 (i + 1) with
        | inr s' => exact ⟨s', rfl⟩
        | inl q =>
          have := ruT_e e d
          rw [show i + 1 + d = t by omega, ht] at this
          cases this
      have st1 := hs'
      rw [ruT_s hr] at st1
      obtain ⟨-, s2, s3⟩ := S.2.1
      obtain ⟨v4, hv4⟩ : ∃ v4, v4 = E0 + lT s.2.2.2.2.2.2.1 (40 * s.1) (cpN s) := ⟨_, rfl⟩
      have letH : lB (b i) = true → v4 + s.2.1 < 480 → BX5_addText_17 h1 p X (nI t) (nI v4) (nI s.2.1) (nI i) = some (.inl (nI v4, nI (s.2.1 + 1), nI (i + 1), sI h1 (gP h p 0) (v4 + s.2.1) (nI (b i - 97)))) := fun lc hv => by
        obtain ⟨l1, l2⟩ := lB_t.mp lc
        have bs : bS (b i) = nI (b i) := by unfold bS; rw [if_pos (by omega)]
        unfold BX5_addText_17
        simp only [ZL, A.1.1, A.1.2.1, A.1.2.2.1]
        rw [if_neg (nI_ge (by omega) (by omega)), gg_t kX, if_neg (nI_ge (by omega) (by omega)), gg_in (by omega) (by omega), nCl (by omega), xX, c_isL x2, lc, ob_some, if_neg (show ¬ bI true = nI 0 by decide), gg_t S.1, gg_t s2, s3, nAdd, if_neg (nI_ge hv (by omega)), gg_in hv (by omega), nCl (by omega), bs, nSub l1, bB _ (by omega), lt_eq, nAdd, nAdd]
      have noH : lB (b i) = false → ∀ r, r = nI s.2.1 → BX5_addText_17 h1 p X (nI t) (nI v4) r (nI i) = if s.2.1 ≤ 0 then some (.inl (nI v4, nI s.2.1, nI (i + 1), h1)) else if b i = 45 then MX5_addText_102 h1 p X (nI t) (nI v4) (nI s.2.1) (nI i) p (nI (v4 + s.2.1)) (nI 0) else MX5_addText_102 h1 p X (nI t) (nI v4) (nI s.2.1) (nI i) p (nI (v4 + s.2.1)) (nI 1) := fun lc r hr => by
        subst hr
        obtain ⟨q1, -, -⟩ := bS_c (b i) (by omega)
        unfold BX5_addText_17
        simp only [ZL, A.1.1, A.1.2.1, A.1.2.2.1]
        rw [if_neg (nI_ge (by omega) (by omega)), gg_t kX, if_neg (nI_ge (by omega) (by omega)), gg_in (by omega) (by omega), nCl (by omega), xX, c_isL x2, lc, ob_some, if_pos (show bI false = nI 0 from rfl), nAdd, nAdd]
        by_cases z : s.2.1 ≤ 0
        · rw [if_pos (nI_le z (by omega)), if_pos z]
        · rw [if_neg (nI_ge (by omega) (by omega)), if_neg z]
          by_cases y : b i = 45
          · rw [if_pos (q1.mpr y), if_pos y]
          · rw [if_neg (fun u => y (q1.mp u)), if_neg y]
      have h102 : ∀ (cl : Nat) h2, MX5_addBit h1 p (nI (v4 + s.2.1)) (nI cl) = some h2 → MX5_addText_102 h1 p X (nI t) (nI v4) (nI s.2.1) (nI i) p (nI (v4 + s.2.1)) (nI cl) = some (.inl (nI (v4 + s.2.1), nI 0, nI (i + 1), h2)) := fun cl h2 e => by
        unfold MX5_addText_102
        simp only [ZL]
        rw [gg_t kh, e, ob_some, nAdd, nAdd]
      rw [← hv4]
      rcases stT_c st1 x3 with ⟨lc, r0, w1, p1, es⟩ | ⟨lc, r0, r1, es⟩ | ⟨lc, bf, b45, r0, es⟩ | ⟨lc, bf, b32, es⟩
      · have c0 : cpN s = tp s := by unfold cpN; rw [if_neg (by omega)]; rfl
        have nx := letH lc (by omega)
        rw [it_next (s' := (nI v4, nI (s.2.1 + 1), nI (i + 1), sI h1 (gP h p 0) (v4 + s.2.1) (nI (b i - 97)))) nx]
        have An := as_new (c := b i) N A TS hm r0 w1 p1
        subst es
        have cn : cpN (tNew s (b i)) = tp s := by
          unfold cpN
          rw [show tp (tNew s (b i)) = tp s + 1 by
            show Nn (va_up s.2.2.2.2.1 s.1 (nI (tp s + 1))) s.1 = _
            rw [nnU (by omega), if_pos rfl], if_pos (show 0 < (tNew s (b i)).2.1 from Nat.one_pos), Nat.add_sub_cancel]
        have lc' : lT (tNew s (b i)).2.2.2.2.2.2.1 (40 * s.1) (tp s) = lT s.2.2.2.2.2.2.1 (40 * s.1) (tp s) := lT_c _ (fun y hy => by
          show va_up s.2.2.2.2.2.2.1 (40 * s.1 + tp s) (nI 1) (40 * s.1 + y) = _
          rw [up_at, if_neg (by omega)])
        have I := ih (i + 1) (tNew s (b i)) (sI h1 (gP h p 0) (v4 + s.2.1) (nI (b i - 97))) (by omega) (by omega) hs' hk (by rw [hv4, r0, c0, Nat.add_zero]; exact An)
        rw [show (tNew s (b i)).1 = s.1 from rfl, cn, lc', ← c0, ← hv4] at I
        rw [r0] at I ⊢
        exact I
      · have nx := letH lc (by unfold cpN at hv4 lb; rw [if_pos r0] at hv4 lb; have := (n1 (Or.inl r0)).1; omega)
        rw [it_next (s' := (nI v4, nI (s.2.1 + 1), nI (i + 1), sI h1 (gP h p 0) (v4 + s.2.1) (nI (b i - 97)))) nx]
        have Ao := as_on (c := b i) N A TS hm r0 r1
        subst es
        have cn : cpN (tOn s (b i)) = cpN s := by
          unfold cpN
          rw [if_pos (show 0 < (tOn s (b i)).2.1 from Nat.succ_pos _), if_pos r0]
          rfl
        have c1 : tp s = cpN s + 1 := by unfold cpN; rw [if_pos r0]; have := (n1 (Or.inl r0)).1; omega
        have lc' : lT (tOn s (b i)).2.2.2.2.2.2.1 (40 * s.1) (cpN s) = lT s.2.2.2.2.2.2.1 (40 * s.1) (cpN s) := lT_c _ (fun y hy => by
          show va_up s.2.2.2.2.2.2.1 (40 * s.1 + tp s - 1) (nI (s.2.1 + 1)) (40 * s.1 + y) = _
          rw [up_at, if_neg (by omega)])
        have I := ih (i + 1) (tOn s (b i)) (sI h1 (gP h p 0) (v4 + s.2.1) (nI (b i - 97))) (by omega) (by omega) hs' hk (by rw [hv4]; exact Ao)
        rw [show (tOn s (b i)).1 = s.1 from rfl, cn, lc', ← hv4] at I
        exact I
      · obtain ⟨h2, a1, a2, a3, a4, a5, a6⟩ := as_bit (cl := 0) (s' := s') S N A TS hm hB hE r0 (by omega) (by rw [if_pos rfl]; exact es)
        rw [← hv4] at a1
        have nx := noH lc _ rfl
        rw [if_neg (by omega), if_pos b45, h102 0 h2 a1] at nx
        rw [it_next (s' := (nI (v4 + s.2.1), nI 0, nI (i + 1), h2)) nx]
        have I := ih (i + 1) s' h2 (by omega) (by omega) hs' (by rw [a4]; exact hk) a2
        rw [a6, a5, ← Nat.add_assoc, ← hv4] at I
        exact I
      · by_cases r0 : 0 < s.2.1
        · obtain ⟨h2, a1, a2, a3, a4, a5, a6⟩ := as_bit (cl := 1) (s' := s') S N A TS hm hB hE r0 (by omega) (by rw [if_neg (by decide)]; exact es)
          rw [← hv4] at a1
          have nx := noH lc _ rfl
          rw [if_neg (by omega), if_neg (show ¬ b i = 45 by omega), h102 1 h2 a1] at nx
          rw [it_next (s' := (nI (v4 + s.2.1), nI 0, nI (i + 1), h2)) nx]
          have I := ih (i + 1) s' h2 (by omega) (by omega) hs' (by rw [a4]; exact hk) a2
          rw [a6, a5, ← Nat.add_assoc, ← hv4] at I
          exact I
        · have r00 : s.2.1 = 0 := by omega
          have nx := noH lc _ rfl
          rw [if_pos (by omega)] at nx
          rw [it_next (s' := (nI v4, nI s.2.1, nI (i + 1), h1)) nx]
          have ess : s' = s := by
            rw [es]
            obtain ⟨k, run, bh, rest⟩ := s
            have r00 : run = 0 := r00
            have bf : bh = false := bf
            rw [r00, bf]
            rfl
          rw [ess] at hs'
          have I := ih (i + 1) s h1 (by omega) (by omega) hs' hk A
          rw [← hv4] at I
          exact I
  have I := K (t - f) f sf h (by omega) (Nat.le_refl _) hf rfl A0
  have cf : cpN sf = 0 := by unfold cpN; rw [f3]; exact Nat.zero_sub _
  rw [f1, cf] at I
  obtain ⟨-, s4, s5⟩ := S.2.2.1
  refine ⟨I.1, ?_⟩
  obtain ⟨h1, i1, i2⟩ := I.2
  refine ⟨h1, ?_, i2⟩
  unfold MX5_addText MX5_addText_17
  simp only [ZL]
  rw [gg_t S.1, gg_t s4, h5, s5, gg_in (by omega) (by omega), nCl (by omega), h1B]
  exact i1
end
