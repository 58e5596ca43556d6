/-! may a set be fitted; fit, fits -/
theorem it_u1 {σ ρ : Type} {f : σ → Option (σ ⊕ ρ)} {s : σ} {X : Option ρ} (h : f s = up1 X) : it f s = X := by
  rw [it_eq, h]
  cases X <;> rfl
theorem bT_some {α β : Type} (v : α) (w : Hp) (f : α → Hp → Option ((β ⊕ Nat) × Hp)) : bT (some (.inl v, w)) f = f v w := rfl
theorem bT_thr {α β : Type} (k : Nat) (w : Hp) (f : α → Hp → Option ((β ⊕ Nat) × Hp)) : bT (some (.inr k, w)) f = some (.inr k, w) := rfl
/-- story s is not of the set, or all of it is set -/
noncomputable def stB (m : Nat → Int32) (a s : Nat) : Bool := @decide (btN a s = 1 → ∀ k, k < Nn m (110 + s) → m (130 + 645 * (5 * s + k) + 3) ≠ nI 0) (Classical.propDecidable _)
theorem stB_t {m : Nat → Int32} {a s : Nat} (h : btN a s = 1 → ∀ k, k < Nn m (110 + s) → m (130 + 645 * (5 * s + k) + 3) ≠ nI 0) : stB m a s = true := @decide_eq_true _ (Classical.propDecidable _) h
theorem stB_i {m : Nat → Int32} {a s : Nat} (h : stB m a s = true) : btN a s = 1 → ∀ k, k < Nn m (110 + s) → m (130 + 645 * (5 * s + k) + 3) ≠ nI 0 := @of_decide_eq_true _ (Classical.propDecidable _) h
theorem stB_f {m : Nat → Int32} {a s : Nat} (h : ¬ (btN a s = 1 → ∀ k, k < Nn m (110 + s) → m (130 + 645 * (5 * s + k) + 3) ≠ nI 0)) : stB m a s = false := @decide_eq_false _ (Classical.propDecidable _) h
section
variable {tg : Nat → List Nat} {h h' h1 : Hp} {m k t : Nat → Int32} {i n f : Int32} {a p s r x : Nat} {c : Nat → Nat} {D : Nat → Prop}
theorem CSt.ft (C : CSt tg h m k i t n f) (F : Fr D h h') (hD : ∀ b, D b → b ≠ 0 ∧ [x] <:+ tg b) (hx : x = 7 ∨ x = 8) : CSt tg h' m k i t n f := by
  obtain ⟨O, X, X2, S, V, Dk, DV, I, T, Im, Tr⟩ := C
  obtain ⟨t1, t2, t3, -, -, -, t19, t48, -⟩ := tgs O X
  have A : ∀ y, y ≠ x → Aw tg D y := fun y hy => Aw.of hD hy
  have n1 : ¬ D 1 := fun d => by
    have := (hD 1 d).2
    rw [t1] at this
    have := this.length_le
    simp at this
  have n2 : ¬ D 2 := fun d => by
    have := (hD 2 d).2
    rw [t2] at this
    have := suf1 this (List.suffix_refl [0])
    omega
  have e5 := sm3.fr (r := 19) O t3 F (A 5 (by omega)) (by omega) (by rw [t19]; exact List.suffix_refl _)
  have e6 := sm3.fr (r := 48) O t3 F (A 6 (by omega)) (by omega) (by rw [t48]; exact List.suffix_refl _)
  exact ⟨O.fr F, X.fr F, X2.fr O X F (A 3 (by omega)) (A 4 (by omega)), S.congr e5, V.congr e5, Dk.congr e6, DV.congr e6, I, T.fr F n1 n2, Im.fr O X F (A 9 (by omega)) (A 10 (by omega)), tr_fr Tr O X F (A 11 (by omega))⟩
theorem Pr.ft {cm : Nat → Nat} {X : Option ((Int32 ⊕ Nat) × Hp)} {Y : Hp → Option (Int32 × Hp)} (C : CSt tg h m k i t n f) (R : RSt h m k i t n f) (v : Int32) (hX : X = some (.inl v, h1)) (F : Fr D h h1) (hD : ∀ b, D b → b ≠ 0 ∧ [x] <:+ tg b) (hx : x = 7 ∨ x = 8) (hY : ∀ h', RSt h' m k i t n f → ∃ h2, Y h' = some (v, h2) ∧ Fr Rc h' h2 ∧ RSt h2 m k i t n f ∧ gI h2 73 0 = nI 0) : Pr cm Gq h X Y := by
  have rp : Rp h h1 := F.rp (fun b d => nr C.1 R.1 (x := x) (by omega) (by omega) (hD b d).2)
  refine ⟨.inl v, h1, tg, m, k, i, t, n, f, hX, C.ft F hD hx, rp, F.gq, fun h' o => ?_⟩
  obtain ⟨h2, e1, e2, e3, e4⟩ := hY h' ((R.rp rp).ou o)
  exact ⟨v, h2, e1, e2, e3, e4, Eq.refl _⟩
/-- the fitter's cells -/
theorem fit_x (C : CSt tg h m k i t n f) : FX h (gP h 59) ∧ AX (gP h 59) ∧ (∀ b, TW (gP h 59) b → b ≠ 0 ∧ [7] <:+ tg b) ∧ HR h (gP h 59) 19 m := by
  obtain ⟨O, X, X2, -⟩ := id C
  obtain ⟨t1, t2, t3, t4, t5, t13, t19, t48, t59, t68⟩ := tgs O X
  obtain ⟨a2, a3, a4, a5, a6, a7, a8, a9, -⟩ := X2
  have z : ∀ k, 2 ≤ k → k ≤ 9 → gP h 59 k ≠ 0 ∧ kd h (gP h 59 k) = 20 ∧ ln h (gP h 59 k) = (if k = 8 then 24 else 4) := fun k h1 h2 => by
    have : k = 2 ∨ k = 3 ∨ k = 4 ∨ k = 5 ∨ k = 6 ∨ k = 7 ∨ k = 8 ∨ k = 9 := by omega
    rcases this with rfl | rfl | rfl | rfl | rfl | rfl | rfl | rfl <;> assumption
  have tk : ∀ k, 2 ≤ k → k ≤ 9 → tg (gP h 59 k) = [k, 7] := fun k h1 h2 => by rw [tgc O (z k h1 h2).1 (by omega), t59]
  have hD : ∀ b, TW (gP h 59) b → b ≠ 0 ∧ [7] <:+ tg b := fun b hb => by
    rcases hb with rfl | ⟨k, h1, h2, rfl⟩
    · exact ⟨by omega, by rw [t59]; exact List.suffix_refl _⟩
    · exact ⟨(z k h1 h2).1, by rw [tk k h1 h2]; exact List.suffix_append [k] [7]⟩
  refine ⟨⟨X.f.2.2.2.2.2.2.2.2.2.2.2.2.2.2.2.1, rfl, fun k h1 h2 => (z k h1 h2).2⟩, fun k h1 h2 => ⟨fun e => ?_, fun l h3 h4 hn e => ?_⟩, hD, fun g F => ?_⟩
  · have := tk k h1 h2
    rw [e, t59] at this
    simp at this
  · have := tk k h1 h2
    rw [e, tk l h3 h4] at this
    simp at this
    exact hn this.symm
  · have := C.ft F hD (Or.inl rfl)
    exact ⟨this.2.2.2.1, this.2.2.2.2.1⟩
/-! the class asks -/
theorem c_isSet (S : RmS h r) (V : RmV h r m) (I : MI m) (hs : s < Nn m 1) : ((∀ k, k < Nn m (110 + s) → m (130 + 645 * (5 * s + k) + 3) ≠ nI 0) → MX7_isStorySet h r (nI s) = some (nI 1)) ∧ (¬ (∀ k, k < Nn m (110 + s) → m (130 + 645 * (5 * s + k) + 3) ≠ nI 0) → MX7_isStorySet h r (nI s) = some (nI 0)) := by
  have f1 := I.1.f.2.1.2
  have s5 := ((I.1.2.2.2.2.2.2.2.2.2 s hs).2.2.1.eq (by omega)).2
  have st : ∀ j, j < 5 → BX7_isStorySet_2 h r (nI s) (nI j) = if j < Nn m (110 + s) ∧ m (130 + 645 * (5 * s + j) + 3) = nI 0 then some (.inr (nI 0)) else some (.inl (nI (j + 1))) := fun j hj => by
    unfold BX7_isStorySet_2
    simp only [ZL]
    rw [if_neg (nI_ge hj (by omega)), gg_t S.1, nMul, nAdd, nAdd]
    by_cases z : j < Nn m (110 + s)
    · obtain ⟨vq, -⟩ := ln_p I hs z
      obtain ⟨C, hC, c1, c2, c3, c4⟩ := c_findPart_t S V I.1 vq
      rw [c1, ob_some, if_neg c2, gg_t c3.1, c4.2.2.2.2.2.1]
      by_cases y : m (130 + 645 * (5 * s + j) + 3) = nI 0
      · rw [if_pos y, if_pos ⟨z, y⟩]
      · rw [if_neg y, if_neg (fun e => y e.2)]
    · rw [c_findPart_f S V I.1 (v := nI (5 * s + j)) (fun q hq e => by
        rw [nEq (by omega) (by have := hq.1; omega)] at e
        have h2 := hq.2.2
        rw [← e, show (5 * s + j) / 5 = s by omega, show (5 * s + j) % 5 = j by omega] at h2
        exact z h2), ob_some, if_pos rfl, if_neg (fun e => z e.1)]
  have fin : BX7_isStorySet_2 h r (nI s) (nI 5) = some (.inr (nI 1)) := by
    unfold BX7_isStorySet_2
    simp only [ZL]
    rw [if_pos (nI_le (Nat.le_refl _) (by omega))]
  constructor
  · intro H
    unfold MX7_isStorySet MX7_isStorySet_2
    simp only [ZL]
    refine it_seq2 (fun j => nI j) 5 rfl (fun j hj => ?_) fin
    show BX7_isStorySet_2 h r (nI s) (nI j) = _
    rw [st j hj, if_neg (fun e => H j e.1 e.2)]
  · intro H
    obtain ⟨j0, k1, k2⟩ := pk_least (fun k => k < Nn m (110 + s) ∧ m (130 + 645 * (5 * s + k) + 3) = nI 0) (by
      refine Classical.byContradiction fun e => H (fun k hk y => e ⟨k, hk, y⟩))
    unfold MX7_isStorySet MX7_isStorySet_2
    simp only [ZL]
    refine it_seq2 (fun j => nI j) j0 rfl (fun j hj => ?_) ?_
    · show BX7_isStorySet_2 h r (nI s) (nI j) = _
      rw [st j (by omega), if_neg (k2 j hj)]
    · show BX7_isStorySet_2 h r (nI s) (nI j0) = _
      rw [st j0 (by omega), if_pos k1]
/-- the reference asks -/
theorem r_nf85 (R : RS h) (em : gI h 74 = m) (I : MI m) (hs : s < Nn m 1) (ha : a < 2147483648) : MX12_notFit_85 h 73 (nI a) (nI s) (nI 0) = some (if stB m a s = true then .inl (nI (s + 1)) else .inr (nI 3)) := by
  have f1 := I.1.f.2.1.2
  have s5 := (I.1.2.2.2.2.2.2.2.2.2 s hs).2.2.1.eq (by omega)
  have st : ∀ j, j ≤ 5 → BX12_notFit_85 h 73 (nI a) (nI s) (nI j) = if Nn m (110 + s) ≤ j then some (.inr (.inl (nI (s + 1)))) else if btN a s = 1 then (if m (130 + 645 * (5 * s + j) + 3) = nI 0 then some (.inr (.inr (nI 3))) else some (.inl (nI (j + 1)))) else some (.inr (.inl (nI (s + 1)))) := fun j hj => by
    unfold BX12_notFit_85
    simp only [ZL]
    rw [gg_t (RS.f R).1]
    simp only [RS.f R]
    rw [gg_T, nAdd, gg_in (by omega) (by omega), nCl (by omega), em, s5.1, nAdd, nAdd]
    by_cases z : Nn m (110 + s) ≤ j
    · rw [if_pos (nI_le z (by omega)), if_pos z]
    · rw [if_neg (nI_ge (by omega) (by omega)), if_neg z]
      by_cases y : btN a s = 1
      · rw [if_pos (by rw [bt_1 ha (by omega)]; exact y), if_pos y, nMul, nAdd, r_part0, ob_some, nAdd, gg_in (by omega) (by omega), nCl (by omega)]
      · rw [if_neg (by rw [bt_1 ha (by omega)]; exact y), if_neg y]
  unfold MX12_notFit_85
  by_cases y : btN a s = 1
  · by_cases H : ∀ k, k < Nn m (110 + s) → m (130 + 645 * (5 * s + k) + 3) ≠ nI 0
    · rw [stB_t (fun _ => H), if_pos rfl]
      refine it_seq2 (fun j => nI j) (Nn m (110 + s)) rfl (fun j hj => ?_) ?_
      · show BX12_notFit_85 h 73 (nI a) (nI s) (nI j) = _
        rw [st j (by omega), if_neg (by omega), if_pos y, if_neg (H j hj)]
      · show BX12_notFit_85 h 73 (nI a) (nI s) (nI (Nn m (110 + s))) = _
        rw [st _ s5.2, if_pos (Nat.le_refl _)]
    · obtain ⟨j0, k1, k2⟩ := pk_least (fun k => k < Nn m (110 + s) ∧ m (130 + 645 * (5 * s + k) + 3) = nI 0) (by
        refine Classical.byContradiction fun e => H (fun k hk y => e ⟨k, hk, y⟩))
      rw [stB_f (fun e => H (e y)), if_neg (by decide)]
      refine it_seq2 (fun j => nI j) j0 rfl (fun j hj => ?_) ?_
      · show BX12_notFit_85 h 73 (nI a) (nI s) (nI j) = _
        rw [st j (by omega), if_neg (by omega), if_pos y, if_neg (fun e => k2 j hj ⟨by omega, e⟩)]
      · show BX12_notFit_85 h 73 (nI a) (nI s) (nI j0) = _
        rw [st j0 (by omega), if_neg (by omega), if_pos y, if_pos k1.2]
  · rw [stB_t (fun e => absurd e y), if_pos rfl]
    refine it_done ?_
    show BX12_notFit_85 h 73 (nI a) (nI s) (nI 0) = _
    rw [st 0 (by omega)]
    by_cases z : Nn m (110 + s) ≤ 0
    · rw [if_pos z]
    · rw [if_neg z, if_neg y]
/-- what may be fitted -/
def okF (m : Nat → Int32) (v w : Int32) (p a : Nat) : Prop := p < 6 ∧ v = nI p ∧ a < 2 ^ Nn m 1 ∧ w = nI a
/-- how both sides decide: the class's exception, the reference's number -/
theorem r_nfA (R : RS h) (em : gI h 74 = m) (I : MI m) {v w : Int32} (H : ¬ ∃ p a, okF m v w p a) : MX12_notFit h 73 v w = some (nI 1) := by
  have f1 := I.1.f.2.1
  unfold MX12_notFit
  by_cases hv : ∃ p, p < 6 ∧ v = nI p
  · obtain ⟨p, hp, rfl⟩ := hv
    have hw : ¬ ∃ a, a < 2 ^ Nn m 1 ∧ w = nI a := fun ⟨a, h1, h2⟩ => H ⟨p, a, hp, rfl, h1, h2⟩
    have sr := set_r (v := w) (s := Nn m 1) f1.2
    simp only [ZL]
    rw [(c_isPage_t hp).2, ob_some, if_neg (by decide)]
    by_cases z : w < nI 0
    · rw [if_pos z]
    · rw [if_neg z, gg_t (RS.f R).1]
      simp only [RS.f R]
      rw [gg_T, gg_in (by omega) (by omega), nCl (by omega), em, f1.1, if_neg (fun e => hw (sr.mp ⟨z, e⟩))]
  · simp only [ZL]
    rw [(c_isPage_f (fun j hj e => hv ⟨j, hj, e⟩)).2, ob_some, if_pos rfl]
theorem r_nfB (R : RS h) (em : gI h 74 = m) (I : MI m) {v w : Int32} (ok : okF m v w p a) : MX12_notFit h 73 v w = (if fN m a < 1 ∨ 4 < fN m a then some (nI 2) else MX12_notFit_71 h 73 w (nI 0)) := by
  obtain ⟨hp, rfl, ha, rfl⟩ := ok
  have f1 := I.1.f.2.1
  have hp2 : 2 ^ Nn m 1 ≤ 2 ^ 20 := Nat.pow_le_pow_right (by omega) f1.2
  have sr := (set_r (v := nI a) (s := Nn m 1) f1.2).mpr ⟨a, ha, rfl⟩
  have lp : it (fun q : Int32 × Int32 => BX12_notFit_30 h 73 (nI a) q.1 q.2) (nI 0, nI 0) = (if fN m a < 1 ∨ 4 < fN m a then some (nI 2) else MX12_notFit_71 h 73 (nI a) (nI 0)) := by
    have st : ∀ j, j < Nn m 1 → BX12_notFit_30 h 73 (nI a) (nI (pcN a j)) (nI j) = some (.inl (nI (pcN a (j + 1)), nI (j + 1))) := fun j hj => by
      unfold BX12_notFit_30
      simp only [ZL]
      rw [gg_t (RS.f R).1]
      simp only [RS.f R]
      rw [gg_T, gg_in (by omega) (by omega), nCl (by omega), em, f1.1, if_neg (nI_ge hj (by omega)), bt_j (by omega) (by omega), nAdd, nAdd]
      rfl
    have e := it_seq (f := fun q : Int32 × Int32 => BX12_notFit_30 h 73 (nI a) q.1 q.2) (fun j => (nI (pcN a j), nI j)) (Nn m 1) (r := it (fun q : Int32 × Int32 => BX12_notFit_30 h 73 (nI a) q.1 q.2) (nI (pcN a (Nn m 1)), nI (Nn m 1))) (fun j hj => st j hj) rfl
    have pl := pc_le (a := a) (Nn m 1)
    have last : BX12_notFit_30 h 73 (nI a) (nI (fN m a)) (nI (Nn m 1)) = up1 (if fN m a < 1 ∨ 4 < fN m a then some (nI 2) else MX12_notFit_71 h 73 (nI a) (nI 0)) := by
      have pl' : fN m a ≤ Nn m 1 := pl
      unfold BX12_notFit_30 MX12_notFit_56
      simp only [ZL]
      rw [gg_t (RS.f R).1]
      simp only [RS.f R]
      rw [gg_T, gg_in (by omega) (by omega), nCl (by omega), em, f1.1, if_pos (nI_le (Nat.le_refl _) (by omega))]
      by_cases z : fN m a < 1
      · rw [if_pos (nI_lt z (by omega)), if_pos (Or.inl z)]
      · rw [if_neg (nI_nlt (by omega) (by omega))]
        by_cases y : 4 < fN m a
        · rw [if_neg (nI_ge y (by omega)), if_pos (Or.inr y)]
        · rw [if_pos (nI_le (by omega) (by omega)), if_neg (by omega)]
    exact e.trans (it_u1 last)
  unfold MX12_notFit MX12_notFit_30
  simp only [ZL]
  rw [(c_isPage_t hp).2, ob_some, if_neg (by decide), if_neg sr.1, gg_t (RS.f R).1]
  simp only [RS.f R]
  rw [gg_T, gg_in (by omega) (by omega), nCl (by omega), em, f1.1, if_pos sr.2]
  exact lp
theorem r_nfC (R : RS h) (em : gI h 74 = m) (I : MI m) (ha : a < 2147483648) : ((∀ s, s < Nn m 1 → stB m a s = true) → MX12_notFit_71 h 73 (nI a) (nI 0) = some (nI 0)) ∧ (¬ (∀ s, s < Nn m 1 → stB m a s = true) → MX12_notFit_71 h 73 (nI a) (nI 0) = some (nI 3)) := by
  have f1 := I.1.f.2.1
  have st : ∀ j, j < Nn m 1 → BX12_notFit_71 h 73 (nI a) (nI j) = some (if stB m a j = true then .inl (nI (j + 1)) else .inr (nI 3)) := fun j hj => by
    unfold BX12_notFit_71
    simp only [ZL]
    rw [gg_t (RS.f R).1]
    simp only [RS.f R]
    rw [gg_T, gg_in (by omega) (by omega), nCl (by omega), em, f1.1, if_neg (nI_ge hj (by omega)), r_nf85 R em I hj ha]
  have fin : BX12_notFit_71 h 73 (nI a) (nI (Nn m 1)) = some (.inr (nI 0)) := by
    unfold BX12_notFit_71
    simp only [ZL]
    rw [gg_t (RS.f R).1]
    simp only [RS.f R]
    rw [gg_T, gg_in (by omega) (by omega), nCl (by omega), em, f1.1, if_pos (nI_le (Nat.le_refl _) (by omega))]
  unfold MX12_notFit_71
  constructor
  · intro H
    refine it_seq2 (fun j => nI j) (Nn m 1) rfl (fun j hj => ?_) fin
    show BX12_notFit_71 h 73 (nI a) (nI j) = _
    rw [st j hj, H j hj, if_pos rfl]
  · intro H
    obtain ⟨j0, k1, k2⟩ := pk_least (fun s => s < Nn m 1 ∧ stB m a s = false) (by
      refine Classical.byContradiction fun e => H (fun s hs => ?_)
      cases y : stB m a s with
      | true => rfl
      | false => exact absurd ⟨s, hs, y⟩ e)
    refine it_seq2 (fun j => nI j) j0 rfl (fun j hj => ?_) ?_
    · show BX12_notFit_71 h 73 (nI a) (nI j) = _
      cases y : stB m a j with
      | true => rw [st j (by omega), y, if_pos rfl]
      | false => exact absurd ⟨by omega, y⟩ (k2 j hj)
    · show BX12_notFit_71 h 73 (nI a) (nI j0) = _
      rw [st j0 k1.1, k1.2, if_neg (by decide)]
/-- the class: what it throws, or the search -/
theorem c_findFit (C : CSt tg h m k i t n f) {v w : Int32} : ((¬ ∃ p a, okF m v w p a) → MX11_findFit h 1 v w = some (.inr 1, bmp h 1 6)) ∧ ∀ p a, okF m v w p a → (fN m a < 1 ∨ 4 < fN m a → MX11_findFit h 1 v w = some (.inr 2, bmp h 1 6)) ∧ (¬ (fN m a < 1 ∨ 4 < fN m a) → (¬ (∀ s, s < Nn m 1 → stB m a s = true) → MX11_findFit h 1 v w = some (.inr 5, bmp h 1 6)) ∧ ((∀ s, s < Nn m 1 → stB m a s = true) → ∃ h1, MX11_findFit h 1 v w = some (.inl (), h1) ∧ Fr (TW (gP h 59)) h h1 ∧ CF h1 (gP h 59) m p a)) := by
  obtain ⟨O, Y, -, S, V, Dk, DV, I, -⟩ := id C
  obtain ⟨FXh, AXh, hD, HRh⟩ := fit_x C
  have f1 := I.1.f.2.1
  have hp2 : 2 ^ Nn m 1 ≤ 2 ^ 20 := Nat.pow_le_pow_right (by omega) f1.2
  have sc := set_c (v := w) (s := Nn m 1) f1.2
  simp only [ZL] at sc
  have e7 : gI h 19 7 = nI (Nn m 1) := by rw [V.2.1]; exact f1.1
  constructor
  · intro H
    unfold MX11_findFit
    by_cases hv : ∃ p, p < 6 ∧ v = nI p
    · obtain ⟨p, hp, rfl⟩ := hv
      simp only [ZL]
      rw [(c_isPage_t hp).1, ob_some, if_neg (by decide), gg_t Y.1, X5 Y, gg_t S.1, e7, if_neg (fun e => by
        obtain ⟨a, h1, h2⟩ := sc.mp e
        exact H ⟨p, a, hp, rfl, h1, h2⟩)]
    · simp only [ZL]
      rw [(c_isPage_f (fun j hj e => hv ⟨j, hj, e⟩)).1, ob_some, if_pos rfl]
  · intro p a ok
    obtain ⟨hp, rfl, ha, rfl⟩ := ok
    have pl : fN m a ≤ Nn m 1 := pc_le (a := a) (Nn m 1)
    have bc := bc_all (h := h) (n := a) (by omega)
    have e20 : pcN a 20 = fN m a := by
      have := pc_hi ha (20 - Nn m 1)
      rw [show Nn m 1 + (20 - Nn m 1) = 20 by omega] at this
      exact this
    rw [e20] at bc
    have head : MX11_findFit h 1 (nI p) (nI a) = if nI (fN m a) < nI 1 then some (.inr 2, bmp h 1 6) else if nI (fN m a) ≤ nI 4 then MX11_findFit_53 h 1 (nI p) (nI a) (nI 0) else some (.inr 2, bmp h 1 6) := by
      unfold MX11_findFit
      simp only [ZL]
      rw [(c_isPage_t hp).1, ob_some, if_neg (by decide), gg_t Y.1, X5 Y, gg_t S.1, e7, if_pos (sc.mpr ⟨a, ha, rfl⟩), bc, ob_some]
    refine ⟨fun z => ?_, fun z => ?_⟩
    · rw [head]
      by_cases y : fN m a < 1
      · rw [if_pos (nI_lt y (by omega))]
      · rw [if_neg (nI_nlt (by omega) (by omega)), if_neg (nI_ge (by omega) (by omega))]
    · have e53 : MX11_findFit h 1 (nI p) (nI a) = MX11_findFit_53 h 1 (nI p) (nI a) (nI 0) := by
        rw [head, if_neg (nI_nlt (by omega) (by omega)), if_pos (nI_le (by omega) (by omega))]
      have st : ∀ j, j < Nn m 1 → BX11_findFit_53 h 1 (nI p) (nI a) (nI j) = some (if stB m a j = true then .inl (nI (j + 1)) else .inr (.inr 5, bmp h 1 6)) := fun j hj => by
        obtain ⟨q1, q2⟩ := c_isSet S V I hj
        unfold BX11_findFit_53
        simp only [ZL]
        rw [gg_t Y.1, X5 Y, gg_t S.1, e7, if_neg (nI_ge hj (by omega)), nAdd]
        have bl := bt_lt a j
        by_cases y : btN a j = 0
        · rw [if_pos (by rw [bt_0 (by omega) (by omega)]; exact y), stB_t (fun e => by omega), if_pos rfl]
        · rw [if_neg (by rw [bt_0 (by omega) (by omega)]; exact y)]
          by_cases H : ∀ k, k < Nn m (110 + j) → m (130 + 645 * (5 * j + k) + 3) ≠ nI 0
          · rw [q1 H, ob_some, if_neg (by decide), stB_t (fun _ => H), if_pos rfl]
          · rw [q2 H, ob_some, if_pos rfl, stB_f (fun e => H (e (by omega))), if_neg (by decide)]
      refine ⟨fun H => ?_, fun H => ?_⟩
      · obtain ⟨j0, k1, k2⟩ := pk_least (fun s => s < Nn m 1 ∧ stB m a s = false) (by
          refine Classical.byContradiction fun e => H (fun s hs => ?_)
          cases y : stB m a s with
          | true => rfl
          | false => exact absurd ⟨s, hs, y⟩ e)
        rw [e53]
        unfold MX11_findFit_53
        refine it_seq2 (fun j => nI j) j0 rfl (fun j hj => ?_) ?_
        · show BX11_findFit_53 h 1 (nI p) (nI a) (nI j) = _
          cases y : stB m a j with
          | true => rw [st j (by omega), y, if_pos rfl]
          | false => exact absurd ⟨by omega, y⟩ (k2 j hj)
        · show BX11_findFit_53 h 1 (nI p) (nI a) (nI j0) = _
          rw [st j0 k1.1, k1.2, if_neg (by decide)]
      · obtain ⟨h1, y1, y2, y3⟩ := c_search (c := gP h 59) (r := 19) FXh AXh HRh I hp (by omega) (by omega : fN m a ≤ 4)
        obtain ⟨b1, -, b3, -⟩ := pg_b I hp
        refine ⟨h1, ?_, y2, y3⟩
        have E := DV.2.2.1 p hp
        rw [e53]
        unfold MX11_findFit_53
        refine it_seq2 (fun j => nI j) (Nn m 1) rfl (fun j hj => ?_) ?_
        · show BX11_findFit_53 h 1 (nI p) (nI a) (nI j) = _
          rw [st j hj, H j hj, if_pos rfl]
        · show BX11_findFit_53 h 1 (nI p) (nI a) (nI (Nn m 1)) = _
          unfold BX11_findFit_53 MX11_findFit_100
          rw [gg_t Y.1, X5 Y, gg_t S.1, e7, if_pos (nI_le (Nat.le_refl _) (by omega)), gg_t Y.1, X6 Y, gg_t Dk.1, gg_t Dk.2.1.2.1, Dk.2.1.2.2, gg_in (by omega) (by omega), gg_t Dk.2.2.1.2.1, Dk.2.2.1.2.2, gg_in (by omega) (by omega), nCl (by omega), E.1, E.2.1, b1, b3, Y.f.2.2.2.2.2.2.2.2.2.2.2.2.2.2.1, gg_t FXh.1, y1, ob_some, up1_some]
theorem X7 (X : XS h) : gP h 1 7 = 59 := X.f.2.2.2.2.2.2.2.2.2.2.2.2.2.2.1
/-- the reference, once thrown is written -/
theorem r_fit0 (R : RSt h m k i t n f) (I : MI m) {v w : Int32} (ok : okF m v w p a) (hN : ¬ (fN m a < 1 ∨ 4 < fN m a)) : ∃ h2, MX12_fitting (sI h 73 0 (nI 0)) 73 v w = some h2 ∧ Fr Rc h h2 ∧ RSt h2 m k i t n f ∧ gI h2 73 0 = nI 0 ∧ RFt h2 m p a := by
  obtain ⟨hp, rfl, ha, rfl⟩ := ok
  have f1 := I.1.f.2.1
  have hp2 : 2 ^ Nn m 1 ≤ 2 ^ 20 := Nat.pow_le_pow_right (by omega) f1.2
  have R0 := R.th (v := nI 0)
  obtain ⟨h2, y1, y2, y3, y4⟩ := r_fitting (p := p) R0.1 R0.2.1 I hp (show a < 2147483648 by omega) (by omega)
  refine ⟨h2, y1, th_fr.trans (y2.mono (fun x hx => by unfold Rc; unfold RV at hx; omega)), ?_, by rw [y4 0 (by omega) (by omega)]; exact th_get, y3⟩
  obtain ⟨r0, r1, r2, r3, r4, r5, r6⟩ := R0
  exact ⟨r0.fr y2, by rw [y2.2.2.2.2.2.2 74 (by unfold RV; omega)]; exact r1, by rw [y2.2.2.2.2.2.2 75 (by unfold RV; omega)]; exact r2, by rw [y4 4 (by omega) (by omega)]; exact r3, by rw [y2.2.2.2.2.2.2 77 (by unfold RV; omega)]; exact r4, by rw [y4 6 (by omega) (by omega)]; exact r5, by rw [y4 9 (by omega) (by omega)]; exact r6⟩
theorem p_fit (C : CSt tg h m k i t n f) (R : RSt h m k i t n f) (v w : Int32) : Pr (cm [1, 2, 5]) Gq h (MX11_fit h 1 v w) (fun h' => MX12_fit h' 73 v w) := by
  obtain ⟨O, Y, -, S, V, Dk, DV, I, -⟩ := id C
  obtain ⟨FXh, AXh, hD, HRh⟩ := fit_x C
  obtain ⟨c1, c2⟩ := c_findFit C (v := v) (w := w)
  have hc : ∀ E, MX11_findFit h 1 v w = some (.inr E, bmp h 1 6) → MX11_fit h 1 v w = some (.inr E, bmp h 1 6) := fun E e => by
    unfold MX11_fit
    rw [gg_t Y.1, e]
    rfl
  have hr : ∀ h' (q : Nat), q < 2147483648 → 1 ≤ q → RSt h' m k i t n f → MX12_notFit h' 73 v w = some (nI q) → MX12_fit h' 73 v w = some (nI 0, sI h' 73 0 (nI q)) := fun h' q hq q1 R' e => by
    unfold MX12_fit
    simp only [ZL]
    rw [gg_t (RS.f R'.1).1, e, ob_some, lt_eq, th_get, if_neg (nI_ge q1 hq)]
  by_cases ok : ∃ p a, okF m v w p a
  · obtain ⟨p, a, ok⟩ := ok
    obtain ⟨d1, d2⟩ := c2 p a ok
    have a31 : a < 2147483648 := by
      have hp2 : 2 ^ Nn m 1 ≤ 2 ^ 20 := Nat.pow_le_pow_right (by omega) I.1.f.2.1.2
      have := ok.2.2.1
      omega
    by_cases z : fN m a < 1 ∨ 4 < fN m a
    · exact Pr.thr C R 2 2 rfl (by omega) (by omega) (hc 2 (d1 z)) fun h' R' => ⟨nI 0, hr h' 2 (by omega) (by omega) R' (by rw [r_nfB R'.1 R'.2.1 I ok, if_pos z])⟩
    · obtain ⟨e1, e2⟩ := d2 z
      by_cases H : ∀ s, s < Nn m 1 → stB m a s = true
      · obtain ⟨h1, y1, y2, y3, y4, y5⟩ := e2 H
        refine Pr.ft (x := 7) C R (bV (fitB m p a)) ?_ y2 hD (Or.inl rfl) fun h' R' => ?_
        · unfold MX11_fit
          rw [gg_t Y.1, y1, bT_some, y2.1, gg_t Y.1, y2.2.2.1, X7 Y, gg_t FXh.1, y3.1]
        · obtain ⟨h2, q1, q2, q3, q4, q5⟩ := r_fit0 R' I ok z
          refine ⟨h2, ?_, q2, q3, q4⟩
          unfold MX12_fit
          simp only [ZL]
          obtain ⟨-, rfl, -, rfl⟩ := id ok
          rw [gg_t (RS.f R'.1).1, r_nfB R'.1 R'.2.1 I ok, if_neg z, (r_nfC R'.1 R'.2.1 I a31).1 H, ob_some, lt_eq, th_get, if_pos (by decide), q1, ob_some, gg_t (RS.f q3.1).1, q5.1.1]
      · exact Pr.thr C R 5 3 rfl (by omega) (by omega) (hc 5 (e1 H)) fun h' R' => ⟨nI 0, hr h' 3 (by omega) (by omega) R' (by
          obtain ⟨-, rfl, -, rfl⟩ := id ok
          rw [r_nfB R'.1 R'.2.1 I ok, if_neg z, (r_nfC R'.1 R'.2.1 I a31).2 H])⟩
  · exact Pr.thr C R 1 1 rfl (by omega) (by omega) (hc 1 (c1 ok)) fun h' R' => ⟨nI 0, hr h' 1 (by omega) (by omega) R' (r_nfA R'.1 R'.2.1 I ok)⟩
end
