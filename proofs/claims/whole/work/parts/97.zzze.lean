/-! the whole search: the class -/
def TW (c : Nat → Nat) (x : Nat) : Prop := x = 59 ∨ ∃ k, 2 ≤ k ∧ k ≤ 9 ∧ x = c k
/-- the room under the search -/
def HR (h : Hp) (c : Nat → Nat) (r : Nat) (m : Nat → Int32) : Prop := ∀ g, Fr (TW c) h g → RmS g r ∧ RmV g r m
section
variable {h h' : Hp} {m : Nat → Int32} {a p N Cc Lg n i d u sum s r : Nat} {P col kp fl st c w2 w7 w8 : Nat → Nat} {L : Nat → Nat → Nat} {b : Bst} {D : Nat → Prop}
theorem tw_k (k : Nat) (h : 2 ≤ k ∧ k ≤ 9) : TW c (c k) := Or.inr ⟨k, h.1, h.2, rfl⟩
theorem cw_tw {x : Nat} (hx : CW c x) : TW c x := by
  rcases hx with e | e | e | e | e | e
  · exact Or.inl e
  · exact Or.inr ⟨3, by omega, by omega, e⟩
  · exact Or.inr ⟨4, by omega, by omega, e⟩
  · exact Or.inr ⟨5, by omega, by omega, e⟩
  · exact Or.inr ⟨6, by omega, by omega, e⟩
  · exact Or.inr ⟨9, by omega, by omega, e⟩
theorem HR.fr (H : HR h c r m) (F : Fr (TW c) h h') : HR h' c r m := fun g G => H g (F.trans G)
/-- J stories are chosen -/
def SJ (h : Hp) (c : Nat → Nat) (m : Nat → Int32) (J : Nat) (q : Nat → Nat) : Prop := gI h 59 0 = nI J ∧ ∀ l, l < J → gI h (c 2) l = nI (q l) ∧ gI h (c 7) l = nI (Nn m (110 + q l)) ∧ ∀ n, n ≤ Nn m (110 + q l) → gI h (c 8) (6 * l + n) = nI (lnS m (q l) n)
theorem c_addSt {J : Nat} {q : Nat → Nat} (X : FX h c) (A : AX c) (H : HR h c r m) (I : MI m) (hs : s < Nn m 1) (J4 : J < 4) (K : SJ h c m J q) (hq : ∀ l, l < J → q l < Nn m 1) : ∃ h', MX3_addStory h 59 r (nI s) = some h' ∧ Fr (TW c) h h' ∧ SJ h' c m (J + 1) (upN q J s) ∧ ∀ j, j ≠ 0 → gI h' 59 j = gI h 59 j := by
  have f1 := I.1.f.2.1.2
  have s5 := (I.1.2.2.2.2.2.2.2.2.2 s hs).2.2.1.eq (by omega)
  have q5 : ∀ l, l < J → Nn m (110 + q l) ≤ 5 := fun l hl => ((I.1.2.2.2.2.2.2.2.2.2 _ (hq l hl)).2.2.1.eq (by omega)).2
  obtain ⟨h4, e4⟩ : ∃ g, g = sI h (c 2) J (nI s) := ⟨_, rfl⟩
  obtain ⟨h11, e11⟩ : ∃ g, g = sI h4 (c 7) J (nI 0) := ⟨_, rfl⟩
  obtain ⟨h18, e18⟩ : ∃ g, g = sI h11 (c 8) (6 * J) (nI 0) := ⟨_, rfl⟩
  have F4 : Fr (TW c) h h4 := by rw [e4]; exact Fr.sI (tw_k 2 (by omega))
  have F11 : Fr (TW c) h4 h11 := by rw [e11]; exact Fr.sI (tw_k 7 (by omega))
  have F18 : Fr (TW c) h11 h18 := by rw [e18]; exact Fr.sI (tw_k 8 (by omega))
  have F := (F4.trans F11).trans F18
  have o59 : gI h18 59 = gI h 59 := by rw [e18, gI_sI, if_neg (ax_5' A 8 (by omega)), e11, gI_sI, if_neg (ax_5' A 7 (by omega)), e4, gI_sI, if_neg (ax_5' A 2 (by omega))]
  have o2 : ∀ l, gI h18 (c 2) l = if l = J then nI s else gI h (c 2) l := fun l => by rw [e18, gI_sI, if_neg (ax_n A 2 8 (by omega)), e11, gI_sI, if_neg (ax_n A 2 7 (by omega)), e4, gI_sI, if_pos rfl, up_at]
  have o7 : ∀ l, gI h18 (c 7) l = if l = J then nI 0 else gI h (c 7) l := fun l => by rw [e18, gI_sI, if_neg (ax_n A 7 8 (by omega)), e11, gI_sI, if_pos rfl, up_at, e4, gI_sI, if_neg (ax_n A 7 2 (by omega))]
  have o8 : ∀ l, gI h18 (c 8) l = if l = 6 * J then nI 0 else gI h (c 8) l := fun l => by rw [e18, gI_sI, if_pos rfl, up_at, e11, gI_sI, if_neg (ax_n A 8 7 (by omega)), e4, gI_sI, if_neg (ax_n A 8 2 (by omega))]
  have lp : ∃ z, it (fun x : Int32 × Hp => BX3_addStory_35 x.2 59 r (nI s) x.1) (nI 0, h18) = some z ∧ (Fr (TW c) h z ∧ SJ z c m (J + 1) (upN q J s) ∧ ∀ j, j ≠ 0 → gI z 59 j = gI h 59 j) := by
    refine it_cnt (fun j x => x.1 = nI j ∧ Fr (TW c) h x.2 ∧ gI x.2 59 = gI h 59 ∧ (∀ l, gI x.2 (c 2) l = if l = J then nI s else gI h (c 2) l) ∧ (∀ l, gI x.2 (c 7) l = if l = J then nI j else gI h (c 7) l) ∧ (∀ n, n ≤ j → gI x.2 (c 8) (6 * J + n) = nI (lnS m s n)) ∧ ∀ l, l < 6 * J → gI x.2 (c 8) l = gI h (c 8) l) (Nn m (110 + s)) (fun j x hj pp => ?_) (fun x pp => ?_) ⟨rfl, F, o59, o2, o7, fun n hn => by show gI h18 (c 8) (6 * J + n) = _; rw [o8, show n = 0 by omega, if_pos (show 6 * J + 0 = 6 * J by omega)]; rfl, fun l hl => by show gI h18 (c 8) l = _; rw [o8, if_neg (by omega)]⟩
    · obtain ⟨w, g⟩ := x
      obtain ⟨y1, y2, y3, y4, y5, y6, y7⟩ := pp
      replace y1 : w = nI j := y1
      replace y2 : Fr (TW c) h g := y2
      replace y3 : gI g 59 = gI h 59 := y3
      replace y4 : ∀ l, gI g (c 2) l = if l = J then nI s else gI h (c 2) l := y4
      replace y5 : ∀ l, gI g (c 7) l = if l = J then nI j else gI h (c 7) l := y5
      replace y6 : ∀ n, n ≤ j → gI g (c 8) (6 * J + n) = nI (lnS m s n) := y6
      replace y7 : ∀ l, l < 6 * J → gI g (c 8) l = gI h (c 8) l := y7
      subst y1
      obtain ⟨S, V⟩ := H g y2
      have Xg := X.fr y2
      obtain ⟨vq, vo⟩ := ln_p I hs (n := j) hj
      obtain ⟨C, hC, c1, c2, c3, c4⟩ := c_findPart_t S V I.1 vq
      have c9 : gI g C 9 = nI (Nn m (130 + 645 * (5 * s + j) + 4)) := by
        rw [c4.2.2.2.2.2.2.2.1]
        have ip := I.2.1 _ vq
        have i3 := ip.2.2.2.2.1
        by_cases z : m (130 + 645 * (5 * s + j) + 3) = nI 1
        · rw [if_pos z]; exact (vo.eq (by omega)).1
        · have z0 : m (130 + 645 * (5 * s + j) + 3) = nI 0 := by
            obtain ⟨x, hx, e⟩ := i3
            have : x = 0 ∨ x = 1 := by omega
            rcases this with y | y
            · rw [e, y]
            · exact absurd (by rw [e, y]) z
          have z4 := ip.2.2.2.2.2.2.2.2.2.2.1 z0
          have : Nn m (130 + 645 * (5 * s + j) + 4) = 0 := by unfold Nn; rw [z4, nCl (by omega)]
          rw [if_neg z, this]
      have lo : gI g 59 0 = nI J := by rw [y3]; exact K.1
      have g8 := y6 j (Nat.le_refl _)
      have v40 := (vo.eq (by omega)).2
      obtain ⟨g1, hg1⟩ : ∃ g1, g1 = sI g (c 8) (6 * J + j + 1) (nI (lnS m s (j + 1))) := ⟨_, rfl⟩
      have F1 : Fr (TW c) g g1 := by rw [hg1]; exact Fr.sI (tw_k 8 (by omega))
      have u59 : gI g1 59 = gI g 59 := by rw [hg1, gI_sI, if_neg (ax_5' A 8 (by omega))]
      have u7 : gI g1 (c 7) = gI g (c 7) := by rw [hg1, gI_sI, if_neg (ax_n A 7 8 (by omega))]
      obtain ⟨g2, hg2⟩ : ∃ g2, g2 = sI g1 (c 7) J (nI (j + 1)) := ⟨_, rfl⟩
      have F2 : Fr (TW c) g1 g2 := by rw [hg2]; exact Fr.sI (tw_k 7 (by omega))
      have w59 : gI g2 59 = gI g 59 := by rw [hg2, gI_sI, if_neg (ax_5' A 7 (by omega)), u59]
      have w2 : gI g2 (c 2) = gI g (c 2) := by rw [hg2, gI_sI, if_neg (ax_n A 2 7 (by omega)), hg1, gI_sI, if_neg (ax_n A 2 8 (by omega))]
      have w8 : ∀ l, gI g2 (c 8) l = if l = 6 * J + j + 1 then nI (lnS m s (j + 1)) else gI g (c 8) l := fun l => by rw [hg2, gI_sI, if_neg (ax_n A 8 7 (by omega)), hg1, gI_sI, if_pos rfl, up_at]
      refine ⟨(nI (j + 1), g2), ?_, rfl, (y2.trans F1).trans F2, by show gI g2 59 = gI h 59; rw [w59]; exact y3, fun l => by show gI g2 (c 2) l = _; rw [w2]; exact y4 l, fun l => ?_, fun n hn => ?_, fun l hl => ?_⟩
      · show BX3_addStory_35 g 59 r (nI s) (nI j) = _
        have g70 : MX3_addStory_70 g 59 r (nI s) (nI j) (nI (Nn m (130 + 645 * (5 * s + j) + 4))) = some (.inl (nI (j + 1), g2)) := by
          unfold MX3_addStory_70
          simp only [ZL]
          rw [gg_t Xg.1, Xg.p, Xg.p, gg_t (Xg.k 8 (by omega) (by omega)), lo, nMul, nAdd, nAdd, Xg.l8, gg_in (by omega) (by omega), gg_in (by omega) (by omega), nCl (by omega), nCl (by omega), show J * 6 + j = 6 * J + j by omega, g8, nAdd, show lnS m s j + Nn m (130 + 645 * (5 * s + j) + 4) = lnS m s (j + 1) from rfl, lt_eq, ← hg1, gg_t (Xg.k 7 (by omega) (by omega)), u59, lo, Xg.l 7 (by omega) (by omega) (by omega), gg_in (by omega) (by omega), nCl (by omega), u7, y5, if_pos rfl, nAdd, lt_eq, ← hg2]
        unfold BX3_addStory_35
        simp only [ZL]
        rw [gg_t S.1, gg_t S.2.2.2.2.1.2.1, S.2.2.2.2.1.2.2, gg_in (by omega) (by omega), nCl (by omega), V.2.2.2.2.2.2.1 s hs, s5.1, if_neg (nI_ge hj (by omega)), nMul, nAdd, c1, ob_some, if_neg c2, gg_t c3.1, c9, g70]
      · show gI g2 (c 7) l = _
        rw [hg2, gI_sI, if_pos rfl, up_at]
        by_cases y : l = J
        · rw [if_pos y, if_pos y]
        · rw [if_neg y, if_neg y, u7, y5, if_neg y]
      · show gI g2 (c 8) (6 * J + n) = _
        rw [w8]
        by_cases y : n = j + 1
        · rw [if_pos (by omega), y]
        · rw [if_neg (by omega)]
          exact y6 n (by omega)
      · show gI g2 (c 8) l = _
        rw [w8, if_neg (by omega)]
        exact y7 l hl
    · obtain ⟨w, g⟩ := x
      obtain ⟨y1, y2, y3, y4, y5, y6, y7⟩ := pp
      replace y1 : w = nI (Nn m (110 + s)) := y1
      replace y2 : Fr (TW c) h g := y2
      replace y3 : gI g 59 = gI h 59 := y3
      replace y4 : ∀ l, gI g (c 2) l = if l = J then nI s else gI h (c 2) l := y4
      replace y5 : ∀ l, gI g (c 7) l = if l = J then nI (Nn m (110 + s)) else gI h (c 7) l := y5
      replace y6 : ∀ n, n ≤ Nn m (110 + s) → gI g (c 8) (6 * J + n) = nI (lnS m s n) := y6
      replace y7 : ∀ l, l < 6 * J → gI g (c 8) l = gI h (c 8) l := y7
      subst y1
      obtain ⟨S, V⟩ := H g y2
      have Xg := X.fr y2
      have lo : gI g 59 0 = nI J := by rw [y3]; exact K.1
      obtain ⟨g1, hg1⟩ : ∃ g1, g1 = sI g 59 0 (nI (J + 1)) := ⟨_, rfl⟩
      have F1 : Fr (TW c) g g1 := by rw [hg1]; exact Fr.sI (Or.inl rfl)
      have o : ∀ k, 2 ≤ k ∧ k ≤ 9 → gI g1 (c k) = gI g (c k) := fun k hk => by rw [hg1, gI_sI, if_neg (ax_5 A k hk)]
      refine ⟨g1, ?_, y2.trans F1, ⟨by rw [hg1, gI_sI, if_pos rfl, up_at, if_pos rfl], fun l hl => ?_⟩, fun j hj => by rw [hg1, gI_sI, if_pos rfl, up_at, if_neg hj, y3]⟩
      · show BX3_addStory_35 g 59 r (nI s) (nI (Nn m (110 + s))) = _
        unfold BX3_addStory_35 MX3_addStory_124
        simp only [ZL]
        rw [gg_t S.1, gg_t S.2.2.2.2.1.2.1, S.2.2.2.2.1.2.2, gg_in (by omega) (by omega), nCl (by omega), V.2.2.2.2.2.2.1 s hs, s5.1, if_pos (nI_le (Nat.le_refl _) (by omega)), gg_t Xg.1, lo, nAdd, lt_eq, ← hg1, up1_some]
      · rw [o 2 (by omega), o 7 (by omega), o 8 (by omega), y4, y5]
        unfold upN
        by_cases y : l = J
        · rw [if_pos y, if_pos y, if_pos y, y]
          exact ⟨rfl, rfl, y6⟩
        · rw [if_neg y, if_neg y, if_neg y]
          obtain ⟨k1, k2, k3⟩ := K.2 l (by omega)
          refine ⟨k1, k2, fun n hn => ?_⟩
          have := q5 l (by omega)
          rw [y7 _ (by omega)]
          exact k3 n hn
  obtain ⟨z, y1, y2⟩ := lp
  refine ⟨z, ?_, y2⟩
  unfold MX3_addStory MX3_addStory_35
  simp only [ZL]
  rw [gg_t X.1, X.p, X.p, X.p, gg_t (X.k 2 (by omega) (by omega)), K.1, X.l 2 (by omega) (by omega) (by omega), gg_in (by omega) (by omega), nCl (by omega), lt_eq, ← e4, gg_t (X.k 7 (by omega) (by omega)), show gI h4 59 0 = nI J by rw [e4, gI_sI, if_neg (ax_5' A 2 (by omega))]; exact K.1, X.l 7 (by omega) (by omega) (by omega), gg_in (by omega) (by omega), nCl (by omega), lt_eq, ← e11, gg_t (X.k 8 (by omega) (by omega)), show gI h11 59 0 = nI J by rw [e11, gI_sI, if_neg (ax_5' A 7 (by omega)), e4, gI_sI, if_neg (ax_5' A 2 (by omega))]; exact K.1, nMul, X.l8, gg_in (by omega) (by omega), nCl (by omega), show J * 6 = 6 * J by omega, lt_eq, ← e18]
  exact y1
/-- what the fitter has found -/
def CF (h : Hp) (c : Nat → Nat) (m : Nat → Int32) (p a : Nat) : Prop := FB h c (fN m a) (fitB m p a) ∧ gI h 59 0 = nI (fN m a) ∧ ∀ j, j < fN m a → gI h (c 2) j = nI (fS m a j)
theorem c_s65 (X : FX h c) (A : AX c) (I : MI m) (hp : p < 6) (hN : fN m a ≤ 4) (K : SJ h c m (fN m a) (fS m a)) (g1 : gI h 59 1 = -nI 1) (g10 : gI h 59 10 = nI (Nn m (327382 + 185 * p))) : ∃ h', MX3_search_65 h 59 (nI (Nn m (327382 + 185 * p + 1))) = some h' ∧ Fr (TW c) h h' ∧ CF h' c m p a := by
  obtain ⟨-, b2, -, b4⟩ := pg_b I hp
  have lp : ∃ z, it (fun x : Int32 × Hp => BX3_search_68 x.2 59 (nI (Nn m (327382 + 185 * p + 1))) x.1) (nI 0, h) = some z ∧ (Fr (TW c) h z ∧ CF z c m p a) := by
    refine it_cnt (fun j x => x.1 = nI j ∧ Fr (fun y => y = c 9) h x.2 ∧ ∀ l, l < j → gI x.2 (c 9) l = nI (Nn m (327382 + 185 * p + 1))) (Nn m (327382 + 185 * p)) (fun j x hj pp => ?_) (fun x pp => ?_) ⟨rfl, Fr.rfl, fun l hl => by omega⟩
    · obtain ⟨w, g⟩ := x
      obtain ⟨y1, y2, y3⟩ := pp
      replace y1 : w = nI j := y1
      replace y2 : Fr (fun y => y = c 9) h g := y2
      replace y3 : ∀ l, l < j → gI g (c 9) l = nI (Nn m (327382 + 185 * p + 1)) := y3
      subst y1
      have Xg := X.fr y2
      have e10 : gI g 59 10 = nI (Nn m (327382 + 185 * p)) := by rw [y2.2.2.2.2.2.2 59 (ax_5' A 9 (by omega))]; exact g10
      refine ⟨(nI (j + 1), sI g (c 9) j (nI (Nn m (327382 + 185 * p + 1)))), ?_, rfl, y2.trans (Fr.sI rfl), fun l hl => ?_⟩
      · show BX3_search_68 g 59 (nI (Nn m (327382 + 185 * p + 1))) (nI j) = _
        unfold BX3_search_68
        simp only [ZL]
        rw [gg_t Xg.1, e10, if_neg (nI_ge hj (by omega)), Xg.p, gg_t (Xg.k 9 (by omega) (by omega)), Xg.l 9 (by omega) (by omega) (by omega), gg_in (by omega) (by omega), nCl (by omega), lt_eq, nAdd]
      · show gI (sI g (c 9) j (nI (Nn m (327382 + 185 * p + 1)))) (c 9) l = _
        rw [gI_sI, if_pos rfl, up_at]
        by_cases y : l = j
        · rw [if_pos y]
        · rw [if_neg y]; exact y3 l (by omega)
    · obtain ⟨w, g⟩ := x
      obtain ⟨y1, y2, y3⟩ := pp
      replace y1 : w = nI (Nn m (327382 + 185 * p)) := y1
      replace y2 : Fr (fun y => y = c 9) h g := y2
      replace y3 : ∀ l, l < Nn m (327382 + 185 * p) → gI g (c 9) l = nI (Nn m (327382 + 185 * p + 1)) := y3
      subst y1
      have Xg := X.fr y2
      have o : ∀ x, ¬ x = c 9 → gI g x = gI h x := fun x hx => y2.2.2.2.2.2.2 x hx
      have o59 := o 59 (ax_5' A 9 (by omega))
      have Kg : FK g c (fN m a) (Nn m (327382 + 185 * p)) (fP m a) (fL m a) := ⟨by rw [o59]; exact K.1, by rw [o59]; exact g10, fun j hj => by rw [o _ (ax_n A 7 9 (by omega)), o _ (ax_n A 8 9 (by omega))]; exact (K.2 j hj).2⟩
      obtain ⟨z, q1, q2, q3, q4, q5, q6⟩ := c_col A (fit_s I hp hN) (fN m a) 30 0 g (fun _ => 0) (0, fun _ => 0, fun _ => 0) (by omega) (by omega) Xg Kg ⟨by rw [o59]; exact g1, by show 0 ≤ 100000; omega, fun e => absurd rfl e⟩ (fun j hj => by omega) y3
      refine ⟨z, ?_, (y2.mono (fun x hx => by rw [hx]; exact tw_k 9 (by omega))).trans (q2.mono (fun x hx => cw_tw hx)), q3, by rw [q4 0 (by omega), o59]; exact K.1, fun j hj => by rw [q2.2.2.2.2.2.2 _ (cw_n A 2 (by omega)), o _ (ax_n A 2 9 (by omega))]; exact (K.2 j hj).1⟩
      show BX3_search_68 g 59 (nI (Nn m (327382 + 185 * p + 1))) (nI (Nn m (327382 + 185 * p))) = _
      unfold BX3_search_68 MX3_search_92 MX3_chooseColumn
      simp only [ZL]
      rw [gg_t Xg.1, o59, g10, if_pos (nI_le (Nat.le_refl _) (by omega)), gg_t Xg.1, q1, ob_some, up1_some]
  obtain ⟨z, y1, y2⟩ := lp
  refine ⟨z, ?_, y2⟩
  unfold MX3_search_65 MX3_search_68
  simp only [ZL]
  exact y1
theorem SJ.ext {J : Nat} {q q' : Nat → Nat} (K : SJ h c m J q) (e : ∀ l, l < J → q' l = q l) : SJ h c m J q' := ⟨K.1, fun l hl => by rw [e l hl]; exact K.2 l hl⟩
theorem c_search (X : FX h c) (A : AX c) (H : HR h c r m) (I : MI m) (hp : p < 6) (ha : a < 2147483648) (hN : fN m a ≤ 4) : ∃ h', MX3_search h 59 r (nI a) (nI (Nn m (327382 + 185 * p))) (nI (Nn m (327382 + 185 * p + 1))) = some h' ∧ Fr (TW c) h h' ∧ CF h' c m p a := by
  have f1 := I.1.f.2.1
  obtain ⟨-, b2, -, b4⟩ := pg_b I hp
  obtain ⟨h2, e2⟩ : ∃ g, g = sI h 59 0 (nI 0) := ⟨_, rfl⟩
  obtain ⟨h7, e7⟩ : ∃ g, g = sI h2 59 1 (-nI 1) := ⟨_, rfl⟩
  obtain ⟨h13, e13⟩ : ∃ g, g = sI h7 59 10 (nI (Nn m (327382 + 185 * p))) := ⟨_, rfl⟩
  have F2 : Fr (TW c) h h2 := by rw [e2]; exact Fr.sI (Or.inl rfl)
  have F7 : Fr (TW c) h2 h7 := by rw [e7]; exact Fr.sI (Or.inl rfl)
  have F13 : Fr (TW c) h7 h13 := by rw [e13]; exact Fr.sI (Or.inl rfl)
  have F := (F2.trans F7).trans F13
  have k0 : gI h13 59 0 = nI 0 := by rw [e13, gI2, if_neg (by omega), e7, gI2, if_neg (by omega), e2, gI2, if_pos ⟨rfl, rfl⟩]
  have k1 : gI h13 59 1 = -nI 1 := by rw [e13, gI2, if_neg (by omega), e7, gI2, if_pos ⟨rfl, rfl⟩]
  have k10 : gI h13 59 10 = nI (Nn m (327382 + 185 * p)) := by rw [e13, gI2, if_pos ⟨rfl, rfl⟩]
  -- leaving the loop at j
  have lv : ∀ j g, j ≤ Nn m 1 → Fr (TW c) h g → SJ g c m (pcN a j) (inS a j) → gI g 59 1 = -nI 1 → gI g 59 10 = nI (Nn m (327382 + 185 * p)) → (j = Nn m 1 ∨ 4 ≤ pcN a j) → ∃ h', MX3_search_65 g 59 (nI (Nn m (327382 + 185 * p + 1))) = some h' ∧ Fr (TW c) h h' ∧ CF h' c m p a := fun j g hj Fg K g1 g10 hx => by
    have mono := pc_mono (a := a) (Nn m 1 - j) j
    rw [show j + (Nn m 1 - j) = Nn m 1 by omega] at mono
    have eN : pcN a j = fN m a := by
      rcases hx with z | z
      · rw [z]; rfl
      · have : pcN a (Nn m 1) ≤ 4 := hN
        show pcN a j = pcN a (Nn m 1)
        omega
    have K' : SJ g c m (fN m a) (fS m a) := by
      rw [← eN]
      refine K.ext (fun l hl => ?_)
      have := inS_up hl (Nn m 1 - j)
      rw [show j + (Nn m 1 - j) = Nn m 1 by omega] at this
      exact this
    obtain ⟨z, y1, y2, y3⟩ := c_s65 (X.fr Fg) A I hp hN K' g1 g10
    exact ⟨z, y1, Fg.trans y2, y3⟩
  have lp : ∃ z, it (fun x : Int32 × Hp => BX3_search_26 x.2 59 r (nI a) (nI (Nn m (327382 + 185 * p + 1))) x.1) (nI 0, h13) = some z ∧ (Fr (TW c) h z ∧ CF z c m p a) := by
    refine it_up (P := fun k x => ∃ j, j + k = Nn m 1 ∧ x.1 = nI j ∧ Fr (TW c) h x.2 ∧ SJ x.2 c m (pcN a j) (inS a j) ∧ gI x.2 59 1 = -nI 1 ∧ gI x.2 59 10 = nI (Nn m (327382 + 185 * p))) (Q := fun z => Fr (TW c) h z ∧ CF z c m p a) (Nn m 1) (fun k x pp => ?_) (nI 0, h13) ⟨0, by omega, rfl, F, ⟨k0, fun l hl => by unfold pcN at hl; omega⟩, k1, k10⟩
    obtain ⟨w, g⟩ := x
    obtain ⟨j, y0, y1, y2, y3, y4, y5⟩ := pp
    replace y1 : w = nI j := y1
    replace y2 : Fr (TW c) h g := y2
    replace y3 : SJ g c m (pcN a j) (inS a j) := y3
    replace y4 : gI g 59 1 = -nI 1 := y4
    replace y5 : gI g 59 10 = nI (Nn m (327382 + 185 * p)) := y5
    subst y1
    obtain ⟨S, V⟩ := H g y2
    have Xg := X.fr y2
    have r7 : gI g r 7 = nI (Nn m 1) := by rw [V.2.1]; exact f1.1
    by_cases z1 : j = Nn m 1
    · obtain ⟨z, q1, q2⟩ := lv j g (by omega) y2 y3 y4 y5 (Or.inl z1)
      refine Or.inl ⟨z, ?_, q2⟩
      show BX3_search_26 g 59 r (nI a) (nI (Nn m (327382 + 185 * p + 1))) (nI j) = _
      unfold BX3_search_26
      rw [gg_t S.1, r7, if_pos (nI_le (by omega) (by omega)), q1, up1_some]
    · have hj : j < Nn m 1 := by omega
      by_cases z2 : 4 ≤ pcN a j
      · obtain ⟨z, q1, q2⟩ := lv j g (by omega) y2 y3 y4 y5 (Or.inr z2)
        refine Or.inl ⟨z, ?_, q2⟩
        have := pc_le (a := a) j
        show BX3_search_26 g 59 r (nI a) (nI (Nn m (327382 + 185 * p + 1))) (nI j) = _
        unfold BX3_search_26
        simp only [ZL]
        rw [gg_t S.1, r7, if_neg (nI_ge hj (by omega)), gg_t Xg.1, y3.1, if_pos (nI_le z2 (by omega)), q1, up1_some]
      · have head : BX3_search_26 g 59 r (nI a) (nI (Nn m (327382 + 185 * p + 1))) (nI j) = if btN a j = 0 then some (.inl (nI (j + 1), g)) else Option.bind (MX3_addStory g 59 r (nI j)) fun (h36 : Hp) => some (.inl (nI (j + 1), h36)) := by
          unfold BX3_search_26
          simp only [ZL]
          rw [gg_t S.1, r7, if_neg (nI_ge hj (by omega)), gg_t Xg.1, y3.1, if_neg (nI_ge (by omega) (by omega)), nAdd]
          by_cases z : btN a j = 0
          · rw [if_pos (by rw [bt_0 ha (by omega)]; exact z), if_pos z]
          · rw [if_neg (by rw [bt_0 ha (by omega)]; exact z), if_neg z]
        have bl := bt_lt a j
        by_cases z : btN a j = 0
        · have e1 : pcN a (j + 1) = pcN a j := by show pcN a j + btN a j = _; omega
          have e2 : inS a (j + 1) = inS a j := by show (if btN a j = 0 then _ else _) = _; rw [if_pos z]
          refine Or.inr ⟨(nI (j + 1), g), k - 1, by omega, ⟨j + 1, by omega, rfl, y2, by rw [e1, e2]; exact y3, y4, y5⟩, ?_⟩
          show BX3_search_26 g 59 r (nI a) (nI (Nn m (327382 + 185 * p + 1))) (nI j) = _
          rw [head, if_pos z]
        · have e1 : pcN a (j + 1) = pcN a j + 1 := by show pcN a j + btN a j = _; omega
          have e2 : inS a (j + 1) = upN (inS a j) (pcN a j) j := by show (if btN a j = 0 then _ else _) = _; rw [if_neg z]
          obtain ⟨g1, q1, q2, q3, q4⟩ := c_addSt Xg A (H.fr y2) I hj (by omega) y3 (fun l hl => by have := (inS_in j l hl).1; omega)
          refine Or.inr ⟨(nI (j + 1), g1), k - 1, by omega, ⟨j + 1, by omega, rfl, y2.trans q2, by rw [e1, e2]; exact q3, by show gI g1 59 1 = _; rw [q4 1 (by omega)]; exact y4, by show gI g1 59 10 = _; rw [q4 10 (by omega)]; exact y5⟩, ?_⟩
          show BX3_search_26 g 59 r (nI a) (nI (Nn m (327382 + 185 * p + 1))) (nI j) = _
          rw [head, if_neg z, q1, ob_some]
  obtain ⟨z, y1, y2⟩ := lp
  refine ⟨z, ?_, y2⟩
  have jm : jmin (nI (Nn m (327382 + 185 * p))) (nI 4) = nI (Nn m (327382 + 185 * p)) := by
    unfold jmin
    rw [if_neg (nI_nlt (by omega) (by omega))]
  have l7 : ln h7 (c 9) = 4 := by rw [e7, ln_sI, e2, ln_sI]; exact X.l 9 (by omega) (by omega) (by omega)
  unfold MX3_search MX3_search_26
  simp only [ZL]
  rw [gg_t X.1, lt_eq, ← e2, lt_eq, ← e7, X.p, gg_t (X.k 9 (by omega) (by omega)), l7, jm, lt_eq, ← e13]
  exact y1
end
