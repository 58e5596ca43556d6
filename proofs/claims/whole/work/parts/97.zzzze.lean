/-! a story: a part that is read stays; own parts -/
def KpT (j : Nat) (s s' : TX) : Prop := s'.2.2.2.1 j = s.2.2.2.1 j ∧ s'.2.2.2.2.1 j = s.2.2.2.2.1 j ∧ (∀ x, x < 40 → s'.2.2.2.2.2.1 (40 * j + x) = s.2.2.2.2.2.1 (40 * j + x) ∧ s'.2.2.2.2.2.2.1 (40 * j + x) = s.2.2.2.2.2.2.1 (40 * j + x)) ∧ ∀ y, y < 480 → s'.2.2.2.2.2.2.2 (480 * j + y) = s.2.2.2.2.2.2.2 (480 * j + y)
section
variable {mp mw ba c n i j d : Nat} {b : Nat → Nat} {s s' s'' s0 : TX}
theorem KpT.rfl : KpT j s s := ⟨Eq.refl _, Eq.refl _, fun _ _ => ⟨Eq.refl _, Eq.refl _⟩, fun _ _ => Eq.refl _⟩
theorem KpT.tr (a : KpT j s s') (b : KpT j s' s'') : KpT j s s'' := ⟨b.1.trans a.1, b.2.1.trans a.2.1, fun x hx => ⟨(b.2.2.1 x hx).1.trans (a.2.2.1 x hx).1, (b.2.2.1 x hx).2.trans (a.2.2.1 x hx).2⟩, fun y hy => (b.2.2.2 y hy).trans (a.2.2.2 y hy)⟩
theorem kp_st (T : TI mp mw ba s) (hm : mw ≤ 40) (hs : stT mp mw ba s c n = .inr s') : s.1 ≤ s'.1 ∧ (c ≠ 47 → s'.1 = s.1) ∧ (j < s'.1 → KpT j s s') := by
  by_cases h47 : c = 47
  · subst h47
    unfold stT at hs
    rw [show lB 47 = false by decide, if_neg (by decide)] at hs
    cases bb : s.2.2.1 with
    | true => rw [bb, if_pos rfl] at hs; cases hs
    | false =>
      rw [bb, if_neg (by decide), if_neg (show ¬ ((47 : Nat) = 45 ∧ 0 < s.2.1) by omega)] at hs
      by_cases z : (47 : Nat) = 47 ∧ 0 < tw s ∧ s.1 + 1 < mp
      · rw [if_pos z] at hs
        cases hs
        refine ⟨Nat.le_succ _, fun x => absurd rfl x, fun hj => ?_⟩
        have hj : j < s.1 + 1 := hj
        refine ⟨?_, ?_, fun x hx => ⟨rfl, rfl⟩, fun y hy => rfl⟩
        · show va_up s.2.2.2.1 (s.1 + 1) (nI 0) j = _
          rw [up_at, if_neg (by omega)]
        · show va_up s.2.2.2.2.1 (s.1 + 1) (nI 0) j = _
          rw [up_at, if_neg (by omega)]
      · rw [if_neg z, if_neg (by decide)] at hs
        cases hs
  · obtain ⟨n1, n2, n3, n4, n5⟩ := ti_nm T hm
    rcases stT_c hs h47 with ⟨lc, r0, w1, p1, es⟩ | ⟨lc, r0, r1, es⟩ | ⟨lc, bf, b45, r0, es⟩ | ⟨lc, bf, b32, es⟩
    · subst es
      refine ⟨Nat.le_refl _, fun _ => rfl, fun hj => ?_⟩
      have hj : j < s.1 := hj
      refine ⟨?_, ?_, fun x hx => ⟨?_, ?_⟩, fun y hy => ?_⟩
      · show va_up s.2.2.2.1 s.1 _ j = _
        rw [up_at, if_neg (by omega)]
      · show va_up s.2.2.2.2.1 s.1 _ j = _
        rw [up_at, if_neg (by omega)]
      · show va_up s.2.2.2.2.2.1 (40 * s.1 + tp s) _ _ = _
        rw [up_at, if_neg (by omega)]
      · show va_up s.2.2.2.2.2.2.1 (40 * s.1 + tp s) _ _ = _
        rw [up_at, if_neg (by omega)]
      · show va_up s.2.2.2.2.2.2.2 (12 * (40 * s.1 + tp s)) _ _ = _
        rw [up_at, if_neg (by omega)]
    · subst es
      have := (n1 (Or.inl r0)).1
      refine ⟨Nat.le_refl _, fun _ => rfl, fun hj => ?_⟩
      have hj : j < s.1 := hj
      refine ⟨rfl, rfl, fun x hx => ⟨rfl, ?_⟩, fun y hy => ?_⟩
      · show va_up s.2.2.2.2.2.2.1 (40 * s.1 + tp s - 1) _ _ = _
        rw [up_at, if_neg (by omega)]
      · show va_up s.2.2.2.2.2.2.2 (12 * (40 * s.1 + tp s - 1) + s.2.1) _ _ = _
        rw [up_at, if_neg (by omega)]
    · subst es
      exact ⟨Nat.le_refl _, fun _ => rfl, fun _ => KpT.rfl⟩
    · subst es
      exact ⟨Nat.le_refl _, fun _ => rfl, fun _ => KpT.rfl⟩
theorem kp_ru (T0 : TI mp mw ba s0) (hm : mw ≤ 40) (hb : ba ≤ 40) (hr : ruT mp mw ba b s0 i = .inr s) : ∀ d s', ruT mp mw ba b s0 (i + d) = .inr s' → s.1 ≤ s'.1 ∧ (j < s.1 → KpT j s s')
  | 0, s', h => by
    rw [Nat.add_zero, hr] at h
    cases h
    exact ⟨Nat.le_refl _, fun _ => KpT.rfl⟩
  | d + 1, s', h => by
    cases e : ruT mp mw ba b s0 (i + d) with
    | inl p =>
      have : ruT mp mw ba b s0 (i + d + 1) = .inl p := ruT_e e 1
      rw [show i + (d + 1) = i + d + 1 from rfl, this] at h
      cases h
    | inr s1 =>
      obtain ⟨a1, a2⟩ := kp_ru T0 hm hb hr d s1 e
      rw [show i + (d + 1) = i + d + 1 from rfl, ruT_s e] at h
      obtain ⟨b1, -, b3⟩ := kp_st (j := j) (ti_ru T0 hm hb (i + d) s1 e) hm h
      exact ⟨by omega, fun hj => (a2 hj).tr (b3 (by omega))⟩
end
section
variable {tg tg1 : Nat → List Nat} {g h1 g' h h' : Hp} {r x F j c p fc du : Nat} {u v : Int32}
/-- own one, then it is written -/
theorem stp_own (t1 : Rt tg g r x) (t2 : r ≤ sz g) (t3 : 109 ≤ sz g) (hF : F ≠ 4 ∧ F ≠ 14) (hA : gP g r F ≠ 0) (W : OW tg g tg1 h1 r x F j c) (C : Fr (fun b => b = c ∨ ∃ k, gP h1 c k ≠ 0 ∧ b = gP h1 c k) h1 g') (sh : (F = 5 → PtS g' c) ∧ (F = 2 → StyS g' c) ∧ (F = 8 → MaS g' c) ∧ (F = 10 → SlS g' c)) : TkSt tg g tg1 g' r x F j ∧ gP g' (gP g' r F) j = c := by
  obtain ⟨w1, w2, w3, w4, w5, w6⟩ := W
  have K1 := w1.rt t1 t2 t3
  have hr1 : r ≤ sz h1 := by have := w1.2.1; omega
  have eP : gP h1 r = gP g r := w3.2.1
  have hA1 : gP h1 r F ≠ 0 := by rw [eP]; exact hA
  rw [← eP] at w5
  have tc := K1.o (k := F) (j := j) (by rw [← w5]; exact w6)
  rw [← w5] at tc
  have c3 : c ≠ 3 := by rw [w5]; exact K1.o3
  have hD : ∀ b, (b = c ∨ ∃ k, gP h1 c k ≠ 0 ∧ b = gP h1 c k) → b ≠ 0 ∧ [j, F, x] <:+ tg1 b := fun b hb => by
    rcases hb with hb | ⟨k, hk, hb⟩
    · rw [hb]; exact ⟨w6, by rw [tc]; exact List.suffix_refl _⟩
    · rw [hb]; exact ⟨hk, by rw [tgc K1.1 hk c3, tc]; exact List.suffix_append [k] _⟩
  have Z2 := Of.fr K1 C hA1 hD
  have eP' : gP g' = gP h1 := C.2.2.1
  have ec : gP g' (gP g' r F) j = c := by rw [eP']; exact w5.symm
  have ec2 : gP g' (gP h1 r F) j = c := by rw [eP']; exact w5.symm
  refine ⟨⟨w1.trans (Rx.fr K1.1 C (fun b hb => ⟨(hD b hb).1, x, rfl, (List.suffix_append [j, F] [x]).trans (hD b hb).2⟩)), ?_, w3.trans Z2 w1.2.1 (fun z hz => (w1.2.2.1 z hz).1), w4.ob K1 hr1 hF Z2 hA1 (by rw [ec2]; exact sh)⟩, ec⟩
  rw [(rmP_fr C).1, (rmP_fr (r := r) C).2]
  exact w2
/-- a part is emptied -/
theorem c_emptyPt (S : PtS h p) : ∃ h', MX5_empty h p u v = some h' ∧ Fr (fun y => y = p) h h' ∧ ∀ j, gI h' p j = if j = 5 ∨ j = 6 ∨ j = 9 ∨ j = 10 ∨ j = 11 then nI 0 else if j = 7 then u else if j = 8 then v else gI h p j := by
  have f : ∀ (g : Hp) (j : Nat) (w : Int32), Fr (fun y => y = p) g (sI g p j w) := fun g j w => Fr.sI (S := fun y => y = p) rfl
  refine ⟨sI (sI (sI (sI (sI (sI (sI h p 5 (nI 0)) p 6 (nI 0)) p 7 u) p 8 v) p 9 (nI 0)) p 10 (nI 0)) p 11 (nI 0), ?_, ((((((f _ _ _).trans (f _ _ _)).trans (f _ _ _)).trans (f _ _ _)).trans (f _ _ _)).trans (f _ _ _)).trans (f _ _ _), fun j => ?_⟩
  · unfold MX5_empty
    simp only [ZL]
    rw [gg_t S.1, lt_eq, lt_eq, lt_eq, lt_eq, lt_eq, lt_eq, lt_eq]
  · rw [gI_sI, if_pos rfl, up_at, gI_sI, if_pos rfl, up_at, gI_sI, if_pos rfl, up_at, gI_sI, if_pos rfl, up_at, gI_sI, if_pos rfl, up_at, gI_sI, if_pos rfl, up_at, gI_sI, if_pos rfl, up_at]
    by_cases z11 : j = 11
    · rw [if_pos z11, if_pos (by omega)]
    · rw [if_neg z11]
      by_cases z10 : j = 10
      · rw [if_pos z10, if_pos (by omega)]
      · rw [if_neg z10]
        by_cases z9 : j = 9
        · rw [if_pos z9, if_pos (by omega)]
        · rw [if_neg z9]
          by_cases z8 : j = 8
          · rw [if_pos z8, if_neg (by omega), if_neg (by omega), if_pos z8]
          · rw [if_neg z8]
            by_cases z7 : j = 7
            · rw [if_pos z7, if_neg (by omega), if_pos z7]
            · rw [if_neg z7]
              by_cases z6 : j = 6
              · rw [if_pos z6, if_pos (by omega)]
              · rw [if_neg z6]
                by_cases z5 : j = 5
                · rw [if_pos z5, if_pos (by omega)]
                · rw [if_neg z5, if_neg (by omega), if_neg z7, if_neg z8]
end
