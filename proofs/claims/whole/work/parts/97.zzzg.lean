/-! fits: the pair -/
section
variable {tg : Nat → List Nat} {h h' h1 : Hp} {m k t : Nat → Int32} {i n f : Int32} {a p s l0 : Nat} {c : Nat → Nat}
theorem c_place (X : FX h c) (K : CF h c m p a) (hN : fN m a ≤ 4) (f1 : Nn m 1 ≤ 20) (hs : s < 20) : (∀ l, l < fN m a → fS m a l = s → (∀ j, j < l → fS m a j ≠ s) → MX3_placeOf h 59 (nI s) = some (nI l)) ∧ ((∀ l, l < fN m a → fS m a l ≠ s) → MX3_placeOf h 59 (nI s) = some (-nI 1)) := by
  have st : ∀ j, j < fN m a → BX3_placeOf_2 h 59 (nI s) (nI j) = if fS m a j = s then some (.inr (nI j)) else some (.inl (nI (j + 1))) := fun j hj => by
    have b := (fS_in hj).1
    unfold BX3_placeOf_2
    simp only [ZL]
    rw [gg_t X.1, K.2.1, if_neg (nI_ge hj (by omega)), X.p, gg_t (X.k 2 (by omega) (by omega)), X.l 2 (by omega) (by omega) (by omega), gg_in (by omega) (by omega), nCl (by omega), K.2.2 j hj, nAdd]
    by_cases z : fS m a j = s
    · rw [if_pos (by rw [z]), if_pos z]
    · rw [if_neg (by rw [nEq (by omega) (by omega)]; exact z), if_neg z]
  unfold MX3_placeOf MX3_placeOf_2
  simp only [ZL]
  refine ⟨fun l hl e H => it_seq2 (fun j => nI j) l rfl (fun j hj => ?_) ?_, fun H => it_seq2 (fun j => nI j) (fN m a) rfl (fun j hj => ?_) ?_⟩
  · show BX3_placeOf_2 h 59 (nI s) (nI j) = _
    rw [st j (by omega), if_neg (H j hj)]
  · show BX3_placeOf_2 h 59 (nI s) (nI l) = _
    rw [st l hl, if_pos e]
  · show BX3_placeOf_2 h 59 (nI s) (nI j) = _
    rw [st j hj, if_neg (H j hj)]
  · show BX3_placeOf_2 h 59 (nI s) (nI (fN m a)) = _
    unfold BX3_placeOf_2
    simp only [ZL]
    rw [gg_t X.1, K.2.1, if_pos (nI_le (Nat.le_refl _) (by omega))]
def ftV (b : Bst) (l : Nat) (y : Nat) : Int32 := if y = 0 then nI (b.2.1 l) else nI (b.2.2 l)
theorem r_place (R : RS h) (K : RFt h m p a) (hN : fN m a ≤ 4) (f1 : Nn m 1 ≤ 20) (hs : s < 20) {y : Nat} (hy : y < 2) : (∀ l, l < fN m a → fS m a l = s → (∀ j, j < l → fS m a j ≠ s) → (fitB m p a).1 ≠ 0 → MX12_fits_48 h 73 (nI s) (nI y) (nI 0) = some (ftV (fitB m p a) l y, h)) ∧ (((∀ l, l < fN m a → fS m a l ≠ s) ∨ (fitB m p a).1 = 0) → MX12_fits_48 h 73 (nI s) (nI y) (nI 0) = some (-nI 1, h)) := by
  obtain ⟨K1, K2, K3⟩ := K
  have bv : ((bV (fitB m p a) = -nI 1) ↔ (fitB m p a).1 = 0) := by
    unfold bV
    by_cases z : (fitB m p a).1 = 0
    · rw [if_pos z]; exact ⟨fun _ => z, fun _ => rfl⟩
    · rw [if_neg z, nM6 (by have := K1.2.1; omega)]
      exact ⟨fun e => e.elim, fun e => z e⟩
  have st : ∀ j, j < fN m a → BX12_fits_48 h 73 (nI s) (nI y) (nI j) = if (fitB m p a).1 = 0 then some (.inr (-nI 1, h)) else if fS m a j = s then up1 (MX12_fits_76 h 73 (nI y) (nI j)) else some (.inl (nI (j + 1))) := fun j hj => by
    have b := (fS_in hj).1
    unfold BX12_fits_48
    simp only [ZL]
    rw [gg_t (RS.f R).1]
    simp only [RS.f R]
    rw [K2, if_neg (nI_ge hj (by omega)), K1.1]
    by_cases z : (fitB m p a).1 = 0
    · rw [if_pos (bv.mpr z), if_pos z]
    · rw [if_neg (fun e => z (bv.mp e)), if_neg z, gg_T, gg_in (by omega) (by omega), nCl (by omega), K3 j hj, nAdd]
      by_cases z : fS m a j = s
      · rw [if_pos (by rw [z]), if_pos z]
      · rw [if_neg (by rw [nEq (by omega) (by omega)]; exact z), if_neg z]
  have fin : BX12_fits_48 h 73 (nI s) (nI y) (nI (fN m a)) = some (.inr (-nI 1, h)) := by
    unfold BX12_fits_48
    simp only [ZL]
    rw [gg_t (RS.f R).1, K2, if_pos (nI_le (Nat.le_refl _) (by omega))]
  unfold MX12_fits_48
  constructor
  · intro l hl e H b0
    refine it_seq2 (fun j => nI j) l rfl (fun j hj => ?_) ?_
    · show BX12_fits_48 h 73 (nI s) (nI y) (nI j) = _
      rw [st j (by omega), if_neg b0, if_neg (H j hj)]
    · show BX12_fits_48 h 73 (nI s) (nI y) (nI l) = _
      obtain ⟨v1, v2⟩ := K1.2.2 b0 l hl
      rw [st l hl, if_neg b0, if_pos e]
      unfold MX12_fits_76 ftV
      simp only [ZL]
      rw [gg_t (RS.f R).1]
      simp only [RS.f R]
      by_cases z : y = 0
      · rw [if_pos (by rw [z]), if_pos z, gg_T, gg_in (by omega) (by omega), nCl (by omega), v1, up1_some]
      · rw [if_neg (by rw [nEq (by omega) (by omega)]; exact z), if_neg z, gg_T, gg_in (by omega) (by omega), nCl (by omega), v2, gg_T, up1_some]
  · intro H
    by_cases b0 : (fitB m p a).1 = 0
    · by_cases z : fN m a = 0
      · refine it_done ?_
        show BX12_fits_48 h 73 (nI s) (nI y) (nI 0) = _
        rw [← z]
        exact fin
      · refine it_done ?_
        show BX12_fits_48 h 73 (nI s) (nI y) (nI 0) = _
        rw [st 0 (by omega), if_pos b0]
    · rcases H with H | H
      · refine it_seq2 (fun j => nI j) (fN m a) rfl (fun j hj => ?_) fin
        show BX12_fits_48 h 73 (nI s) (nI y) (nI j) = _
        rw [st j hj, if_neg b0, if_neg (H j hj)]
      · exact absurd H b0
theorem p_fits (C : CSt tg h m k i t n f) (R : RSt h m k i t n f) (v w u : Int32) {y : Nat} (hy : y < 2) : Pr (cm [1, 2, 5]) Gq h (MX11_fits h 1 v w u (nI y)) (fun h' => MX12_fits h' 73 v w u (nI y)) := by
  obtain ⟨O, Y, -, S, V, Dk, DV, I, -⟩ := id C
  obtain ⟨FXh, AXh, hD, HRh⟩ := fit_x C
  have f1 := I.1.f.2.1
  obtain ⟨c1, c2⟩ := c_findFit C (v := v) (w := w)
  have e7 : gI h 19 7 = nI (Nn m 1) := by rw [V.2.1]; exact f1.1
  by_cases us : ∃ s, s < Nn m 1 ∧ u = nI s
  · obtain ⟨s, hs, rfl⟩ := us
    have hc : ∀ E, MX11_findFit h 1 v w = some (.inr E, bmp h 1 6) → MX11_fits h 1 v w (nI s) (nI y) = some (.inr E, bmp h 1 6) := fun E e => by
      unfold MX11_fits
      simp only [ZL]
      rw [if_neg (nI_nlt (Nat.zero_le _) (by omega)), gg_t Y.1, X5 Y, gg_t S.1, e7, if_pos (nI_lt hs (by omega)), e, bT_thr]
    have h27 : ∀ h', RSt h' m k i t n f → MX12_fits h' 73 v w (nI s) (nI y) = Option.bind (MX12_notFit h' 73 v w) fun (t8 : Int32) => MX12_fits_27 h' 73 v w (nI s) (nI y) 73 t8 := fun h' R' => by
      unfold MX12_fits
      simp only [ZL]
      rw [gg_t (RS.f R'.1).1]
      simp only [RS.f R'.1]
      rw [gg_T, gg_in (by omega) (by omega), nCl (by omega), R'.2.1, f1.1, r_isIn_nt (by omega) hs, ob_some, if_neg (by decide)]
    have hr : ∀ h' (q : Nat), q < 2147483648 → 1 ≤ q → RSt h' m k i t n f → MX12_notFit h' 73 v w = some (nI q) → MX12_fits h' 73 v w (nI s) (nI y) = some (nI 0, sI h' 73 0 (nI q)) := fun h' q hq q1 R' e => by
      rw [h27 h' R', e, ob_some]
      unfold MX12_fits_27
      simp only [ZL]
      rw [gg_t (RS.f R'.1).1, lt_eq, gg_t (RS.f R'.1).1, th_get, if_neg (nI_ge q1 hq)]
    by_cases ok : ∃ p a, okF m v w p a
    · obtain ⟨p, a, ok⟩ := ok
      obtain ⟨d1, d2⟩ := c2 p a ok
      have a31 : a < 2147483648 := by
        have hp2 : 2 ^ Nn m 1 ≤ 2 ^ 20 := Nat.pow_le_pow_right (by omega) I.1.f.2.1.2
        have := ok.2.2.1
        omega
      by_cases z : fN m a < 1 ∨ 4 < fN m a
      · exact Pr.thr C R 2 2 rfl (by omega) (by omega) (hc 2 (d1 z)) fun h' R' => ⟨nI 0, hr h' 2 (by omega) (by omega) R' (by rw [r_nfB R'.1 R'.2.1 I ok, if_pos z])⟩
      · obtain ⟨e1, e2⟩ := d2 z
        by_cases H : ∀ s, s < Nn m 1 → stB m a s = true
        · obtain ⟨h1, y1, y2, y3, y4, y5⟩ := e2 H
          have X1 := FXh.fr y2
          have hN4 : fN m a ≤ 4 := by omega
          obtain ⟨l1, l2⟩ := c_place X1 ⟨y3, y4, y5⟩ hN4 f1.2 (show s < 20 by omega)
          have head : ∀ x : Int32, MX3_placeOf h1 59 (nI s) = some x → MX11_fits h 1 v w (nI s) (nI y) = (if bV (fitB m p a) = -nI 1 then some (.inl (-nI 1), h1) else if x = -nI 1 then some (.inl (-nI 1), h1) else if nI y = nI 0 then gg (inB x 4 = true) <| some (.inl (gI h1 (gP h 59 3) x.toNatClampNeg), h1) else gg (inB x 4 = true) <| some (.inl (gI h1 (gP h 59 4) x.toNatClampNeg), h1)) := fun x ex => by
            unfold MX11_fits
            simp only [ZL]
            rw [if_neg (nI_nlt (Nat.zero_le _) (by omega)), gg_t Y.1, X5 Y, gg_t S.1, e7, if_pos (nI_lt hs (by omega)), y1, bT_some, y2.1, gg_t Y.1, y2.2.2.1, X7 Y, gg_t FXh.1, ex, ob_some, y3.1, y2.2.1, gg_t (FXh.k 3 (by omega) (by omega)), gg_t (FXh.k 4 (by omega) (by omega)), FXh.l 3 (by omega) (by omega) (by omega), FXh.l 4 (by omega) (by omega) (by omega)]
          have rr : ∀ h', RSt h' m k i t n f → ∃ h2, MX12_fits h' 73 v w (nI s) (nI y) = MX12_fits_48 h2 73 (nI s) (nI y) (nI 0) ∧ Fr Rc h' h2 ∧ RSt h2 m k i t n f ∧ gI h2 73 0 = nI 0 ∧ RFt h2 m p a := fun h' R' => by
            obtain ⟨h2, q1, q2, q3, q4, q5⟩ := r_fit0 R' I ok z
            refine ⟨h2, ?_, q2, q3, q4, q5⟩
            obtain ⟨-, rfl, -, rfl⟩ := id ok
            rw [h27 h' R', r_nfB R'.1 R'.2.1 I ok, if_neg z, (r_nfC R'.1 R'.2.1 I a31).1 H, ob_some]
            unfold MX12_fits_27
            simp only [ZL]
            rw [gg_t (RS.f R'.1).1, lt_eq, gg_t (RS.f R'.1).1, th_get, if_pos (by decide), q1, ob_some]
          have bv : ((bV (fitB m p a) = -nI 1) ↔ (fitB m p a).1 = 0) := by
            unfold bV
            by_cases z : (fitB m p a).1 = 0
            · rw [if_pos z]; exact ⟨fun _ => z, fun _ => rfl⟩
            · rw [if_neg z, nM6 (by have := y3.2.1; omega)]
              exact ⟨fun e => e.elim, fun e => z e⟩
          by_cases b0 : (fitB m p a).1 = 0
          · have ex : ∃ x, MX3_placeOf h1 59 (nI s) = some x := by
              by_cases w1 : ∃ l, l < fN m a ∧ fS m a l = s
              · obtain ⟨l, k1, k2⟩ := pk_least _ w1
                exact ⟨_, l1 l k1.1 k1.2 (fun j hj e => k2 j hj ⟨by have := k1.1; omega, e⟩)⟩
              · exact ⟨_, l2 (fun l hl e => w1 ⟨l, hl, e⟩)⟩
            obtain ⟨x, ex⟩ := ex
            refine Pr.ft (x := 7) C R (-nI 1) (by rw [head x ex, if_pos (bv.mpr b0)]) y2 hD (Or.inl rfl) fun h' R' => ?_
            obtain ⟨h2, q1, q2, q3, q4, q5⟩ := rr h' R'
            exact ⟨h2, by rw [q1, (r_place q3.1 q5 hN4 f1.2 (show s < 20 by omega) hy).2 (Or.inr b0)], q2, q3, q4⟩
          · by_cases w1 : ∃ l, l < fN m a ∧ fS m a l = s
            · obtain ⟨l, k1, k2⟩ := pk_least _ w1
              have k3 : ∀ j, j < l → fS m a j ≠ s := fun j hj e => k2 j hj ⟨by have := k1.1; omega, e⟩
              obtain ⟨v1, v2⟩ := y3.2.2 b0 l k1.1
              have l4 := k1.1
              refine Pr.ft (x := 7) C R (ftV (fitB m p a) l y) ?_ y2 hD (Or.inl rfl) fun h' R' => ?_
              · rw [head _ (l1 l k1.1 k1.2 k3), if_neg (fun e => b0 (bv.mp e)), if_neg (by rw [nM6 (by omega)]; exact id), gg_in (by omega) (by omega), gg_in (by omega) (by omega), nCl (by omega), v1, v2]
                unfold ftV
                by_cases y0 : y = 0
                · rw [if_pos (by rw [y0]), if_pos y0]
                · rw [if_neg (by rw [nEq (by omega) (by omega)]; exact y0), if_neg y0]
              · obtain ⟨h2, q1, q2, q3, q4, q5⟩ := rr h' R'
                exact ⟨h2, by rw [q1, (r_place q3.1 q5 hN4 f1.2 (show s < 20 by omega) hy).1 l k1.1 k1.2 k3 b0], q2, q3, q4⟩
            · have k3 : ∀ l, l < fN m a → fS m a l ≠ s := fun l hl e => w1 ⟨l, hl, e⟩
              refine Pr.ft (x := 7) C R (-nI 1) (by rw [head _ (l2 k3), if_neg (fun e => b0 (bv.mp e)), if_pos rfl]) y2 hD (Or.inl rfl) fun h' R' => ?_
              obtain ⟨h2, q1, q2, q3, q4, q5⟩ := rr h' R'
              exact ⟨h2, by rw [q1, (r_place q3.1 q5 hN4 f1.2 (show s < 20 by omega) hy).2 (Or.inl k3)], q2, q3, q4⟩
        · exact Pr.thr C R 5 3 rfl (by omega) (by omega) (hc 5 (e1 H)) fun h' R' => ⟨nI 0, hr h' 3 (by omega) (by omega) R' (by
            obtain ⟨-, rfl, -, rfl⟩ := id ok
            rw [r_nfB R'.1 R'.2.1 I ok, if_neg z, (r_nfC R'.1 R'.2.1 I a31).2 H])⟩
    · exact Pr.thr C R 1 1 rfl (by omega) (by omega) (hc 1 (c1 ok)) fun h' R' => ⟨nI 0, hr h' 1 (by omega) (by omega) R' (r_nfA R'.1 R'.2.1 I ok)⟩
  · have hu : ∀ j, j < Nn m 1 → u ≠ nI j := fun j hj e => us ⟨j, hj, e⟩
    refine Pr.thr C R 1 1 rfl (by omega) (by omega) ?_ fun h' R' => ⟨nI 0, ?_⟩
    · unfold MX11_fits
      simp only [ZL]
      rcases ni_c (by omega) hu with z | ⟨z1, z2, z3⟩
      · rw [if_pos z]
      · rw [if_neg z1, gg_t Y.1, X5 Y, gg_t S.1, e7, if_neg z3]
    · unfold MX12_fits MX12_fits_27
      simp only [ZL]
      rw [gg_t (RS.f R'.1).1]
      simp only [RS.f R'.1]
      rw [gg_T, gg_in (by omega) (by omega), nCl (by omega), R'.2.1, f1.1, r_isIn_n (by omega) hu, ob_some, if_pos rfl, gg_T, lt_eq, gg_T, th_get, if_neg (by decide)]
end
