/-! correct: old lines are taken away, the class -/
/-- the places of the lines op .. d are empty -/
def clP (m : Nat → Int32) (q op d : Nat) : Nat → Int32 := fun y => if 130 + 645 * q + 45 + op ≤ y ∧ y < 130 + 645 * q + 45 + d then nI 0 else m y
/-- and their slugs are in the pot -/
def mAM (m : Nat → Int32) (q op ol d : Nat) : Nat → Int32 := laM m (clP m q op d) q op ol op 0 d
section
variable {tg : Nat → List Nat} {h h1 g : Hp} {m M2 : Nat → Int32} {p q l op nl ol d s x k j sm y : Nat} {v : Int32}
theorem clP_s (h : op ≤ d) : clP m q op (d + 1) = va_up (clP m q op d) (130 + 645 * q + 45 + d) (nI 0) := by
  funext y
  rw [up_at]
  unfold clP
  by_cases z : y = 130 + 645 * q + 45 + d
  · rw [if_pos z, if_pos (by omega)]
  · rw [if_neg z]
    by_cases w : 130 + 645 * q + 45 + op ≤ y ∧ y < 130 + 645 * q + 45 + d
    · rw [if_pos w, if_pos (by omega)]
    · rw [if_neg w, if_neg (by omega)]
theorem mA_0 (h : op ≤ ol) : mAM m q op ol op = m := by
  unfold mAM
  rw [la_0 (Nat.zero_le _) h]
  funext y
  unfold clP
  rw [if_neg (by omega)]
theorem la_up {y0 : Nat} (hy : 130 + 645 * q + 45 ≤ y0) (hy2 : y0 < 64630) : laM m (va_up M2 y0 v) q op ol op 0 d = va_up (laM m M2 q op ol op 0 d) y0 v := by
  funext y
  rw [up_at]
  have np : ¬ (130 + 645 * q + 45 + (op - 0) ≤ y ∧ y < 130 + 645 * q + 45 + op ∧ y + ol < 130 + 645 * q + 45 + op + d) := by omega
  unfold laM
  rw [if_neg np]
  by_cases z : lieX m q op d y
  · rw [if_pos z, if_neg (show ¬ y = y0 from fun e => by have := z.1; omega), if_neg np, if_pos z]
  · rw [if_neg z, up_at, if_neg np, if_neg z]
theorem mA_e (I : MI m) (vq : vP m q) (u3 : m (130 + 645 * q + 3) = nI 1) (h1 : op ≤ d) (h2 : d < ol) (eol : ol = Nn m (130 + 645 * q + 4)) (hz : m (130 + 645 * q + 45 + d) = nI 0) : mAM m q op ol (d + 1) = mAM m q op ol d := by
  have l40 := ((I.2.1 q vq).2.2.2.2.2.1.eq (by omega)).2
  unfold mAM
  rw [la_e I vq u3 h1 h2 eol (Nat.zero_le _) (Nat.zero_le _) (by omega) (Nat.le_refl _) hz (fun l h3 h4 => by omega)]
  rw [show clP m q op (d + 1) = clP m q op d from ?_]
  rw [clP_s h1]
  funext y
  rw [up_at]
  by_cases z : y = 130 + 645 * q + 45 + d
  · rw [if_pos z, z]
    unfold clP
    rw [if_neg (by omega), hz]
  · rw [if_neg z]
theorem mA_s (h1 : 4 ≤ x) (h2 : x ≤ 6) (hs : s < 300) (hq : q < 100) (ho : op ≤ 40) (hd : d ≤ 40) : mAM m q op ol d (64630 + 852 * s + x) = if s < Nn m 4 ∧ m (64630 + 852 * s + 4) = nI 0 ∧ Nn m (64630 + 852 * s + 6) = q ∧ op ≤ Nn m (64630 + 852 * s + 5) ∧ Nn m (64630 + 852 * s + 5) < d then (if Nn m (64630 + 852 * s + 5) < ol - 0 then (if x = 4 then nI 2 else -nI 1) else if x = 5 then nI (Nn m (64630 + 852 * s + 5) + op - ol) else m (64630 + 852 * s + x)) else m (64630 + 852 * s + x) := by
  unfold mAM
  rw [la_s h1 h2 hs (by omega), show clP m q op d (64630 + 852 * s + x) = m (64630 + 852 * s + x) by unfold clP; rw [if_neg (by omega)]]
theorem mA_p (hq : q < 100) (hl : l < 40) : mAM m q op ol d (130 + 645 * q + 45 + l) = if op ≤ l ∧ l < d then nI 0 else m (130 + 645 * q + 45 + l) := by
  unfold mAM
  rw [la_p hq hl (Nat.zero_le _), if_neg (by omega)]
  unfold clP
  by_cases z : op ≤ l ∧ l < d
  · rw [if_pos z, if_pos (by omega)]
  · rw [if_neg z, if_neg (by omega)]
theorem mA_o (h : y < 130 + 645 * q + 45 ∨ 130 + 645 * q + 85 ≤ y) (ho : op ≤ 40) (hd : d ≤ 40) (hx : ¬ slX y) : mAM m q op ol d y = m y := by
  unfold mAM
  rw [la_o h ho hx]
  unfold clP
  rw [if_neg (by omega)]
theorem mA_t (I : MI m) (vq : vP m q) (h1 : op ≤ d) (h2 : d < ol) (ho : ol ≤ 40) (hs : s < Nn m 4) (hp : m (130 + 645 * q + 45 + d) = nI (s + 1)) (z4 : m (64630 + 852 * s + 4) = nI 0) (z5 : m (64630 + 852 * s + 5) = nI d) (z6 : m (64630 + 852 * s + 6) = nI q) : mAM m q op ol (d + 1) = tkM (mAM m q op ol d) s (nI 2) := by
  have q1 := vq.1
  obtain ⟨-, f4⟩ := I.1.f.2.2.2.2.1
  have n5 : Nn m (64630 + 852 * s + 5) = d := by unfold Nn; rw [z5, nCl (by omega)]
  have cd : ¬ (s < Nn m 4 ∧ m (64630 + 852 * s + 4) = nI 0 ∧ Nn m (64630 + 852 * s + 6) = q ∧ op ≤ Nn m (64630 + 852 * s + 5) ∧ Nn m (64630 + 852 * s + 5) < d) := fun w => by omega
  have e5 : Nn (mAM m q op ol d) (64630 + 852 * s + 5) = d := by
    unfold Nn
    rw [mA_s (by omega) (by omega) (by omega) q1 (by omega) (by omega), if_neg cd, z5, nCl (by omega)]
  have e6 : Nn (mAM m q op ol d) (64630 + 852 * s + 6) = q := by
    unfold Nn
    rw [mA_s (by omega) (by omega) (by omega) q1 (by omega) (by omega), if_neg cd, z6, nCl (by omega)]
  have ea : plA (mAM m q op ol d) s = 130 + 645 * q + 45 + d := by
    unfold plA
    rw [e5, e6]
  unfold tkM
  rw [ea]
  show laM m (clP m q op (d + 1)) q op ol op 0 (d + 1) = _
  rw [la_t I vq h1 (show d < ol - 0 by omega) (by omega) ho hs hp z4 z5 z6 (Nat.zero_le _), clP_s h1, la_up (by omega) (by omega)]
  rfl
/-- lines op to n are taken away -/
theorem c_phA (K : Rt tg h 19 5) (S : RmS h 19) (V : RmV h 19 m) (I : MI m) (vq : vP m q) (u3 : m (130 + 645 * q + 3) = nI 1) (hp : p = gP h (gP h 19 5) q) (eol : ol = Nn m (130 + 645 * q + 4)) (ho : op ≤ ol) (hsm : sm ≤ ol - op) {X : Nat} : ∃ h1, MX7_movePlaces h 19 p X (nI op) (nI sm) = MX7_movePlaces_28 h1 19 p X (nI sm) ∧ Ft tg (pT 5) h h1 ∧ RmS h1 19 ∧ RmV h1 19 (mAM m q op ol (ol - sm)) ∧ MI (mAM m q op ol (ol - sm)) := by
  have q1 := vq.1
  obtain ⟨-, f4⟩ := I.1.f.2.2.2.2.1
  have J := I.2.1 q vq
  obtain ⟨e4, l40⟩ := J.2.2.2.2.2.1.eq (by omega)
  rw [← eol] at e4 l40
  -- one line
  have st : ∀ d z, op ≤ d → d < ol - sm → Ft tg (pT 5) h z → RmS z 19 → RmV z 19 (mAM m q op ol d) → MI (mAM m q op ol d) → ∃ z', BX7_movePlaces_3 z 19 p X (nI sm) (nI d) = some (.inl (nI (d + 1), z')) ∧ Ft tg (pT 5) h z' ∧ RmS z' 19 ∧ RmV z' 19 (mAM m q op ol (d + 1)) ∧ MI (mAM m q op ol (d + 1)) := fun d z h1 h2 F Sz Vz Iz => by
    have Kz := K.fr F
    have eP : gP z = gP h := F.gp
    have vz : vP (mAM m q op ol d) q := vq.b (fun x hx => mA_o (by omega) (by omega) (by omega) (by unfold slX; omega))
    have w3 : mAM m q op ol d (130 + 645 * q + 3) = nI 1 := by rw [mA_o (by omega) (by omega) (by omega) (by unfold slX; omega)]; exact u3
    have w4 : mAM m q op ol d (130 + 645 * q + 4) = nI ol := by rw [mA_o (by omega) (by omega) (by omega) (by unfold slX; omega)]; exact e4
    have n4 : Nn (mAM m q op ol d) 4 = Nn m 4 := Nn.c (mA_o (by omega) (by omega) (by omega) (by unfold slX; omega))
    have nn4 : Nn (mAM m q op ol d) (130 + 645 * q + 4) = ol := by unfold Nn; rw [w4, nCl (by omega)]
    obtain ⟨p', hp', -, -, PS, PV⟩ := c_findPart_t Sz Vz Iz.1 vz
    rw [eP, ← hp] at hp'
    replace hp' := hp'.symm
    subst hp'
    have c9 : gI z p 9 = nI ol := by rw [PV.2.2.2.2.2.2.2.1, if_pos w3]; exact w4
    have cl := (PV.2.2.2.2.2.2.2.2 w3 d (by rw [nn4]; omega)).2
    rw [mA_p q1 (by omega), if_neg (by omega)] at cl
    obtain ⟨-, a4k, a4l⟩ := PS.2.2.2.2.2.1
    have pre : ∀ v, gI z (gP z p 4) d = v → BX7_movePlaces_3 z 19 p X (nI sm) (nI d) = Option.bind (Option.bind (MX7_findSlug z 19 v) fun (t6 : Nat) => if t6 = 0 then some z else Option.bind (MX7_takeAway z 19 t6 (nI 2)) fun (h9 : Hp) => some h9) fun (h28 : Hp) => some (.inl (nI (d + 1), h28)) := fun v hv => by
      unfold BX7_movePlaces_3 MX7_takeAwayAt
      simp only [ZL]
      rw [gg_t PS.1, c9, nSub (by omega), if_neg (nI_ge (by omega) (by omega)), gg_t Sz.1, gg_t PS.1, gg_t a4k, a4l, gg_in (by omega) (by omega), gg_t Sz.1, nCl (by omega), hv, nAdd]
    rcases lk_p I vq u3 (l := d) (by omega) with k | ⟨s, k1, k2, k3, k4, k5⟩
    · rw [k] at cl
      have em := mA_e I vq u3 h1 (by omega) eol k
      refine ⟨z, ?_, F, Sz, by rw [em]; exact Vz, by rw [em]; exact Iz⟩
      rw [pre _ cl, show nI 0 - nI 1 = -nI 1 from by decide, c_findSlug_f Sz Vz Iz.1 (fun y _ w => by rw [nM5 (by omega)] at w; exact w), ob_some, if_pos rfl, ob_some]
    · rw [k2, pk_sub (by omega), Nat.add_sub_cancel] at cl
      have em := mA_t I vq h1 (by omega) l40 k1 k2 k3 k4 k5
      have n5 : Nn m (64630 + 852 * s + 5) = d := by unfold Nn; rw [k4, nCl (by omega)]
      have z4 : mAM m q op ol d (64630 + 852 * s + 4) = nI 0 := by
        rw [mA_s (by omega) (by omega) (by omega) q1 (by omega) (by omega), if_neg (fun w => by omega)]
        exact k3
      obtain ⟨c, hc, ec, c0, -, -⟩ := c_findSlug_t Sz Vz Iz.1 (k := s) (by rw [n4]; exact k1)
      obtain ⟨z', y1, y2, y3, y4, y5⟩ := c_tk (v := nI 2) Kz Sz Vz Iz (s := s) (by rw [n4]; exact k1) z4 (Or.inr rfl)
      rw [← hc] at y1
      rw [← em] at y4 y5
      refine ⟨z', ?_, F.trans y2, y3, y4, y5⟩
      rw [pre _ cl, ec, ob_some, if_neg c0, y1, ob_some, ob_some]
  have Kk : ∀ e d z, d + e = ol - sm → op ≤ d → Ft tg (pT 5) h z → RmS z 19 → RmV z 19 (mAM m q op ol d) → MI (mAM m q op ol d) → ∃ h1, it (fun s : Int32 × Hp => BX7_movePlaces_3 s.2 19 p X (nI sm) s.1) (nI d, z) = MX7_movePlaces_28 h1 19 p X (nI sm) ∧ Ft tg (pT 5) h h1 ∧ RmS h1 19 ∧ RmV h1 19 (mAM m q op ol (ol - sm)) ∧ MI (mAM m q op ol (ol - sm)) := fun e => by
    induction e with
    | zero =>
      intro d z hd h1 F Sz Vz Iz
      have hd : d = ol - sm := hd
      subst hd
      refine ⟨z, it_u1 ?_, F, Sz, Vz, Iz⟩
      have eP : gP z = gP h := F.gp
      have vz : vP (mAM m q op ol (ol - sm)) q := vq.b (fun x hx => mA_o (by omega) (by omega) (by omega) (by unfold slX; omega))
      obtain ⟨p', hp', -, -, PS, PV⟩ := c_findPart_t Sz Vz Iz.1 vz
      rw [eP, ← hp] at hp'
      replace hp' := hp'.symm
      subst hp'
      have w3 : mAM m q op ol (ol - sm) (130 + 645 * q + 3) = nI 1 := by rw [mA_o (by omega) (by omega) (by omega) (by unfold slX; omega)]; exact u3
      have w4 : mAM m q op ol (ol - sm) (130 + 645 * q + 4) = nI ol := by rw [mA_o (by omega) (by omega) (by omega) (by unfold slX; omega)]; exact e4
      have c9 : gI z p 9 = nI ol := by rw [PV.2.2.2.2.2.2.2.1, if_pos w3]; exact w4
      show BX7_movePlaces_3 z 19 p X (nI sm) (nI (ol - sm)) = _
      unfold BX7_movePlaces_3
      rw [gg_t PS.1, c9, nSub (by omega), if_pos (nI_le (Nat.le_refl _) (by omega))]
    | succ e ih =>
      intro d z hd h1 F Sz Vz Iz
      obtain ⟨z', a1, a2, a3, a4, a5⟩ := st d z h1 (by omega) F Sz Vz Iz
      obtain ⟨h1', k1, k2⟩ := ih (d + 1) z' (by omega) (by omega) a2 a3 a4 a5
      exact ⟨h1', by rw [it_next (s' := (nI (d + 1), z')) a1]; exact k1, k2⟩
  obtain ⟨h1', k1, k2⟩ := Kk (ol - sm - op) op h (by omega) (Nat.le_refl _) Ft.rfl S (by rw [mA_0 ho]; exact V) (by rw [mA_0 ho]; exact I)
  exact ⟨h1', by unfold MX7_movePlaces MX7_movePlaces_3; exact k1, k2⟩
end
