/-! lock: is all right; how late -/
noncomputable def dB (P : Prop) : Bool := @decide P (Classical.propDecidable P)
theorem dB_t {P : Prop} (h : P) : dB P = true := @decide_eq_true _ (Classical.propDecidable _) h
theorem dB_f {P : Prop} (h : ¬ P) : dB P = false := @decide_eq_false _ (Classical.propDecidable _) h
theorem dB_i {P : Prop} (h : dB P = true) : P := @of_decide_eq_true _ (Classical.propDecidable _) h
theorem dB_n {P : Prop} (h : dB P = false) : ¬ P := @of_decide_eq_false _ (Classical.propDecidable _) h
theorem dB_c {P Q : Prop} (h : P ↔ Q) : dB P = dB Q := by rw [propext h]
/-- all lines of a part are right; of what is kept of a story; of all -/
noncomputable def rtQ (m : Nat → Int32) (q : Nat) : Bool := dB (∀ l, l < Nn m (130 + 645 * q + 4) → rtB m q l = true)
noncomputable def rtS (m : Nat → Int32) (a : Nat) (b : Bst) (j : Nat) : Bool := dB (∀ k, k < b.2.2 j → rtQ m (5 * fS m a j + k) = true)
noncomputable def rtA (m : Nat → Int32) (a : Nat) (b : Bst) : Bool := dB (∀ j, j < fN m a → rtS m a b j = true)
theorem fnV_t {B : Nat → Bool} {n : Nat} (h : ∀ l, l < n → B l = true) : fnV B n = -nI 1 := by
  unfold fnV
  rw [fs_none (P := fun l => B l = false) n (fun i hi => by rw [h i hi]; simp)]
  rfl
theorem fnV_f {B : Nat → Bool} {n : Nat} (hn : n < 1000) (h : ¬ ∀ l, l < n → B l = true) : ¬ fnV B n = -nI 1 := by
  obtain ⟨j0, k1, k2⟩ := pk_least (fun s => s < n ∧ B s = false) (by
    refine Classical.byContradiction fun e => h (fun s hs => ?_)
    cases y : B s with
    | true => rfl
    | false => exact absurd ⟨s, hs, y⟩ e)
  unfold fnV
  rw [fs_some (P := fun l => B l = false) k1.2 (fun i hi e => k2 i hi ⟨by have := k1.1; omega, e⟩) n k1.1]
  show ¬ nI j0 = -nI 1
  rw [nM6 (by have := k1.1; omega)]
  exact id
section
variable {tg : Nat → List Nat} {h h1 : Hp} {m : Nat → Int32} {a p q s n e y : Nat} {c : Nat → Nat} {b : Bst}
/-- the fitter's cells under the room's scratch -/
theorem cf_sc (O : Own tg h) (Y : XS h) (X : FX h c) (K : CF h c m p a) (S : Sc tg 19 5 h h1) : FX h1 c ∧ CF h1 c m p a := by
  obtain ⟨t1, t2, t3, t4, t5, t13, t19, t48, t59, t68⟩ := tgs O Y
  have nn : ∀ l, [7] <:+ l → ¬ scT 5 l := fun l hl z => by
    have := suf1 z.sf hl
    omega
  have F := S.1
  have s59 := F.same (b := 59) (by rw [t59]; exact nn _ (List.suffix_refl _))
  have sk : ∀ k, sm h h1 (c k) := fun k => by
    have e : c k = gP h 59 k := (X.p k).symm
    rw [e]
    by_cases z : gP h 59 k = 0
    · rw [z]; exact F.z
    · exact F.same (by rw [tgc O z (by omega), t59]; exact nn _ (List.suffix_append [k] [7]))
  refine ⟨X.fr F, ?_⟩
  unfold CF FB
  rw [s59.2.2.1, (sk 3).2.2.1, (sk 4).2.2.1, (sk 2).2.2.1]
  exact K
theorem c_allR (O : Own tg h) (Y : XS h) (S : RmS h 19) (V : RmV h 19 m) (I : MI m) (X : FX h c) (K : CF h c m p a) (hp : p < 6) (hN : fN m a ≤ 4) (A : alS m a) (b0 : (fitB m p a).1 ≠ 0) : ∃ h1, MX3_allRight h 59 19 = some (bI (rtA m a (fitB m p a)), h1) ∧ Sc tg 19 5 h h1 := by
  obtain ⟨t1, t2, t3, t4, t5, t13, t19, t48, t59, t68⟩ := tgs O Y
  have K19 : Rt tg h 19 5 := ⟨O, t3, t19, by omega, by omega⟩
  have f1 := I.1.f.2.1.2
  obtain ⟨q1, -⟩ := fit_q m p a b0
  have inner : ∀ j g, j < fN m a → Sc tg 19 5 h g → ∃ g1, Sc tg 19 5 h g1 ∧ MX3_allRight_12 g 59 19 (nI j) (nI 0) = some (if rtS m a (fitB m p a) j = true then .inl (nI (j + 1), g1) else .inr (nI 0, g1)) := fun j g0 hj sc0 => by
    obtain ⟨q3, q4, q5⟩ := q1 j hj
    obtain ⟨hs, hb⟩ := fS_in hj
    have s5 := ((I.1.2.2.2.2.2.2.2.2.2 _ hs).2.2.1.eq (by omega)).2
    have q5' : (fitB m p a).2.2 j ≤ Nn m (110 + fS m a j) := q5
    have lp : ∃ z, it (fun x : Int32 × Hp => BX3_allRight_12 x.2 59 19 (nI j) x.1) (nI 0, g0) = some z ∧ ∃ g1, Sc tg 19 5 h g1 ∧ z = (if rtS m a (fitB m p a) j = true then .inl (nI (j + 1), g1) else .inr (nI 0, g1)) := by
      refine it_ff (fun k x => x.1 = nI k ∧ Sc tg 19 5 h x.2) (fun k => rtQ m (5 * fS m a j + k)) ((fitB m p a).2.2 j) (fun k x hk pp hb' => ?_) (fun k x hk pp hb' ha => ?_) (fun x pp ha => ?_) ⟨rfl, sc0⟩
      · obtain ⟨w, g⟩ := x
        obtain ⟨p1, sc⟩ := pp
        replace p1 : w = nI k := p1
        replace sc : Sc tg 19 5 h g := sc
        subst p1
        obtain ⟨Kg, Sg, Vg, eg, ek, ei⟩ := rq_sc K19 S V sc
        obtain ⟨Xg, Cg⟩ := cf_sc O Y X K sc
        obtain ⟨v1, v2⟩ := Cg.1.2.2 b0 j hj
        obtain ⟨vq, vo⟩ := ln_p I hs (n := k) (by omega)
        obtain ⟨D, c0, c1, c2, c3, c4⟩ := c_findPart_t Sg Vg I.1 vq
        obtain ⟨g1, y1, y2⟩ := c_firstNot Kg Sg Vg I vq (A _ hs hb k (by omega))
        rw [← c0] at y1
        refine ⟨(nI (k + 1), g1), ?_, rfl, sc.trans y2⟩
        show BX3_allRight_12 g 59 19 (nI j) (nI k) = _
        unfold BX3_allRight_12
        simp only [ZL]
        rw [gg_t Xg.1, Xg.p, Xg.p, gg_t (Xg.k 4 (by omega) (by omega)), Xg.l 4 (by omega) (by omega) (by omega), gg_in (by omega) (by omega), nCl (by omega), v2, if_neg (nI_ge hk (by omega)), gg_t (Xg.k 2 (by omega) (by omega)), Xg.l 2 (by omega) (by omega) (by omega), gg_in (by omega) (by omega), gg_t Sg.1, Cg.2.2 j hj, nMul, nAdd, c1, ob_some, if_neg c2, y1, b2_some, if_pos (fnV_t (dB_i hb')), nAdd]
      · obtain ⟨w, g⟩ := x
        obtain ⟨p1, sc⟩ := pp
        replace p1 : w = nI k := p1
        replace sc : Sc tg 19 5 h g := sc
        subst p1
        obtain ⟨Kg, Sg, Vg, eg, ek, ei⟩ := rq_sc K19 S V sc
        obtain ⟨Xg, Cg⟩ := cf_sc O Y X K sc
        obtain ⟨v1, v2⟩ := Cg.1.2.2 b0 j hj
        obtain ⟨vq, vo⟩ := ln_p I hs (n := k) (by omega)
        have l40 := (vo.eq (by omega)).2
        obtain ⟨D, c0, c1, c2, c3, c4⟩ := c_findPart_t Sg Vg I.1 vq
        obtain ⟨g1, y1, y2⟩ := c_firstNot Kg Sg Vg I vq (A _ hs hb k (by omega))
        rw [← c0] at y1
        refine ⟨.inr (nI 0, g1), ?_, g1, sc.trans y2, ?_⟩
        · show BX3_allRight_12 g 59 19 (nI j) (nI k) = _
          unfold BX3_allRight_12
          simp only [ZL]
          rw [gg_t Xg.1, Xg.p, Xg.p, gg_t (Xg.k 4 (by omega) (by omega)), Xg.l 4 (by omega) (by omega) (by omega), gg_in (by omega) (by omega), nCl (by omega), v2, if_neg (nI_ge hk (by omega)), gg_t (Xg.k 2 (by omega) (by omega)), Xg.l 2 (by omega) (by omega) (by omega), gg_in (by omega) (by omega), gg_t Sg.1, Cg.2.2 j hj, nMul, nAdd, c1, ob_some, if_neg c2, y1, b2_some, if_neg (fnV_f (by omega) (dB_n hb'))]
        · have : rtS m a (fitB m p a) j = false := dB_f (fun H => by have := H k hk; rw [hb'] at this; exact absurd this (by decide))
          rw [this, if_neg (by decide)]
      · obtain ⟨w, g⟩ := x
        obtain ⟨p1, sc⟩ := pp
        replace p1 : w = nI ((fitB m p a).2.2 j) := p1
        replace sc : Sc tg 19 5 h g := sc
        subst p1
        obtain ⟨Xg, Cg⟩ := cf_sc O Y X K sc
        obtain ⟨v1, v2⟩ := Cg.1.2.2 b0 j hj
        refine ⟨.inl (nI (j + 1), g), ?_, g, sc, by rw [show rtS m a (fitB m p a) j = true from dB_t ha, if_pos rfl]⟩
        show BX3_allRight_12 g 59 19 (nI j) (nI ((fitB m p a).2.2 j)) = _
        unfold BX3_allRight_12
        simp only [ZL]
        rw [gg_t Xg.1, Xg.p, gg_t (Xg.k 4 (by omega) (by omega)), Xg.l 4 (by omega) (by omega) (by omega), gg_in (by omega) (by omega), nCl (by omega), v2, if_pos (nI_le (Nat.le_refl _) (by omega)), nAdd]
    obtain ⟨z, y1, g1, y2, y3⟩ := lp
    refine ⟨g1, y2, ?_⟩
    unfold MX3_allRight_12
    rw [y1, y3]
  have lp : ∃ z, it (fun x : Int32 × Hp => BX3_allRight_2 x.2 59 19 x.1) (nI 0, h) = some z ∧ z.1 = bI (rtA m a (fitB m p a)) ∧ Sc tg 19 5 h z.2 := by
    refine it_ff (fun j x => x.1 = nI j ∧ Sc tg 19 5 h x.2) (rtS m a (fitB m p a)) (fN m a) (fun j x hj pp hb' => ?_) (fun j x hj pp hb' ha => ?_) (fun x pp ha => ?_) ⟨rfl, Sc.rfl S⟩
    · obtain ⟨w, g⟩ := x
      obtain ⟨p1, sc⟩ := pp
      replace p1 : w = nI j := p1
      replace sc : Sc tg 19 5 h g := sc
      subst p1
      obtain ⟨Xg, Cg⟩ := cf_sc O Y X K sc
      obtain ⟨g1, y1, y2⟩ := inner j g hj sc
      refine ⟨(nI (j + 1), g1), ?_, rfl, y1⟩
      show BX3_allRight_2 g 59 19 (nI j) = _
      unfold BX3_allRight_2
      simp only [ZL]
      rw [gg_t Xg.1, Cg.2.1, if_neg (nI_ge hj (by omega)), y2, hb', if_pos rfl]
    · obtain ⟨w, g⟩ := x
      obtain ⟨p1, sc⟩ := pp
      replace p1 : w = nI j := p1
      replace sc : Sc tg 19 5 h g := sc
      subst p1
      obtain ⟨Xg, Cg⟩ := cf_sc O Y X K sc
      obtain ⟨g1, y1, y2⟩ := inner j g hj sc
      refine ⟨(nI 0, g1), ?_, ?_, y1⟩
      · show BX3_allRight_2 g 59 19 (nI j) = _
        unfold BX3_allRight_2
        simp only [ZL]
        rw [gg_t Xg.1, Cg.2.1, if_neg (nI_ge hj (by omega)), y2, hb', if_neg (by decide)]
      · have : rtA m a (fitB m p a) = false := dB_f (fun H => by have := H j hj; rw [hb'] at this; exact absurd this (by decide))
        rw [this]
        rfl
    · obtain ⟨w, g⟩ := x
      obtain ⟨p1, sc⟩ := pp
      replace p1 : w = nI (fN m a) := p1
      replace sc : Sc tg 19 5 h g := sc
      subst p1
      obtain ⟨Xg, Cg⟩ := cf_sc O Y X K sc
      refine ⟨(nI 1, g), ?_, ?_, sc⟩
      · show BX3_allRight_2 g 59 19 (nI (fN m a)) = _
        unfold BX3_allRight_2
        simp only [ZL]
        rw [gg_t Xg.1, Cg.2.1, if_pos (nI_le (Nat.le_refl _) (by omega))]
      · show nI 1 = bI (rtA m a (fitB m p a))
        rw [show rtA m a (fitB m p a) = true from dB_t ha]
        rfl
  obtain ⟨⟨v, g⟩, y1, y2, y3⟩ := lp
  replace y2 : v = bI (rtA m a (fitB m p a)) := y2
  refine ⟨g, ?_, y3⟩
  unfold MX3_allRight MX3_allRight_2
  simp only [ZL]
  rw [y1, y2]
/-! how late -/
/-- the last minute that a style says of a page, of its first n rules -/
def clI (m : Nat → Int32) (Y p : Nat) : Nat → Int32
  | 0 => -nI 1
  | r + 1 => if m (Y + 2 + 5 * r) = nI 6 ∧ m (Y + 2 + 5 * r + 1) = nI p then m (Y + 2 + 5 * r + 2) else clI m Y p r
theorem clI_b {Y : Nat} (J : MIy m Y) : ∀ n, n ≤ Nn m (Y + 1) → clI m Y p n = -nI 1 ∨ ∃ x, x ≤ 600 ∧ clI m Y p n = nI x
  | 0, _ => Or.inl rfl
  | r + 1, h => by
    unfold clI
    by_cases z : m (Y + 2 + 5 * r) = nI 6 ∧ m (Y + 2 + 5 * r + 1) = nI p
    · rw [if_pos z]; exact Or.inr (J.2.2 r (by omega)).2.2.1
    · rw [if_neg z]; exact clI_b J r (by omega)
/-- the style in force -/
def stN (m : Nat → Int32) : Nat := stI m (m 0) (Nn m 2)
def clV (m : Nat → Int32) (p : Nat) : Int32 := if stN m = 0 then -nI 1 else clI m (320962 + 562 * (stN m - 1)) p (Nn m (320962 + 562 * (stN m - 1) + 1))
theorem clV_b (I : MI m) : clV m p = -nI 1 ∨ ∃ x, x ≤ 600 ∧ clV m p = nI x := by
  unfold clV
  by_cases z : stN m = 0
  · rw [if_pos z]; exact Or.inl rfl
  · rw [if_neg z]
    have := stI_le (m := m) (x := m 0) (Nn m 2)
    have e : stN m = stI m (m 0) (Nn m 2) := rfl
    exact clI_b (I.2.2.2.2.2.1 _ (by omega)) _ (Nat.le_refl _)
def ltN (m : Nat → Int32) (p : Nat) : Nat := if clV m p = -nI 1 then 0 else Nn m 0 - (clV m p).toNatClampNeg
theorem c_lastCl {Y : Nat} (S : StyS h y) (V : StyV h y m Y) (J : MIy m Y) (hp : p < 6) : MX9_lastClose h y (nI p) = some (clI m Y p (Nn m (Y + 1))) := by
  obtain ⟨v0, v1, cd, ce, v2, v3⟩ := V
  obtain ⟨j1, j2⟩ := J.2.1.eq (by omega)
  have st : ∀ r, r < Nn m (Y + 1) → BX9_lastClose_7 h y (nI p) (nI r) = if m (Y + 2 + 5 * r) = nI 6 ∧ m (Y + 2 + 5 * r + 1) = nI p then some (.inr (m (Y + 2 + 5 * r + 2))) else some (.inl (nI r + -nI 1)) := fun r hr => by
    obtain ⟨w1, w2, w3, -⟩ := v3 r hr
    unfold BX9_lastClose_7 MX9_lastClose_32
    simp only [ZL]
    rw [if_neg (nI_nlt (Nat.zero_le _) (by omega)), gg_t S.1, gg_t S.2.1.2.1, S.2.1.2.2, gg_in (by omega) (by omega), nCl (by omega), w1, gg_t S.2.2.1.2.1, S.2.2.1.2.2, gg_in (by omega) (by omega), w2, gg_t S.2.2.2.1.2.1, S.2.2.2.1.2.2, gg_in (by omega) (by omega), w3, gg_t S.1, up1_some]
    by_cases z1 : m (Y + 2 + 5 * r) = nI 6
    · rw [if_pos z1]
      by_cases z2 : m (Y + 2 + 5 * r + 1) = nI p
      · rw [if_pos z2, if_pos ⟨z1, z2⟩]
      · rw [if_neg z2, if_neg (fun e => z2 e.2)]
    · rw [if_neg z1, if_neg (fun e => z1 e.1)]
  have lp : ∀ n, n ≤ Nn m (Y + 1) → it (fun q : Int32 => BX9_lastClose_7 h y (nI p) q) (nI n - nI 1) = some (clI m Y p n) := fun n => by
    induction n with
    | zero =>
      intro _
      refine it_done ?_
      show BX9_lastClose_7 h y (nI p) (nI 0 - nI 1) = _
      unfold BX9_lastClose_7
      simp only [ZL]
      rw [if_pos (by decide)]
      rfl
    | succ n ih =>
      intro hn
      rw [nSub (by omega), show n + 1 - 1 = n by omega]
      unfold clI
      by_cases z : m (Y + 2 + 5 * n) = nI 6 ∧ m (Y + 2 + 5 * n + 1) = nI p
      · rw [if_pos z]
        refine it_done ?_
        show BX9_lastClose_7 h y (nI p) (nI n) = _
        rw [st n (by omega), if_pos z]
      · rw [if_neg z]
        have e : nI n + -nI 1 = nI n - nI 1 := by rw [Int32.sub_eq_add_neg]
        rw [it_next (s' := nI n - nI 1) (by
          show BX9_lastClose_7 h y (nI p) (nI n) = _
          rw [st n (by omega), if_neg z, e])]
        exact ih (by omega)
  unfold MX9_lastClose MX9_lastClose_7
  simp only [ZL]
  rw [gg_t S.1, v1, j1]
  exact lp _ (Nat.le_refl _)
theorem c_late (O : Own tg h) (Y : XS h) (S : RmS h 19) (V : RmV h 19 m) (I : MI m) (hp : p < 6) : MX7_lateOf h 19 (nI p) = some (nI (ltN m p), h) := by
  have f0 := I.1.f.1
  have f2 := I.1.f.2.2.1
  have e : stN m = stI m (m 0) (Nn m 2) := rfl
  have lc : kd h (stC h 19 (stN m)) = 8 ∧ MX9_lastClose h (stC h 19 (stN m)) (nI p) = some (clV m p) := by
    unfold stC clV
    by_cases z : stN m = 0
    · rw [if_pos z, if_pos z]
      obtain ⟨-, s1, s2, s3⟩ := S.2.2.2.2.2.2.2.2.2.2.2.2.2.2.1
      refine ⟨s1.1, ?_⟩
      unfold MX9_lastClose MX9_lastClose_7
      simp only [ZL]
      rw [gg_t s1.1, s2]
      refine it_done ?_
      show BX9_lastClose_7 h (gP h 19 4) (nI p) (nI 0 - nI 1) = _
      unfold BX9_lastClose_7
      simp only [ZL]
      rw [if_pos (by decide)]
    · rw [if_neg z, if_neg z]
      have := stI_le (m := m) (x := m 0) (Nn m 2)
      have hy : stN m - 1 < Nn m 2 := by omega
      obtain ⟨w1, w2⟩ := V.2.2.2.2.2.2.2.2.2.2.1 _ hy
      have SS := S.2.2.2.2.2.2.2.2.2.2.2.2.2.2.2.2.2.1 _ w1
      exact ⟨SS.1, c_lastCl SS w2 (I.2.2.2.2.2.1 _ hy) hp⟩
  unfold MX7_lateOf
  simp only [ZL]
  rw [gg_t S.1, V.1, c_styleAt S V I.1 (st_ne O Y S), b2_some, ← e, gg_t lc.1, lc.2, ob_some]
  unfold ltN
  rcases clV_b (p := p) I with z | ⟨x, hx, z⟩
  · rw [if_pos z, if_pos z]
  · rw [z, if_neg (by rw [nM6 (by omega)]; exact id), if_neg (by rw [nM6 (by omega)]; exact id), gg_t S.1, V.1, f0.1, nCl (by omega)]
    refine congrArg (fun v => some (v, h)) ?_
    unfold jmax
    by_cases y : x < Nn m 0
    · rw [nSub (by omega), if_pos (nI_lt (by omega) (by omega))]
    · rw [show Nn m 0 - x = 0 by omega]
      by_cases y2 : x = Nn m 0
      · rw [y2, nSub (Nat.le_refl _), Nat.sub_self, if_neg (by decide)]
      · have := pk_sneg (a := Nn m 0) (b := x) (by omega) (by omega)
        rw [if_neg]
        intro e
        have e1 : nI 0 < nI 0 := Int32.lt_trans e this
        exact absurd e1 (by decide)
end
