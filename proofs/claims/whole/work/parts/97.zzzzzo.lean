/-! correct: old slugs are laid at the new lines, the class -/
section
variable {tg : Nat → List Nat} {h h1 g : Hp} {m ma : Nat → Int32} {p q l op nl ol d s x k j sm y : Nat} {v : Int32}
theorem c_findSl {D : Nat → Prop} (F : Fr D h g) (n : ¬ D 19) : MX7_findSlug g 19 v = MX7_findSlug h 19 v := by
  unfold MX7_findSlug
  rw [F.1, F.2.1, F.2.2.1, F.2.2.2.2.2.2 19 n]
/-- what phase B has done when k lines are moved -/
def phB (h g : Hp) (m : Nat → Int32) (q ol nl n4 k : Nat) : Prop := Fr (fun b => b = gP h 13 4 ∨ ∃ s, s < n4 ∧ b = gP h (gP h 19 10) s) h g ∧ (∀ s j, j ≠ 11 → gI g (gP h (gP h 19 10) s) j = gI h (gP h (gP h 19 10) s) j) ∧ (∀ s, s < n4 → gI g (gP h (gP h 19 10) s) 11 = if m (64630 + 852 * s + 4) = nI 0 ∧ Nn m (64630 + 852 * s + 6) = q ∧ ol ≤ Nn m (64630 + 852 * s + 5) + k then nI (Nn m (64630 + 852 * s + 5) + nl - ol) else gI h (gP h (gP h 19 10) s) 11) ∧ ∀ j, gI g (gP h 13 4) j = if nl ≤ j + k ∧ j < nl ∧ m (130 + 645 * q + 45 + (j + ol - nl)) ≠ nI 0 then m (130 + 645 * q + 45 + (j + ol - nl)) - nI 1 else gI h (gP h 13 4) j
theorem c_phB (K : Rt tg h 19 5) (t13 : tg 13 = [4]) (S : RmS h 19) (V : RmV h 19 ma) (IA : MI ma) (P13 : PtS h 13) (I : MI m) (vq : vP m q) (u3 : m (130 + 645 * q + 3) = nI 1) (hp : p = gP h (gP h 19 5) q) (p0 : p ≠ 0) (eol : ol = Nn m (130 + 645 * q + 4)) (ho : sm ≤ ol) (hn : sm ≤ nl) (n40 : nl ≤ 40) (hA : ∀ y, (y < 130 ∨ (130 + 645 * q ≤ y ∧ y < 130 + 645 * q + 45)) → ma y = m y) (hP : ∀ l, ol - sm ≤ l → l < ol → ma (130 + 645 * q + 45 + l) = m (130 + 645 * q + 45 + l)) (c9 : gI h 13 9 = nI nl) (c4 : ∀ j, nl - sm ≤ j → j < nl → gI h (gP h 13 4) j = -nI 1) : ∃ g, MX7_movePlaces_28 h 19 p 13 (nI sm) = some g ∧ phB h g m q ol nl (Nn m 4) sm := by
  have q1 := vq.1
  obtain ⟨-, f4⟩ := I.1.f.2.2.2.2.1
  have J := I.2.1 q vq
  obtain ⟨e4, l40⟩ := J.2.2.2.2.2.1.eq (by omega)
  rw [← eol] at e4 l40
  have va : vP ma q := vq.b (fun x hx => hA x (Or.inl hx))
  have w3 : ma (130 + 645 * q + 3) = nI 1 := by rw [hA _ (by omega)]; exact u3
  have w4 : ma (130 + 645 * q + 4) = nI ol := by rw [hA _ (by omega)]; exact e4
  have nn4 : Nn ma (130 + 645 * q + 4) = ol := by unfold Nn; rw [w4, nCl (by omega)]
  have na4 : Nn ma 4 = Nn m 4 := Nn.c (hA 4 (by omega))
  obtain ⟨p', hp', -, -, PS, PV⟩ := c_findPart_t S V IA.1 va
  rw [← hp] at hp'
  replace hp' := hp'.symm
  subst hp'
  have cp9 : gI h p 9 = nI ol := by rw [PV.2.2.2.2.2.2.2.1, if_pos w3]; exact w4
  have cl : ∀ l, ol - sm ≤ l → l < ol → gI h (gP h p 4) l = m (130 + 645 * q + 45 + l) - nI 1 := fun l h1 h2 => by
    rw [(PV.2.2.2.2.2.2.2.2 w3 l (by rw [nn4]; exact h2)).2, hP l h1 h2]
  obtain ⟨z4, a4k, a4l⟩ := PS.2.2.2.2.2.1
  obtain ⟨b0, b4k, b4l⟩ := P13.2.2.2.2.2.1
  have tp : tg p = [q, 5, 5] := by
    have := K.o (k := 5) (j := q) (by rw [← hp]; exact p0)
    rwa [← hp] at this
  have p3 : p ≠ 3 := by rw [hp]; exact K.o3
  have tp4 : tg (gP h p 4) = [4, q, 5, 5] := by rw [tgc K.1 z4 p3, tp]
  have tb4 : tg (gP h 13 4) = [4, 4] := by rw [tgc K.1 b0 (by omega), t13]
  have tsl : ∀ s, gP h (gP h 19 10) s ≠ 0 → tg (gP h (gP h 19 10) s) = [s, 10, 5] := fun s hs => K.o hs
  have sz : ∀ s, s < Nn m 4 → gP h (gP h 19 10) s ≠ 0 := fun s hs => by
    obtain ⟨c, hc, -, c0, -⟩ := c_findSlug_t S V IA.1 (k := s) (by rw [na4]; exact hs)
    rw [← hc]; exact c0
  have nD : ∀ y, tg y ≠ [4, 4] → (∀ s, tg y ≠ [s, 10, 5]) → ¬ (y = gP h 13 4 ∨ ∃ s, s < Nn m 4 ∧ y = gP h (gP h 19 10) s) := fun y h1 h2 z => by
    rcases z with z | ⟨s, hs, z⟩
    · exact h1 (by rw [z]; exact tb4)
    · exact h2 s (by rw [z]; exact tsl s (sz s hs))
  have n19 := nD 19 (by rw [K.2.2.1]; simp) (fun s => by rw [K.2.2.1]; simp)
  have n13 := nD 13 (by rw [t13]; simp) (fun s => by rw [t13]; simp)
  have np := nD p (by rw [tp]; simp) (fun s => by rw [tp]; simp)
  have np4 := nD (gP h p 4) (by rw [tp4]; simp) (fun s => by rw [tp4]; simp)
  have nsb : ∀ s, gP h (gP h 19 10) s ≠ 0 → gP h (gP h 19 10) s ≠ gP h 13 4 := fun s hs e => by
    have := tsl s hs
    rw [e, tb4] at this
    simp at this
  have st : ∀ k z, k < sm → phB h z m q ol nl (Nn m 4) k → ∃ z', BX7_movePlaces_31 z 19 p 13 (nI sm) (nI (k + 1)) = some (.inl (nI (k + 1 + 1), z')) ∧ phB h z' m q ol nl (Nn m 4) (k + 1) := fun k z hk H => by
    obtain ⟨F, y1, y2, y3⟩ := id H
    have fp : gI z p = gI h p := F.2.2.2.2.2.2 _ np
    have fp4 : gI z (gP h p 4) = gI h (gP h p 4) := F.2.2.2.2.2.2 _ np4
    have f13 : gI z 13 = gI h 13 := F.2.2.2.2.2.2 _ n13
    have cv := cl (ol - (k + 1)) (by omega) (by omega)
    have pre : BX7_movePlaces_31 z 19 p 13 (nI sm) (nI (k + 1)) = Option.bind (MX7_findSlug h 19 (m (130 + 645 * q + 45 + (ol - (k + 1))) - nI 1)) fun (t10 : Nat) => if t10 = 0 then some (.inl (nI (k + 1 + 1), z)) else gg (kd h t10 = 7) <| lt (sI z t10 11 (nI (nl - (k + 1)))) fun (h13 : Hp) => gg (inB ((gI h13 p 9) - nI (k + 1)) 40 = true) <| gg (kd h (gP h 13 4) = 20) <| gg (inB (nI (nl - (k + 1))) (ln h (gP h 13 4)) = true) <| lt (sI h13 (gP h 13 4) (nI (nl - (k + 1))).toNatClampNeg (gI h13 (gP h p 4) ((gI h13 p 9) - nI (k + 1)).toNatClampNeg)) fun (h21 : Hp) => some (.inl (nI (k + 1 + 1), h21)) := by
      unfold BX7_movePlaces_31
      simp only [ZL]
      rw [if_neg (nI_nlt (by omega) (by omega)), F.1, F.2.1, F.2.2.1, gg_t P13.1, gg_t PS.1, gg_t a4k, fp, cp9, nSub (by omega), a4l, gg_in (by omega) (by omega), gg_t S.1, nCl (by omega), fp4, cv, c_findSl F n19, nAdd, f13, c9, nSub (by omega)]
    rcases lk_p I vq u3 (l := ol - (k + 1)) (by omega) with e | ⟨s, k1, k2, k3, k4, k5⟩
    · refine ⟨z, ?_, F, y1, fun s hs => ?_, fun j => ?_⟩
      · rw [pre, e, show nI 0 - nI 1 = -nI 1 from by decide, c_findSlug_f S V IA.1 (fun y _ w => by rw [nM5 (by omega)] at w; exact w), ob_some, if_pos rfl]
      · rw [y2 s hs]
        by_cases w : m (64630 + 852 * s + 4) = nI 0 ∧ Nn m (64630 + 852 * s + 6) = q ∧ ol ≤ Nn m (64630 + 852 * s + 5) + k
        · rw [if_pos w, if_pos ⟨w.1, w.2.1, by omega⟩]
        · rw [if_neg w, if_neg (fun u => ?_)]
          have wd : Nn m (64630 + 852 * s + 5) = ol - (k + 1) := by
            have := (lk_s I hs u.1 u.2.1).2.1
            have u3' := u.2.2
            exact Classical.byContradiction fun e => w ⟨u.1, u.2.1, by omega⟩
          have := (lk_s I hs u.1 u.2.1).2.2.1
          rw [wd, e, nEq (by omega) (by omega)] at this
          omega
      · rw [y3 j]
        by_cases w : nl ≤ j + k ∧ j < nl ∧ m (130 + 645 * q + 45 + (j + ol - nl)) ≠ nI 0
        · rw [if_pos w, if_pos ⟨by omega, w.2⟩]
        · rw [if_neg w, if_neg (fun u => ?_)]
          obtain ⟨u1, u2, u3'⟩ := u
          have : j + ol - nl = ol - (k + 1) := by
            have := Classical.byContradiction fun e : ¬ ¬ nl ≤ j + k => w ⟨Classical.not_not.mp e, u2, u3'⟩
            omega
          rw [this] at u3'
          exact u3' e
    · have s300 : s < 300 := by omega
      obtain ⟨c, hc, ec, c0, cS, -⟩ := c_findSlug_t S V IA.1 (k := s) (by rw [na4]; exact k1)
      have n5 : Nn m (64630 + 852 * s + 5) = ol - (k + 1) := by unfold Nn; rw [k4, nCl (by omega)]
      have n6 : Nn m (64630 + 852 * s + 6) = q := by unfold Nn; rw [k5, nCl (by omega)]
      have cn : c ≠ p := fun e => np (Or.inr ⟨s, k1, by rw [← e]; exact hc⟩)
      have cn4 : c ≠ gP h p 4 := fun e => np4 (Or.inr ⟨s, k1, by rw [← e]; exact hc⟩)
      have cb : c ≠ gP h 13 4 := by rw [hc]; exact nsb s (by rw [← hc]; exact c0)
      have pb : p ≠ gP h 13 4 := fun e => np (Or.inl e)
      obtain ⟨z1, hz1⟩ : ∃ z1, z1 = sI z c 11 (nI (nl - (k + 1))) := ⟨_, rfl⟩
      obtain ⟨z2, hz2⟩ : ∃ z2, z2 = sI z1 (gP h 13 4) (nl - (k + 1)) (nI s) := ⟨_, rfl⟩
      have g1 : gI z1 p = gI h p := by rw [hz1, gI_sI, if_neg (fun e => cn e.symm)]; exact fp
      have g14 : gI z1 (gP h p 4) = gI h (gP h p 4) := by rw [hz1, gI_sI, if_neg (fun e => cn4 e.symm)]; exact fp4
      have sv : m (130 + 645 * q + 45 + (ol - (k + 1))) - nI 1 = nI s := by rw [k2, pk_sub (by omega), Nat.add_sub_cancel]
      have F2 : Fr (fun b => b = gP h 13 4 ∨ ∃ s, s < Nn m 4 ∧ b = gP h (gP h 19 10) s) h z2 := by
        rw [hz2, hz1]
        exact (F.trans (Fr.sI (Or.inr ⟨s, k1, hc⟩))).trans (Fr.sI (Or.inl rfl))
      refine ⟨z2, ?_, F2, fun s' j hj => ?_, fun s' hs' => ?_, fun j => ?_⟩
      · rw [pre, sv, ec, ob_some, if_neg c0, gg_t cS.1, lt_eq, ← hz1, g1, cp9, nSub (by omega), gg_in (by omega) (by omega), gg_t b4k, b4l, gg_in (by omega) (by omega), nCl (by omega), nCl (by omega), g14, cv, sv, lt_eq, ← hz2]
      · have : gP h (gP h 19 10) s' ≠ gP h 13 4 := by
          by_cases z0 : gP h (gP h 19 10) s' = 0
          · rw [z0]; exact fun e => b0 e.symm
          · exact nsb s' z0
        rw [hz2, gI_sI, if_neg this, hz1, gI2, if_neg (fun e => hj e.2)]
        exact y1 s' j hj
      · have z0 := sz s' hs'
        rw [hz2, gI_sI, if_neg (nsb s' z0), hz1, gI2]
        by_cases e : s' = s
        · subst e
          rw [if_pos ⟨hc.symm, rfl⟩, if_pos ⟨k3, n6, by omega⟩, n5]
          exact congrArg nI (by omega)
        · have : gP h (gP h 19 10) s' ≠ c := by rw [hc]; exact K.sl (by rw [← hc]; exact c0) s' z0 e
          rw [if_neg (fun w => this w.1), y2 s' hs']
          by_cases w : m (64630 + 852 * s' + 4) = nI 0 ∧ Nn m (64630 + 852 * s' + 6) = q ∧ ol ≤ Nn m (64630 + 852 * s' + 5) + k
          · rw [if_pos w, if_pos ⟨w.1, w.2.1, by omega⟩]
          · rw [if_neg w, if_neg (fun u => ?_)]
            have wd : Nn m (64630 + 852 * s' + 5) = ol - (k + 1) := by
              have := (lk_s I hs' u.1 u.2.1).2.1
              have u3' := u.2.2
              exact Classical.byContradiction fun e => w ⟨u.1, u.2.1, by omega⟩
            have := (lk_s I hs' u.1 u.2.1).2.2.1
            rw [wd, k2, nEq (by omega) (by omega)] at this
            omega
      · rw [hz2, gI_sI, if_pos rfl, up_at, hz1, gI_sI, if_neg (show ¬ gP h 13 4 = c from fun e => cb e.symm)]
        by_cases e : j = nl - (k + 1)
        · have ej : j + ol - nl = ol - (k + 1) := by omega
          rw [if_pos e, if_pos ⟨by omega, by omega, by rw [ej, k2, Ne, nEq (by omega) (by omega)]; omega⟩, ej, sv]
        · rw [if_neg e, y3 j]
          by_cases w : nl ≤ j + k ∧ j < nl ∧ m (130 + 645 * q + 45 + (j + ol - nl)) ≠ nI 0
          · rw [if_pos w, if_pos ⟨by omega, w.2⟩]
          · rw [if_neg w, if_neg (fun u => w ⟨by omega, u.2⟩)]
  have Kk : ∀ e k z, k + e = sm → phB h z m q ol nl (Nn m 4) k → ∃ g, it (fun s : Int32 × Hp => BX7_movePlaces_31 s.2 19 p 13 (nI sm) s.1) (nI (k + 1), z) = some g ∧ phB h g m q ol nl (Nn m 4) sm := fun e => by
    induction e with
    | zero =>
      intro k z hk H
      have hk : k = sm := hk
      subst hk
      refine ⟨z, it_done ?_, H⟩
      show BX7_movePlaces_31 z 19 p 13 (nI k) (nI (k + 1)) = _
      unfold BX7_movePlaces_31
      rw [if_pos (nI_lt (by omega) (by omega))]
    | succ e ih =>
      intro k z hk H
      obtain ⟨z', a1, a2⟩ := st k z (by omega) H
      obtain ⟨g, k1, k2⟩ := ih (k + 1) z' (by omega) a2
      exact ⟨g, by rw [it_next (s' := (nI (k + 1 + 1), z')) a1]; exact k1, k2⟩
  obtain ⟨g, k1, k2⟩ := Kk sm 0 h (Nat.zero_add _) ⟨Fr.rfl, fun s j _ => rfl, fun s hs => by
    rw [if_neg (fun w => ?_)]
    obtain ⟨w1, w2, w3⟩ := w
    have := (lk_s I hs w1 w2).2.1
    omega, fun j => by rw [if_neg (fun w => by omega)]⟩
  exact ⟨g, by unfold MX7_movePlaces_28 MX7_movePlaces_31; exact k1, k2⟩
end
