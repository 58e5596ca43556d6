/-! a line is cast: the class, text taken -/
def CaA (tg : Nat → List Nat) (h : Hp) (tg3 : Nat → List Nat) (h3 : Hp) (r x s d : Nat) (w : List Nat) (m : Nat → Int32) : Prop := Rx tg h tg3 h3 (fun y => y = x) ∧ cst h3 + rmP h3 r ≤ cst h + rmP h r ∧ RmS h3 r ∧ RmV h3 r m ∧ gP h3 r = gP h r ∧ (∀ F j, F ≠ 10 → gP h3 (gP h r F) j = gP h (gP h r F) j) ∧ d = gP h3 (gP h3 r 10) s ∧ d ≠ 0 ∧ (w.length ≤ ln h3 (gP h3 d 0) ∧ ∀ j, j < w.length → gI h3 (gP h3 d 0) j = nI (w.getD j 0) ∧ gI h3 (gP h3 d 1) j = nI (w.getD j 0)) ∧ gI h3 d 2 = nI w.length ∧ gI h3 d 3 = nI (ltL w w.length) ∧ gI h3 d 4 = nI 0 ∧ gI h3 d 13 = nI 0
section
variable {tg : Nat → List Nat} {h h1 g g' : Hp} {m M : Nat → Int32} {r x k q l s i p : Nat} {w : List Nat}
theorem rv_of10 (K : Rt tg g r x) (hr : r ≤ sz g) (S : RmS g r) (V : RmV g r m) (Z : Of tg g g' r x 10 s) (hs : Nn m 4 ≤ s) : RmV g' r m := by
  have hA := S.2.2.2.2.2.2.1.1
  rw [rv_split] at V ⊢
  obtain ⟨B, vp, vm, vl, vy⟩ := V
  exact ⟨B.of K hr Z hA (by omega), fun q hq => (vp q hq).of K hr Z hA (by omega), fun k hk => (vm k hk).of K hr Z hA (by omega), fun s' hs' => (vl s' hs').of K hr Z hA (by omega), fun y hy => (vy y hy).of K hr Z hA (by omega)⟩
theorem c_ca1 (K : Rt tg h r x) (hr : r ≤ sz h) (h9 : 109 ≤ sz h) (S : RmS h r) (V : RmV h r m) (I : MI m) (es0 : s = Nn m 4) (hs : s < 300) (vq : vP m q) (es : m (130 + 645 * q + 3) = nI 1) (hl : l < Nn m (130 + 645 * q + 4)) (hp : p = gP h (gP h r 5) q) (hw : w = wtL m q l) : ∃ d h1, MX7_ownSlug h r (gI h r 11) = some (d, h1) ∧ kd h1 r = 6 ∧ kd h1 p = 4 ∧ ∃ h2, MX5_spell h1 p (nI l) (gP h1 r 18) = some (nI w.length, h2) ∧ kd h2 d = 7 ∧ ∃ tg3 h3, MX8_takeText h2 d (gP h1 r 18) (nI w.length) = some h3 ∧ CaA tg h tg3 h3 r x s d w m := by
  obtain ⟨tg1, h1, d, k1, w1, w2, w3, w4, w5, w6⟩ := own10 K hr h9 S hs
  obtain ⟨-, -, -, -, ⟨f4, f4'⟩, -⟩ := I.1.f
  have hA := S.2.2.2.2.2.2.1.1
  have K1 := w1.rt K hr h9
  have z1 := w1.2.1
  have hr1 : r ≤ sz h1 := by omega
  have V1 := rv_of10 K hr S V w3 (by omega)
  have eP1 : gP h1 r = gP h r := w3.2.1
  have e11 : gI h r 11 = nI s := by rw [V.2.2.2.2.1, f4, es0]
  obtain ⟨p', hp', ec, p0, PS, PV⟩ := c_findPart_t w4 V1 I.1 vq
  have epp : p' = p := by
    rw [hp', hp, eP1]
    exact ((w3.cells K hr hA).2.2 5 q (by omega)).1
  subst epp
  have J := I.2.1 q vq
  have x18 := w4.2.2.2.2.2.2.2.2.2.2.2.2.1
  have t18 := K1.a x18.1
  have A := Pa.rm K1 (q := q) (by rw [← hp']; exact PS) (by rw [← hp']; exact p0)
  rw [← hp'] at A
  have sc18 : scT x (tg1 (gP h1 r 18)) := by rw [t18]; simp [scT]
  have H := ln_set I vq es hl
  obtain ⟨h2, y1, y2, y3⟩ := c_spell (X := gP h1 r 18) PS PV I.1 J ⟨x18.2.1, x18.2.2⟩ (fun w => A.1 (by rw [← w]; exact sc18)) (fun j hj w => A.2 j hj (by rw [← w]; exact sc18)) vq es hl H
  have hlen : w.length ≤ 401 := by rw [hw]; exact H.2.2.2.2.2
  replace y1 : MX5_spell h1 p' (nI l) (gP h1 r 18) = some (nI w.length, h2) := by rw [hw]; exact y1
  replace y3 : PLs h2 (gP h1 r 18) w := by rw [hw]; exact y3
  have F1 : Ft tg1 (scT x) h1 h2 := y2.mono (fun b w => by
    have w : b = gP h1 r 18 := w
    rw [w]
    exact ⟨x18.1, sc18⟩)
  have bS := w4.2.2.2.2.2.2.2.2.2.2.2.2.2.2.2.1
  have n8 : ∀ j, gP h1 (gP h1 r 14) j ≠ 0 → gI h2 (gP h1 (gP h1 r 14) j) = gI h1 (gP h1 (gP h1 r 14) j) := fun j hj => y2.2.2.2.2.2.2 _ (fun w => by
    have : tg1 (gP h1 (gP h1 r 14) j) = tg1 (gP h1 r 18) := by rw [w]
    rw [K1.o hj, t18] at this
    have := congrArg List.length this
    simp at this)
  have sc : Sc tg1 r x h1 h2 := ⟨F1, by rw [n8 8 bS.2.2.1.1]; exact bS.2.2.2.2.2.2.2.2.1, by rw [n8 9 bS.2.2.2.1.1]; exact bS.2.2.2.2.2.2.2.2.2⟩
  have K2 := sc.rt K1
  have S2 := sc.rs K1 w4
  have V2 := sc.rv K1 V1
  have R2 : Rx tg1 h1 tg1 h2 (fun y => y = x) := Rx.fr K1.1 y2 (fun b hb => by
    have hb : b = gP h1 r 18 := hb
    rw [hb]
    exact ⟨x18.1, x, rfl, by rw [t18]; exact List.suffix_append [18] [x]⟩)
  have eP2 : gP h2 = gP h1 := y2.2.2.1
  have z2 : sz h2 = sz h1 := y2.2.2.2.1
  have hd : d = gP h2 (gP h2 r 10) s := by rw [eP2, eP1]; exact w5
  have kd2 : kd h2 d = 7 := by rw [hd]; exact (S2.2.2.2.2.2.2.2.2.2.2.2.2.2.2.2.2.2.2.2 s (by rw [← hd]; exact w6)).1
  have hA2 := S2.2.2.2.2.2.2.1.1
  obtain ⟨tg3, h3, q1, t1, t2, t3, t4, t5, t6, t7, t8, t9, t10, t11, t12⟩ := c_takeText (L := w.length) (X := gP h1 r 18) K2 (by omega) (by omega) S2 hs hd w6 (by rw [y2.1]; exact x18.2.1) (by rw [y2.2.1, x18.2.2]; omega) (by rw [z2]; exact K1.1.2.2.2.2.2 _ _) (by
    rw [t18]
    intro z
    have := z.length_le
    simp at this) (by omega) (by rw [y2.2.1, x18.2.2]; omega)
  have S3 := S2.ob K2 (by omega) (by omega) t3 hA2 ⟨fun z => by omega, fun z => by omega, fun z => by omega, fun _ => by rw [t12]; exact t4⟩
  have V3 := rv_of10 K2 (by omega) S2 V2 t3 (by omega)
  have rf := rmP_fr (r := r) y2
  refine ⟨d, h1, by rw [e11]; exact k1, w4.1, PS.1, h2, y1, kd2, tg3, h3, q1, (w1.trans R2).trans t1, by omega, S3, V3, by rw [t3.2.1, eP2, eP1], fun F j hF => ?_, by rw [t3.2.1]; exact t12.symm, w6, ⟨t5, fun j hj => ?_⟩, t7, ?_, t9, t10⟩
  · have u1 := ((w3.cells K hr hA).2.2 F j (fun z => hF z.1)).1
    have u2 := ((t3.cells K2 (by omega) hA2).2.2 F j (fun z => hF z.1)).1
    rw [← u1, ← eP1, ← eP2]
    exact u2
  · rw [(t6 j hj).1, (t6 j hj).2, y3 j hj]
    exact ⟨rfl, rfl⟩
  · rw [t8]
    unfold ltL
    exact congrArg nI (ltC.c _ (fun j hj => y3 j hj))
end
