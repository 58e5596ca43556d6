/-! all of a desk is taken -/
def DKT (tg : Nat → List Nat) (g : Hp) (d y s w : Nat) (m : Nat → Int32) : Prop := Rt tg g d y ∧ d ≤ sz g ∧ 109 ≤ sz g ∧ DkS g d ∧ Rt tg g s w ∧ s ≤ sz g ∧ DkS g s ∧ DkV g s m ∧ w ≠ y
section
variable {tg tg' tg1 : Nat → List Nat} {h h' g g' : Hp} {m : Nat → Int32} {d y s w : Nat}
theorem c_tkDesk (T : DKT tg h d y s w m) (B : MIb m) (I : MIh m) : ∃ z, MX2_takeAll h d s = some z ∧ ∃ tg', Dy tg h tg' z d y ∧ DkV z d m := by
  obtain ⟨t1, t2, t3, t4, t5, t6, t7, t8, t9⟩ := id T
  have A : AP h d s := AP.of t1.1 t1.2.2.2.2 t1.n3 t5.n3 t1.2.2.1 t5.2.2.1 (by intro z; exact t9 (by simpa using z.symm)) (fun k z => by simpa using congrArg List.length z) (fun k z => by simpa using congrArg List.length z)
  have C : Cy h h d s [] [] := Cy.rfl
  obtain ⟨p0, a0, a1, a2, a3, a4, a5, a7, a8, a9, a10, a11⟩ := id t4
  obtain ⟨q0, c0, c1, c2, c3, c4, c5, c7, c8, c9, c10, c11⟩ := id t7
  unfold MX2_takeAll
  rw [gg_t q0, gg_t p0]
  refine Cy.arrK A C a0 c0 (by omega) (by simp) fun g C => ?_
  refine Cy.arrK A C a1 c1 (by omega) (by simp) fun g C => ?_
  refine Cy.arrK A C a2 c2 (by omega) (by simp) fun g C => ?_
  refine Cy.arrK A C a3 c3 (by omega) (by simp) fun g C => ?_
  refine Cy.arrK A C a7 c7 (by omega) (by simp) fun g C => ?_
  refine Cy.arrK A C a8 c8 (by omega) (by simp) fun g C => ?_
  refine Cy.arrK A C a9 c9 (by omega) (by simp) fun g C => ?_
  refine Cy.arrK A C a10 c10 (by omega) (by simp) fun g C => ?_
  refine Cy.numK A C fun g C => ?_
  refine Cy.numK A C fun g C => ?_
  have hD : ∀ b, (b = d ∨ ∃ k, gP h d k ≠ 0 ∧ b = gP h d k) → b ≠ 0 ∧ ∃ z, z = y ∧ [z] <:+ tg b := fun b hb => by
    rcases hb with hb | ⟨k, hk, hb⟩
    · rw [hb]; exact ⟨t1.2.2.2.2, y, Eq.refl _, by rw [t1.2.2.1]; exact List.suffix_refl _⟩
    · rw [hb]; exact ⟨hk, y, Eq.refl _, by rw [t1.a hk]; exact List.suffix_append [k] [y]⟩
  have R1 : Rx tg h tg g (fun z => z = y) := Rx.fr t1.1 C.1 hD
  have eP : gP g = gP h := C.1.2.2.1
  have S1 := dks_fr t4 C.1
  have K1 := t1.fr C.1
  have hd1 : d ≤ sz g := by rw [C.1.2.2.2.1]; exact t2
  have h91 : 109 ≤ sz g := by rw [C.1.2.2.2.1]; exact t3
  have ss := rx_sm3 R1 t5 t6 t9
  have Ks := t5.fr C.1
  have Ss := t7.congr ss
  have Vs := t8.congr ss
  have hs1 : s ≤ sz g := by rw [C.1.2.2.2.1]; exact t6
  have z4 : gP g d 4 ≠ 0 := by rw [eP]; exact a4.1
  have z5 : gP g d 5 ≠ 0 := by rw [eP]; exact a5.1
  have t5d := K1.a z5
  have Dr : ∃ z, it (fun q0 : Int32 × Hp => BX2_takeAll_162 q0.2 d s q0.1) (nI 0, g) = some z ∧ ∃ tg1, Dy tg g tg1 z d y ∧ Du tg g z d y (fun _ => True) ∧ ∀ i, i < 54 → RC z d i (rwK (gP g (gP g s 4) i) (gI g (gP g s 5) i)) (gI g (gP g (gP g s 4) i)) := by
    refine it_cnt (fun j s0 => s0.1 = nI j ∧ ∃ tg1, Dy tg g tg1 s0.2 d y ∧ Du tg g s0.2 d y (fun _ => True) ∧ ∀ i, i < j → RC s0.2 d i (rwK (gP g (gP g s 4) i) (gI g (gP g s 5) i)) (gI g (gP g (gP g s 4) i))) 54 (fun j s0 hj pp => ?_) (fun s0 pp => ?_) ⟨Eq.refl _, tg, Dy.rfl K1.1 S1, Du.rfl, fun i hi => absurd hi (by omega)⟩
    · obtain ⟨u, f⟩ := s0
      obtain ⟨p1, tg1, p2, p3, p4⟩ := pp
      replace p1 : u = nI j := p1
      replace p2 : Dy tg g tg1 f d y := p2
      replace p3 : Du tg g f d y (fun _ => True) := p3
      replace p4 : ∀ i, i < j → RC f d i (rwK (gP g (gP g s 4) i) (gI g (gP g s 5) i)) (gI g (gP g (gP g s 4) i)) := p4
      subst p1
      obtain ⟨r1, r2, r3, r4⟩ := id p2
      have Kf := r1.rt K1 hd1 h91
      have Kfs := r1.rt Ks hs1 h91
      have hdf : d ≤ sz f := by have := r1.2.1; omega
      have h9f : 109 ≤ sz f := by have := r1.2.1; omega
      have sf := rx_sm3 r1 Ks hs1 t9
      have Sfs := Ss.congr sf
      obtain ⟨k1, ⟨s4, s4a, s4b⟩, ⟨s5, s5a, s5b⟩, s6⟩ := Sfs.f
      obtain ⟨c, hc⟩ : ∃ c, c = gP f (gP f s 4) j := ⟨_, Eq.refl _⟩
      have cg : c = gP g (gP g s 4) j := by rw [hc, sf.1.2.2.2, (sf.2.1 4).2.2.2]
      have vg : gI f (gP f s 5) j = gI g (gP g s 5) j := by rw [sf.1.2.2.2, (sf.2.1 5).2.2.1]
      have wg : gI f c = gI g c := by rw [cg, (sf.2.2.1 4 j).2.2.1]
      obtain ⟨gk1, ⟨gs4, gs4a, gs4b⟩, ⟨gs5, gs5a, gs5b⟩, gs6⟩ := r3.f
      obtain ⟨tg2, f2, y1, y2, y3, y4⟩ := c_takeRow (row := j) (c := c) (v3 := gI f (gP f s 5) j) Kf hdf h9f r3 hj (by rw [hc]; exact Kf.1.2.2.2.2.2 _ _) (fun cz => by
        rw [hc] at cz ⊢
        have tc := Kfs.o cz
        refine ⟨(s6 j cz).1, (s6 j cz).2, fun z => ?_, fun z => ?_⟩
        · have := Kf.a gs5
          rw [← z, tc] at this
          have := congrArg List.length this
          simp at this
        · rw [tc] at z
          exact t9 (by simpa using z))
      rw [wg, vg, cg] at y4
      refine ⟨(nI (j + 1), f2), ?_, Eq.refl _, tg2, Dy.trans p2 y2, Du.trans p3 (y3.du trivial) r1.2.1 (fun x hx => (r1.2.2.1 x hx).1) r4, fun i hi => ?_⟩
      · show BX2_takeAll_162 f d s (nI j) = _
        unfold BX2_takeAll_162
        simp only [ZL]
        rw [if_neg (nI_ge hj (by omega)), gg_t k1, gg_t s4a, s4b, gg_in (by omega) (by omega), gg_t s5a, s5b, gg_in (by omega) (by omega), gg_t gk1, nCl (by omega), ← hc, y1, ob_some, nAdd]
      · by_cases z : i = j
        · rw [z]; exact y4
        · exact (p4 i (by omega)).keep Kf r3 y3 y2.2.2.2 z
    · obtain ⟨u, f⟩ := s0
      obtain ⟨p1, tg1, p2, p3, p4⟩ := pp
      replace p1 : u = nI 54 := p1
      subst p1
      refine ⟨f, ?_, tg1, p2, p3, p4⟩
      show BX2_takeAll_162 f d s (nI 54) = _
      unfold BX2_takeAll_162
      simp only [ZL]
      rw [if_pos (nI_le (Nat.le_refl _) (by omega))]
  obtain ⟨z, y1, tg1, y2, y3, y4⟩ := Dr
  obtain ⟨r1, r2, r3, r4⟩ := id y2
  refine ⟨z, ?_, tg1, ⟨R1.trans r1, ?_, r3, by rw [r4, eP]⟩, ?_⟩
  · unfold MX2_takeAll_162
    simp only [ZL]
    exact y1
  · have e1 := (rmP_fr (r := 0) C.1).2
    have e2 := dkP_fr (d := d) C.1
    omega
  · obtain ⟨v1, v2, v3, v4, v5⟩ := id t8
    have sd := y3.dd K1 hd1 z4 z5
    have ga : ∀ j, j ≠ 4 → j ≠ 5 → gP h d j ≠ 0 → gI z (gP z d j) = gI g (gP h d j) := fun j h4 h5 hz => by
      have := (y3.ar K1 h4 h5 (by rw [eP]; exact hz) z4 z5).2.2.1
      rw [eP] at this
      rw [r4, eP, this]
    have t200 := B.f.2.2.2.2.2.1.2
    refine dv_of B I ?_ ?_ (fun p hp => ?_) (fun p q hp hq => ?_) (fun t ht => ?_)
    · rw [sd.2.2.1, C.2.1 6 (by simp)]
      exact v1
    · rw [sd.2.2.1, C.2.1 11 (by simp)]
      exact v2
    · obtain ⟨w1, w2, w3, w4, -⟩ := v3 p hp
      rw [ga 0 (by omega) (by omega) a0.1, ga 1 (by omega) (by omega) a1.1, ga 2 (by omega) (by omega) a2.1, ga 3 (by omega) (by omega) a3.1, C.2.2.2.2 0 (by simp), if_pos (by rw [a0.2.2]; omega), C.2.2.2.2 1 (by simp), if_pos (by rw [a1.2.2]; omega), C.2.2.2.2 2 (by simp), if_pos (by rw [a2.2.2]; omega), C.2.2.2.2 3 (by simp), if_pos (by rw [a3.2.2]; omega)]
      exact ⟨w1, w2, w3, w4⟩
    · have e8 := B.f.2.2.2.2.2.2.1.2
      obtain ⟨r1', r2', r3'⟩ := dv_rc Vs B I hp hq
      have n180 := (eB_n B I hp hq).2
      have Y := y4 (6 * q + p) (by omega)
      rw [r1'] at Y
      have kk : rwK (gP g (gP g s 4) (6 * q + p)) (nI (Nn m (eB p q))) = Nn m (eB p q) := by
        unfold rwK
        by_cases cz : gP g (gP g s 4) (6 * q + p) = 0
        · rw [if_pos cz]
          by_cases nz : Nn m (eB p q) = 0
          · exact nz.symm
          · exact absurd cz (r2' nz)
        · rw [if_neg cz, nCl (by omega)]
          omega
      rw [kk] at Y
      exact Y.cg (fun l hl => r3' l hl)
    · rw [ga 7 (by omega) (by omega) a7.1, ga 8 (by omega) (by omega) a8.1, ga 9 (by omega) (by omega) a9.1, ga 10 (by omega) (by omega) a10.1, C.2.2.2.2 7 (by simp), if_pos (by rw [a7.2.2]; omega), C.2.2.2.2 8 (by simp), if_pos (by rw [a8.2.2]; omega), C.2.2.2.2 9 (by simp), if_pos (by rw [a9.2.2]; omega), C.2.2.2.2 10 (by simp), if_pos (by rw [a10.2.2]; omega)]
      exact v5 t ht
end
