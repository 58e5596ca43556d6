/-! a part is set: the class's step -/
section
variable {tg : Nat → List Nat} {h h1 g : Hp} {m M : Nat → Int32} {r x k q n p b c : Nat}
theorem c_setp (K : Rt tg h r x) (S : RmS h r) (V : RmV h r m) (I : MI m) (vq : vP m q) (u3 : m (130 + 645 * q + 3) = nI 0) (hk : k < Nn m 3) (hj : 1 ≤ Nn m (320230 + 183 * k + 29)) (J0 : m (320230 + 183 * k + 33) = nI q) (hc : c = gP h (gP h r 8) k) : (wyT m q (m 0) 0 = none → ∃ g, MX7_work h r (nI k) c = MX7_work_30 g c ∧ Sc tg r x h g) ∧ ∀ v, wyT m q (m 0) 0 = some v → ∀ M, Se m M q v.2.1 k (lnC m q) → ∃ g, MX7_work h r (nI k) c = MX7_work_55 g r (nI k) c (gP h (gP h r 5) q) ∧ Fr (fun b => b ≠ 0 ∧ [x] <:+ tg b) h g ∧ RmS g r ∧ RmV g r M ∧ MI M := by
  obtain ⟨fk, d2, d3, jq⟩ := se_j I vq u3 hk hj J0
  have vb := vq.1
  have J := I.2.1 q vq
  obtain ⟨-, j40, j1⟩ := J.n
  have P := ps_q (q := q) I.w (m 0)
  obtain ⟨p, hp, ep, p0, PS, PV⟩ := c_findPart_t S V I.1 vq
  rw [← hp]
  obtain ⟨c0, cV⟩ := V.2.2.2.2.2.2.2.2.1 k hk
  have cS := S.2.2.2.2.2.2.2.2.2.2.2.2.2.2.2.2.2.2.1 k c0
  rw [← hc] at c0 cV cS
  obtain ⟨j7, j8, j10, j9⟩ := cV.2.2.2.2.2.2.2 0 hj
  rw [show 320230 + 183 * k + 33 + 5 * 0 = 320230 + 183 * k + 33 by omega] at j7 j9
  have nq : Nn m (320230 + 183 * k + 33) = q := by unfold Nn; rw [J0, nCl (by omega)]
  have n01 : nI 0 ≠ nI 1 := by decide
  rw [J0] at j7
  rw [if_pos fk, nq, if_neg (by rw [u3]; exact n01)] at j9
  obtain ⟨-, -, ⟨a7, a7k, a7l⟩, -, ⟨a9, a9k, a9l⟩, -, -, -⟩ := id cS
  have A := Pa.rm K (q := q) (by rw [← hp]; exact PS) (by rw [← hp]; exact p0)
  rw [← hp] at A
  obtain ⟨h1, k1, k2, k3, k4, -⟩ := c_br K S V.rmw I.w PS PV J A vq (m 0)
  obtain ⟨g, s1, s2, s3⟩ := c_solve P k3 k4 I.1 vq J (fr := 0) (by omega)
  have ks := sc_dw K S k2 s2
  have gL := k3.fr k4 s2
  have Kg := ks.rt K
  have Sg := ks.rs K S
  have Vg := ks.rv K V
  have ePg : gP g = gP h := ks.1.gp
  have ekg : kd g = kd h := ks.1.ek
  have elg : ln g = ln h := ks.1.el
  have s1 : MX0_solve h1 (gP h r 14) (nI 0) = some (enL (wyT m q (m 0) 0), g) := s1
  have pre : MX7_work h r (nI k) c = if enL (wyT m q (m 0) 0) = -nI 1 then MX7_work_30 g c else b2 (Option.bind (MX0_putLines g (gP h r 14) p (nI 0) (nI 0)) fun h13 => gg (kd h13 p = 4) <| lt (sI h13 p 11 (nI 1)) fun h15 => some (nI 1, h15)) fun t54 h53 => if t54 = nI 0 then MX7_work_30 h53 c else MX7_work_35 h53 r (nI k) c p := by
    have e11 : gI h p 11 = nI 0 := PV.2.2.2.2.2.1.trans u3
    have bkd : kd h (gP h r 14) = 0 := by rw [← ekg]; exact gL.1.1
    unfold MX7_work MX7_setPart
    simp only [ZL]
    rw [gg_t cS.1, gg_t a7k, a7l, gg_in (by omega) (by omega), gg_t S.1, nCl (by omega), j7, ep, ob_some, if_neg p0, gg_t PS.1, e11, if_pos rfl, gg_t S.1, V.1, k1, b2_some, gg_t k3.1.1, s1, b2_some]
    by_cases z : enL (wyT m q (m 0) 0) = -nI 1
    · rw [if_pos z, if_pos z, b2_some, if_pos rfl]
    · rw [if_neg z, if_neg z, ekg, ePg, gg_t S.1, gg_t bkd]
  refine ⟨fun hz => ?_, fun v hv M HM => ?_⟩
  · rw [hz] at pre
    exact ⟨g, by rw [pre, if_pos (show enL none = -nI 1 from rfl)], ks⟩
  · obtain ⟨l1, l2, l3, l4, l5, l6⟩ := lnC_f I vq hv
    rw [hv, if_neg (by rw [show enL (some v) = nI v.2.1 from rfl, nM6 (by omega)]; exact id)] at pre
    -- apart
    obtain ⟨b0, bS⟩ := Sg.2.2.2.2.2.2.2.2.2.2.2.2.2.2.2.1
    rw [ePg] at b0 bS
    have a12 := bS.2.2.2.2.2.1
    have a3 := PS.2.2.2.2.1
    have a4 := PS.2.2.2.2.2.1
    have tp := K.o (k := 5) (j := q) (by rw [← hp]; exact p0)
    rw [← hp] at tp
    have t3 : tg (gP h p 3) = [3, q, 5, x] := by rw [hp]; exact K.q (by rw [← hp]; exact a3.1)
    have t4 : tg (gP h p 4) = [4, q, 5, x] := by rw [hp]; exact K.q (by rw [← hp]; exact a4.1)
    have tb := K.a b0
    have t12 := K.o (k := 14) (j := 12) (by have := a12.1; rwa [ePg] at this)
    have tc := K.o (k := 8) (j := k) (by rw [← hc]; exact c0)
    rw [← hc] at tc
    have t9 : tg (gP h c 9) = [9, k, 8, x] := by rw [hc]; exact K.q (by rw [← hc]; exact a9)
    have nT : ∀ {a b : Nat}, tg a ≠ tg b → Nq a b := fun hn e => hn (by rw [e])
    obtain ⟨g2, u1, u2, u4, u5⟩ := c_putL (g := g) (b := gP h r 14) (p := p) (np := nP m q) (n := v.2.1) (c := lnC m q) bS.1 gL.2.1.1 ⟨a12.2.1, a12.2.2⟩ (by rw [ekg]; exact PS.1) (by rw [ePg, ekg, elg]; exact ⟨a3.2.1, a3.2.2⟩) (by rw [ePg, ekg, elg]; exact ⟨a4.2.1, a4.2.2⟩) (fun y hy => by
      rw [ePg] at hy ⊢
      rcases hy with hy | hy | hy
      · rw [hy]; exact ⟨nT (by rw [tb, t3]; simp), nT (by rw [tb, t4]; simp)⟩
      · rw [hy]; exact ⟨nT (by rw [t12, t3]; simp), nT (by rw [t12, t4]; simp)⟩
      · rw [hy]; exact ⟨nT (by rw [tp, t3]; simp), nT (by rw [tp, t4]; simp)⟩) (by rw [ePg]; exact nT (by rw [t3, t4]; simp)) l2 j40 l3 l4 (fun j hj => ⟨(l5 j hj).1, (l5 j hj).2.1⟩) (fun j hj => by
      obtain ⟨w, w1, w2⟩ := (l5 j hj).2.2
      have := l5 j hj
      rw [((s3 (lnC m q j) (Nat.zero_le _) (by omega)).2 w w1).2 (by omega), w2])
    rw [ePg] at u2 u5
    obtain ⟨g3, hg3⟩ : ∃ g3, g3 = sI g2 p 11 (nI 1) := ⟨_, rfl⟩
    obtain ⟨g4, hg4⟩ : ∃ g4, g4 = sI g3 (gP h c 9) 0 (nI v.2.1) := ⟨_, rfl⟩
    have F2 : Ft tg (seT x q k) g g2 := Fr.mono u2 (fun y hy => by
      rcases hy with hy | hy | hy
      · rw [hy]; exact ⟨a3.1, Or.inr (Or.inl t3)⟩
      · rw [hy]; exact ⟨a4.1, Or.inr (Or.inr (Or.inl t4))⟩
      · rw [hy]; exact ⟨p0, Or.inl tp⟩)
    have F3 : Ft tg (seT x q k) g g3 := by rw [hg3]; exact F2.trans (Ft.sI p0 (Or.inl tp))
    have F4 : Ft tg (seT x q k) g g4 := by rw [hg4]; exact F3.trans (Ft.sI a9 (Or.inr (Or.inr (Or.inr t9))))
    have ng9 : ∀ y, tg y ≠ [9, k, 8, x] → gI g4 y = gI g3 y := fun y hy => by rw [hg4, gI_sI, if_neg (fun e => hy (by rw [e]; exact t9))]
    have np : ∀ y, tg y ≠ [q, 5, x] → gI g3 y = gI g2 y := fun y hy => by rw [hg3, gI_sI, if_neg (fun e => hy (by rw [e]; exact tp))]
    have gp3 : ∀ y, gI g3 p y = if y = 11 then nI 1 else if y = 9 then nI v.2.1 else gI g p y := fun y => by rw [hg3, gI_sI, if_pos rfl, up_at, u4]
    have g39 : gI g3 (gP h c 9) = gI g (gP h c 9) := by
      rw [np _ (by rw [t9]; simp), u2.2.2.2.2.2.2 _ (fun w => by
        rcases w with w | w | w
        · exact nT (by rw [t9, t3]; simp) w
        · exact nT (by rw [t9, t4]; simp) w
        · exact nT (by rw [t9, tp]; simp) w)]
    have gg9 : gI g (gP h c 9) = gI h (gP h c 9) := (ks.1.same (by rw [t9]; simp [scT])).2.2.1
    have RM := se_rm (M := M) (n := v.2.1) (c := lnC m q) Kg Sg Vg I vq u3 hk hj J0 l2 HM F4 (fun y => by
      rw [ePg, ← hp, ng9 p (by rw [tp]; simp), gp3]) (fun j hj => by
      rw [ePg, ← hp, ng9 _ (by rw [t3]; simp), np _ (by rw [t3]; simp)]
      exact (u5 j hj).1) (fun j hj => by
      rw [ePg, ← hp, ng9 _ (by rw [t4]; simp), np _ (by rw [t4]; simp)]
      exact (u5 j hj).2) (fun y => by
      rw [ePg, ← hc, hg4, gI_sI, if_pos rfl, up_at, g39])
    refine ⟨g4, ?_, ?_, RM.1, RM.2, se_mi I vq u3 hk hj J0 l1 l2 l3 (fun j hj => (l5 j hj).1) l4 l6 HM⟩
    · have ek3 : kd g3 = kd h := F3.ek.trans ekg
      have el3 : ln g3 = ln h := F3.el.trans elg
      have eP3 : gP g3 = gP h := F3.gp.trans ePg
      rw [pre, u1, ob_some, gg_t (by rw [F2.ek, ekg]; exact PS.1), lt_eq, ← hg3, b2_some, if_neg (by decide)]
      unfold MX7_work_35
      simp only [ZL]
      rw [ek3, el3, eP3, gg_t cS.1, gg_t a9k, a9l, gg_in (by omega) (by omega), nCl (by omega), g39, gg9, j9, if_pos (by decide), gg_t PS.1, gp3, if_neg (by decide), if_pos rfl, lt_eq, ← hg4]
    · have Fs : Fr (fun b => b ≠ 0 ∧ [x] <:+ tg b) h g := Fr.mono ks.1 (fun y hy => ⟨hy.1, scT.sf hy.2⟩)
      refine Fs.trans (Fr.mono F4 (fun y hy => ⟨hy.1, ?_⟩))
      rcases hy.2 with w | w | w | w
      · rw [w]; exact List.suffix_append [q, 5] [x]
      · rw [w]; exact List.suffix_append [3, q, 5] [x]
      · rw [w]; exact List.suffix_append [4, q, 5] [x]
      · rw [w]; exact List.suffix_append [9, k, 8] [x]
end
