/-! the class reads the rules that hold, and the copy -/
def YW (h : Hp) (y e : Nat) (m : Nat → Int32) (F : Nat → Int32) : Prop := kd h y = 8 ∧ (kd h (gP h y 2) = 20 ∧ ln h (gP h y 2) = 12) ∧ (kd h (gP h y 3) = 20 ∧ ln h (gP h y 3) = 12) ∧ (kd h (gP h y 4) = 20 ∧ ln h (gP h y 4) = 12) ∧ (kd h (gP h y 7) = 22 ∧ ln h (gP h y 7) = 12) ∧ gI h y 1 = nI (nR m e) ∧ nR m e ≤ 12 ∧ ∀ r, r < nR m e → gI h (gP h y 2) r = m (yA e + 2 + 5 * r) ∧ gI h (gP h y 3) r = m (yA e + 2 + 5 * r + 1) ∧ gI h (gP h y 4) r = m (yA e + 2 + 5 * r + 2) ∧ gI h (gP h y 7) r = bI (hM m (yA e) F r)
section
variable {h h1 h' : Hp} {F : Nat → Int32} {m : Nat → Int32} {y e b : Nat} {D : Nat → Prop}
theorem YW.fr (W : YW h y e m F) (G : Fr D h h1) (n0 : ¬ D y) (n2 : ¬ D (gP h y 2)) (n3 : ¬ D (gP h y 3)) (n4 : ¬ D (gP h y 4)) (n7 : ¬ D (gP h y 7)) : YW h1 y e m F := by
  unfold YW
  rw [G.1, G.2.1, G.2.2.1, G.2.2.2.2.2.2 _ n0, G.2.2.2.2.2.2 _ n2, G.2.2.2.2.2.2 _ n3, G.2.2.2.2.2.2 _ n4, G.2.2.2.2.2.2 _ n7]
  exact W
theorem YW.last {w : Nat} (W : YW h y e m F) (hw : w < 7) : MX9_lastThatHolds h y (nI w) = some (lV (lrM m e F w)) := by
  obtain ⟨w1, w2, w3, w4, w7, e1, n12, H⟩ := W
  refine c_last (n := nR m e) n12 hw w1 w2 w7 e1 _ (fun r hr => ?_)
  obtain ⟨a1, -, -, a4⟩ := H r hr
  rw [a1, a4]
  cases hb : hM m (yA e) F r
  · simp [bIF]
  · by_cases z : m (yA e + 2 + 5 * r) = nI w
    · simp [z, bIT, show ¬ nI 1 = nI 0 from by decide]
    · simp [z]
theorem lrM_le {w : Nat} : lrM m e F w ≤ nR m e := lrN_le _
theorem lrM_k {w : Nat} (z : lrM m e F w ≠ 0) : m (yA e + 2 + 5 * (lrM m e F w - 1)) = nI w := by
  have := lrN_P (nR m e) z
  rw [Bool.and_eq_true, decide_eq_true_eq] at this
  exact this.1
theorem c_sel {β : Type} {c i d : Nat} (W : YW h y e m F) (hc : c ≤ nR m e) (hi : i = 1 ∨ i = 2) (hv : c ≠ 0 → m (yA e + 2 + 5 * (c - 1) + i) = nI (Nn m (yA e + 2 + 5 * (c - 1) + i))) (K : Int32 → Option β) : (if lV c = -1 then K (nI d) else gg (kd h (gP h y (2 + i)) = 20) (gg (inB (lV c) (ln h (gP h y (2 + i))) = true) (K (gI h (gP h y (2 + i)) (lV c).toNatClampNeg)))) = K (nI (sdM m e c i d)) := by
  obtain ⟨w1, w2, w3, w4, w7, e1, n12, H⟩ := W
  by_cases z : c = 0
  · subst z
    rw [if_pos (show lV 0 = -1 from rfl)]
    rfl
  · rw [if_neg (by rw [show (-1 : Int32) = -nI 1 from rfl, lV_eqm (by omega)]; exact z)]
    have el : lV c = nI (c - 1) := by unfold lV; rw [if_neg z]
    have es : sdM m e c i d = Nn m (yA e + 2 + 5 * (c - 1) + i) := by unfold sdM; rw [if_neg z]
    obtain ⟨-, a2, a3, -⟩ := H (c - 1) (by omega)
    rw [el, es, ← hv z]
    rcases hi with rfl | rfl
    · rw [gg_t w3.1, w3.2, gg_in (by omega) (by omega), nCl (by omega), a2]
    · rw [gg_t w4.1, w4.2, gg_in (by omega) (by omega), nCl (by omega), a3]
/-- the numbers of the rules -/
def BrR (h : Hp) (b : Nat) (m : Nat → Int32) (e : Nat) (F : Nat → Int32) : Prop := gI h b 0 = nI (sdM m e (lrM m e F 0) 1 60) ∧ gI h b 1 = lV (lrM m e F 0) ∧ gI h b 2 = nI (sdM m e (lrM m e F 1) 1 2) ∧ gI h b 3 = nI (sdM m e (lrM m e F 1) 2 6) ∧ gI h b 4 = nI (sdM m e (lrM m e F 2) 1 25) ∧ gI h b 5 = nI (sdM m e (lrM m e F 3) 1 0)
theorem rl_v (I : MIw m) (he : e ≤ Nn m 2) {c i : Nat} (hc : c ≤ nR m e) (hi : i = 1 ∨ i = 2) : c ≠ 0 → m (yA e + 2 + 5 * (c - 1) + i) = nI (Nn m (yA e + 2 + 5 * (c - 1) + i)) ∧ Nn m (yA e + 2 + 5 * (c - 1) + i) ≤ 999 := fun z => by
  unfold nR at hc
  by_cases e0 : e = 0
  · rw [if_pos e0] at hc; omega
  · rw [if_neg e0] at hc
    obtain ⟨-, -, H⟩ := I.2 (e - 1) (by omega)
    obtain ⟨-, h1, h2, -⟩ := H (c - 1) (by show c - 1 < Nn m (yA e + 1); omega)
    rcases hi with rfl | rfl
    · exact h1.eq (by omega)
    · have h2 : oN m (yA e + 2 + 5 * (c - 1) + 2) 600 := h2
      have := h2.eq (by omega)
      exact ⟨this.1, by omega⟩
theorem c_loadRules (W : YW h y e m F) (hb : kd h b = 0) (I : MIw m) (he : e ≤ Nn m 2) (n0 : Nq b y) (n2 : Nq b (gP h y 2)) (n3 : Nq b (gP h y 3)) (n4 : Nq b (gP h y 4)) (n7 : Nq b (gP h y 7)) : ∃ h1, MX0_loadRules h b y = some h1 ∧ (Fr (fun c => c = b) h h1 ∧ BrR h1 b m e F ∧ ∀ j, 6 ≤ j → gI h1 b j = gI h b j) := by
  have lle : ∀ w, lrM m e F w ≤ nR m e := fun w => lrM_le
  have lv : ∀ w i, i = 1 ∨ i = 2 → (lrM m e F w ≠ 0 → m (yA e + 2 + 5 * (lrM m e F w - 1) + i) = nI (Nn m (yA e + 2 + 5 * (lrM m e F w - 1) + i))) := fun w i hi z => (rl_v I he (lle w) hi z).1
  have WW : ∀ {g : Hp}, Fr (fun c => c = b) h g → YW g y e m F := fun G => W.fr G (fun z => n0.n z.symm) (fun z => n2.n z.symm) (fun z => n3.n z.symm) (fun z => n4.n z.symm) (fun z => n7.n z.symm)
  have hy := W.1
  obtain ⟨g1, hg1⟩ : ∃ g, g = sI h b 1 (lV (lrM m e F 0)) := ⟨_, rfl⟩
  obtain ⟨g2, hg2⟩ : ∃ g, g = sI g1 b 0 (nI (sdM m e (lrM m e F 0) 1 60)) := ⟨_, rfl⟩
  obtain ⟨g3, hg3⟩ : ∃ g, g = sI g2 b 2 (nI (sdM m e (lrM m e F 1) 1 2)) := ⟨_, rfl⟩
  obtain ⟨g4, hg4⟩ : ∃ g, g = sI g3 b 3 (nI (sdM m e (lrM m e F 1) 2 6)) := ⟨_, rfl⟩
  obtain ⟨g5, hg5⟩ : ∃ g, g = sI g4 b 4 (nI (sdM m e (lrM m e F 2) 1 25)) := ⟨_, rfl⟩
  obtain ⟨g6, hg6⟩ : ∃ g, g = sI g5 b 5 (nI (sdM m e (lrM m e F 3) 1 0)) := ⟨_, rfl⟩
  have G1 : Fr (fun c => c = b) h g1 := by rw [hg1]; exact Fr.sI rfl
  have G2 : Fr (fun c => c = b) h g2 := by rw [hg2]; exact G1.trans (Fr.sI rfl)
  have G3 : Fr (fun c => c = b) h g3 := by rw [hg3]; exact G2.trans (Fr.sI rfl)
  have G4 : Fr (fun c => c = b) h g4 := by rw [hg4]; exact G3.trans (Fr.sI rfl)
  have G5 : Fr (fun c => c = b) h g5 := by rw [hg5]; exact G4.trans (Fr.sI rfl)
  have G6 : Fr (fun c => c = b) h g6 := by rw [hg6]; exact G5.trans (Fr.sI rfl)
  have t5 : ∀ v, MX0_loadRules_131 g5 b v = some (sI g5 b 5 v) := fun v => by
    unfold MX0_loadRules_131
    rw [gg_t (by rw [G5.1]; exact hb)]
    rfl
  have t4 : MX0_loadRules_103 g4 b y b (nI (sdM m e (lrM m e F 2) 1 25)) = some g6 := by
    unfold MX0_loadRules_103
    rw [gg_t (by rw [G4.1]; exact hb), lt_eq, gg_t (by rw [G4.1]; exact hy), ← hg5]
    simp only [ZL]
    rw [(WW G5).last (w := 3) (by omega), ob_some]
    have := c_sel (c := lrM m e F 3) (i := 1) (d := 0) (WW G5) (lle 3) (Or.inl rfl) (lv 3 1 (Or.inl rfl)) (MX0_loadRules_131 g5 b)
    rw [t5 (nI (sdM m e (lrM m e F 3) 1 0)), ← hg6, G5.1, G5.2.1, G5.2.2.1] at this
    rw [G4.1, G4.2.1, G4.2.2.1]
    exact this
  have t3 : MX0_loadRules_77 g3 b y b (nI (sdM m e (lrM m e F 1) 2 6)) = some g6 := by
    unfold MX0_loadRules_77
    rw [gg_t (by rw [G3.1]; exact hb), lt_eq, gg_t (by rw [G3.1]; exact hy), ← hg4]
    simp only [ZL]
    rw [(WW G4).last (w := 2) (by omega), ob_some]
    have := c_sel (c := lrM m e F 2) (i := 1) (d := 25) (WW G4) (lle 2) (Or.inl rfl) (lv 2 1 (Or.inl rfl)) (MX0_loadRules_103 g4 b y b)
    rw [t4, G4.1, G4.2.1, G4.2.2.1] at this
    rw [G3.1, G3.2.1, G3.2.2.1]
    exact this
  have t2 : MX0_loadRules_57 g2 b y (lV (lrM m e F 1)) b (nI (sdM m e (lrM m e F 1) 1 2)) = some g6 := by
    unfold MX0_loadRules_57
    rw [gg_t (by rw [G2.1]; exact hb), lt_eq, ← hg3]
    simp only [ZL]
    have := c_sel (c := lrM m e F 1) (i := 2) (d := 6) (WW G3) (lle 1) (Or.inr rfl) (lv 1 2 (Or.inr rfl)) (MX0_loadRules_77 g3 b y b)
    rw [t3, G3.1, G3.2.1, G3.2.2.1] at this
    rw [G2.1, G2.2.1, G2.2.2.1, gg_t hy]
    exact this
  have t1 : MX0_loadRules_32 g1 b y b (nI (sdM m e (lrM m e F 0) 1 60)) = some g6 := by
    unfold MX0_loadRules_32
    rw [gg_t (by rw [G1.1]; exact hb), lt_eq, gg_t (by rw [G1.1]; exact hy), ← hg2]
    simp only [ZL]
    rw [(WW G2).last (w := 1) (by omega), ob_some]
    have := c_sel (c := lrM m e F 1) (i := 1) (d := 2) (WW G2) (lle 1) (Or.inl rfl) (lv 1 1 (Or.inl rfl)) (MX0_loadRules_57 g2 b y (lV (lrM m e F 1)) b)
    rw [t2, G2.1, G2.2.1, G2.2.2.1] at this
    rw [G1.1, G1.2.1, G1.2.2.1]
    exact this
  refine ⟨g6, ?_, G6, ?_, fun j hj => ?_⟩
  · unfold MX0_loadRules
    rw [gg_t hy]
    simp only [ZL]
    rw [W.last (w := 0) (by omega), ob_some, gg_t hb, lt_eq, ← hg1, show gI g1 b 1 = lV (lrM m e F 0) by rw [hg1, gIl]]
    have := c_sel (c := lrM m e F 0) (i := 1) (d := 60) (WW G1) (lle 0) (Or.inl rfl) (lv 0 1 (Or.inl rfl)) (MX0_loadRules_32 g1 b y b)
    rw [t1, G1.1, G1.2.1, G1.2.2.1] at this
    exact this
  · rw [hg6, hg5, hg4, hg3, hg2, hg1]
    unfold BrR
    simp (disch := omega) only [gI_sI, up_at, i0, i1, if_true, ↓reduceIte, Nat.reduceEqDiff]
    exact ⟨trivial, trivial, trivial, trivial, trivial, trivial⟩
  · rw [hg6, hg5, hg4, hg3, hg2, hg1]
    simp (disch := omega) only [gI_sI, up_at, i0, i1, if_true]
end
def wlN (m : Nat → Int32) (q b : Nat) : Nat → Nat
  | 0 => 0
  | i + 1 => wlN m q b i + Nn m (16 + 27 * Nn m (70 + q / 5) + Nn m (130 + 645 * q + 165 + 12 * b + i))
/-- how wide the first k pieces are -/
def wpN (m : Nat → Int32) (q : Nat) : Nat → Nat
  | 0 => 0
  | b + 1 => wpN m q b + wlN m q b (Nn m (130 + 645 * q + 125 + b))
def nP (m : Nat → Int32) (q : Nat) : Nat := Nn m (130 + 645 * q + 1)
def wkN (m : Nat → Int32) (q b : Nat) : Nat := Nn m (130 + 645 * q + 85 + b)
/-- how many words end in the first k pieces -/
def weN (m : Nat → Int32) (q k : Nat) : Nat := if k = nP m q then wkN m q (k - 1) + 1 else wkN m q k
def hyN (m : Nat → Int32) (q : Nat) : Nat := Nn m (16 + 27 * Nn m (70 + q / 5) + 26)
/-- the copy, as it is read -/
def BrC (h : Hp) (b : Nat) (m : Nat → Int32) (q : Nat) : Prop := gI h b 6 = nI (nP m q) ∧ gI h b 7 = nI (hyN m q) ∧ ∀ k, k ≤ nP m q → gI h (gP h b 8) k = nI (wpN m q k) ∧ gI h (gP h b 9) k = nI (weN m q k)
section
variable {h h1 h' : Hp} {m : Nat → Int32} {p q b w : Nat}
theorem MIp.n (J : MIp m q) : m (130 + 645 * q + 1) = nI (nP m q) ∧ nP m q ≤ 40 ∧ 1 ≤ nP m q := ⟨(J.2.1.eq (by omega)).1, (J.2.1.eq (by omega)).2, J.2.2.1⟩
theorem MIp.bt (J : MIp m q) {k : Nat} (hk : k < nP m q) : m (130 + 645 * q + 85 + k) = nI (wkN m q k) ∧ wkN m q k ≤ 23 ∧ m (130 + 645 * q + 125 + k) = nI (Nn m (130 + 645 * q + 125 + k)) ∧ Nn m (130 + 645 * q + 125 + k) ≤ 12 ∧ 1 ≤ Nn m (130 + 645 * q + 125 + k) ∧ ∀ i, i < Nn m (130 + 645 * q + 125 + k) → m (130 + 645 * q + 165 + 12 * k + i) = nI (Nn m (130 + 645 * q + 165 + 12 * k + i)) ∧ Nn m (130 + 645 * q + 165 + 12 * k + i) ≤ 25 := by
  obtain ⟨-, -, -, -, -, -, ob, -⟩ := J
  obtain ⟨b1, b2, b3, b4⟩ := ob k hk
  obtain ⟨c1, c2⟩ := b1.eq (by omega)
  obtain ⟨d1, d2⟩ := b2.eq (by omega)
  exact ⟨c1, c2, d1, d2, b3, fun i hi => (b4 i hi).eq (by omega)⟩
theorem wd_v (B : MIb m) {f c : Nat} (hf : f ≤ 1) (hc : c ≤ 26) : m (16 + 27 * f + c) = nI (Nn m (16 + 27 * f + c)) ∧ Nn m (16 + 27 * f + c) ≤ 20 ∧ 1 ≤ Nn m (16 + 27 * f + c) := by
  have h54 := B.2.2.2.2.2.2.2.2.1 (27 * f + c) (by omega)
  rw [← Nat.add_assoc] at h54
  exact ⟨(h54.1.eq (by omega)).1, (h54.1.eq (by omega)).2, h54.2⟩
theorem fc_v (B : MIb m) (hq : vP m q) : m (70 + q / 5) = nI (Nn m (70 + q / 5)) ∧ Nn m (70 + q / 5) ≤ 1 := ((B.2.2.2.2.2.2.2.2.2 (q / 5) hq.2.1).1).eq (by omega)
theorem wl_le (B : MIb m) (J : MIp m q) (hf : Nn m (70 + q / 5) ≤ 1) {k : Nat} (hk : k < nP m q) : ∀ i, i ≤ Nn m (130 + 645 * q + 125 + k) → wlN m q k i ≤ 20 * i ∧ i ≤ wlN m q k i
  | 0, _ => ⟨Nat.le_refl _, Nat.le_refl _⟩
  | i + 1, hi => by
    have ih := wl_le B J hf hk i (by omega)
    have c := ((J.bt hk).2.2.2.2.2 i (by omega)).2
    have d := (wd_v B hf (show Nn m (130 + 645 * q + 165 + 12 * k + i) ≤ 26 by omega)).2
    unfold wlN
    omega
theorem wp_le (B : MIb m) (J : MIp m q) (hf : Nn m (70 + q / 5) ≤ 1) : ∀ k, k ≤ nP m q → wpN m q k ≤ 240 * k ∧ lsN m q k ≤ wpN m q k
  | 0, _ => ⟨Nat.le_refl _, Nat.le_refl _⟩
  | k + 1, hk => by
    have ih := wp_le B J hf k (by omega)
    obtain ⟨-, -, -, l1, l2, -⟩ := J.bt (k := k) (by omega)
    have c := wl_le B J hf (k := k) (by omega) _ (Nat.le_refl _)
    unfold wpN lsN
    omega
theorem ls_le (J : MIp m q) : ∀ k, k ≤ nP m q → lsN m q k ≤ 12 * k
  | 0, _ => Nat.le_refl _
  | k + 1, hk => by
    have ih := ls_le J k (by omega)
    obtain ⟨-, -, -, l1, -⟩ := J.bt (k := k) (by omega)
    unfold lsN
    omega
theorem PtV.bg (S : PtS h p) (V : PtV h p m q) (J : MIp m q) : ∀ k, k ≤ nP m q → gI h (gP h p 1) k = nI (lsN m q k)
  | 0, _ => S.2.2.2.2.2.2.1
  | k + 1, hk => by
    have ih := PtV.bg S V J k (by omega)
    obtain ⟨-, -, -, -, -, -, a7, -⟩ := V
    obtain ⟨c1, -⟩ := a7 k (by show k < nP m q; omega)
    rw [c1, ih, (J.bt (k := k) (by omega)).2.2.1, nAdd]
    rfl
theorem PtV.lt (S : PtS h p) (V : PtV h p m q) (J : MIp m q) {k i : Nat} (hk : k < nP m q) (hi : i < Nn m (130 + 645 * q + 125 + k)) : gI h (gP h p 0) (lsN m q k + i) = nI (Nn m (130 + 645 * q + 165 + 12 * k + i)) := by
  have e := PtV.bg S V J k (by omega)
  have l := ls_le J k (by omega)
  obtain ⟨-, -, -, -, -, -, a7, -⟩ := V
  obtain ⟨-, -, c3⟩ := a7 k hk
  have := c3 i hi
  have n40 := J.n.2.1
  rw [e, nCl (by omega), ((J.bt hk).2.2.2.2.2 i hi).1] at this
  exact this
/-- a piece closes its word -/
def ewN (m : Nat → Int32) (q b : Nat) : Prop := b + 1 = nP m q ∨ m (130 + 645 * q + 85 + b) ≠ m (130 + 645 * q + 85 + (b + 1))
theorem we_s (J : MIp m q) {k : Nat} (hk : k < nP m q) : (ewN m q k → weN m q (k + 1) = weN m q k + 1) ∧ (¬ ewN m q k → weN m q (k + 1) = weN m q k) ∧ weN m q k = wkN m q k := by
  obtain ⟨n1, n2, n3⟩ := J.n
  have ek : weN m q k = wkN m q k := by unfold weN; rw [if_neg (by omega)]
  obtain ⟨-, -, -, -, -, -, -, -, ow1, -⟩ := id J
  refine ⟨fun z => ?_, fun z => ?_, ek⟩
  · rw [ek]
    unfold weN
    by_cases z1 : k + 1 = nP m q
    · rw [if_pos z1]; rfl
    · rw [if_neg z1]
      rcases z with z | z
      · exact absurd z z1
      · rcases ow1 k (by show k + 1 < nP m q; omega) with q1 | q1
        · rw [(J.bt (k := k) (by omega)).1, (J.bt (k := k + 1) (by omega)).1] at z
          exact absurd (congrArg nI q1.symm) z
        · exact q1
  · rw [ek]
    have z1 : ¬ k + 1 = nP m q := fun q => z (Or.inl q)
    unfold weN
    rw [if_neg z1]
    have z2 : m (130 + 645 * q + 85 + k) = m (130 + 645 * q + 85 + (k + 1)) := Classical.byContradiction fun q => z (Or.inr q)
    exact congrArg Int32.toNatClampNeg z2.symm
theorem c_widthOf (hk : kd h w = 20) (hl : ln h w = 54) {i : Nat} (hi : i < 54) : MX0_widthOf h w (nI i) = some (gI h w i) := by
  simp (disch := omega) only [MX0_widthOf, ↓reduceIte, Nat.reduceLT, Nat.reduceLeDiff, Nat.reduceEqDiff, ZL, nAdd, nMul, nSub, nLt, nLe, nEq, nCl, nDiv, nRem2, nM1, nM2, nM3, nM4, nM5, nM6, gg_in, gg_rf, gg_T, if_true, if_false, ↓lt_eq, ob_some, b2_some, up1_some, kd_sI, ln_sI, gP_sI, gI_sI, kd_rI, ln_rI, gP_rI, gI_rI, kd_bmp, ln_bmp, gP_bmp, gI_bmp, up_at, i0, i1, hk, hl]
end
