/-! copy is read: the reference -/
theorem up_up {f : Nat → Int32} {a : Nat} {u v : Int32} : va_up (va_up f a u) a v = va_up f a v := by
  funext y
  rw [up_at, up_at, up_at]
  by_cases z : y = a
  · rw [if_pos z, if_pos z]
  · rw [if_neg z, if_neg z, if_neg z]
/-- what reading leaves alone -/
def FQ (h0 g : Hp) : Prop := Fr (fun b => b = 73 ∨ (78 ≤ b ∧ b ≤ 82)) h0 g ∧ ∀ j, j ≠ 8 → j ≠ 9 → j ≠ 17 → gI g 73 j = gI h0 73 j
theorem FQ.tr {h0 g g1 : Hp} (a : FQ h0 g) (b : FQ g g1) : FQ h0 g1 := ⟨a.1.trans b.1, fun j h1 h2 h3 => (b.2 j h1 h2 h3).trans (a.2 j h1 h2 h3)⟩
theorem fq_a {g : Hp} {a i : Nat} {v : Int32} (h1 : 78 ≤ a) (h2 : a ≤ 82) : FQ g (sI g a i v) := ⟨Fr.sI (Or.inr ⟨h1, h2⟩), fun j _ _ _ => by rw [gI_sI, if_neg (by omega)]⟩
theorem fq_f {g : Hp} {i : Nat} {v : Int32} (h : i = 8 ∨ i = 9 ∨ i = 17) : FQ g (sI g 73 i v) := ⟨Fr.sI (Or.inl rfl), fun j _ _ _ => by rw [gI_sI, if_pos rfl, up_at, if_neg (by omega)]⟩
/-- where the reader stands and what it has -/
def RTq (h0 g : Hp) (i k : Nat) (pc W Ln Lt wd : Nat → Int32) : Prop := FQ h0 g ∧ gI g 73 8 = nI i ∧ gI g 73 17 = nI k ∧ gI g 81 = pc ∧ gI g 78 = W ∧ gI g 79 = Ln ∧ gI g 80 = Lt ∧ gI g 82 = wd ∧ gI g 73 9 = gI h0 73 9
/-- what it reads -/
def RTt (h0 : Hp) (b : Nat → Nat) (e : Nat) : Prop := RS h0 ∧ gI h0 73 7 = nI e ∧ e ≤ 400 ∧ ∀ j, j < e → gI h0 77 j = nI (b j) ∧ b j ≤ 255
/-- it has found a fault at p -/
def ERq (h0 g : Hp) (p : Nat) : Prop := FQ h0 g ∧ gI g 73 9 = nI p
section
variable {h0 g g1 : Hp} {b : Nat → Nat} {mp mw ba e i k p l W0 run P : Nat} {s s0 s1 : TX} {pc W Ln Lt wd pc0 wd0 wd1 : Nat → Int32} {v1 v2 v3 : Int32}
theorem rt_rs (T : RTt h0 b e) (F : FQ h0 g) : RS g ∧ gI g 73 7 = nI e ∧ ∀ j, j < e → gI g 77 j = nI (b j) := ⟨T.1.fr F.1, by rw [F.2 7 (by omega) (by omega) (by omega)]; exact T.2.1, fun j hj => by rw [F.1.2.2.2.2.2.2 77 (by omega)]; exact (T.2.2.2 j hj).1⟩
/-- a fault here -/
theorem rt_flt (T : RTt h0 b e) (R : RTq h0 g i k pc W Ln Lt wd) : ERq h0 (sI g 73 9 (nI i)) i ∧ lt (sI g 73 9 (gI g 73 8)) (fun h => some ((nI 0 : Int32), h)) = some (nI 0, sI g 73 9 (nI i)) := by
  refine ⟨⟨R.1.tr (fq_f (by omega)), by rw [gI_sI, if_pos rfl, up_at, if_pos rfl]⟩, by rw [R.2.1, lt_eq]⟩
theorem r_w165 (T : RTt h0 b e) (R : RTq h0 g i k pc W Ln Lt wd) (k5 : k ≤ 4) (ie : i ≤ e) (pP : pc k = nI P) : MX12_readWord_165 g 73 v1 v2 v3 = (if i < e ∧ b i = 45 then (if i + 1 < e ∧ lB (b (i + 1)) = true then some (.inl (nI 1, sI (sI g 81 k (nI (P + 1))) 73 8 (nI (i + 1)))) else some (.inr (nI 0, sI (sI (sI g 81 k (nI (P + 1))) 73 8 (nI (i + 1))) 73 9 (nI (i + 1))))) else some (.inl (nI 0, sI g 81 k (nI (P + 1))))) := by
  obtain ⟨F, q8, q17, q81, -, -, -, -, -⟩ := R
  obtain ⟨R1, R2, R3⟩ := rt_rs T F
  have e400 := T.2.2.1
  have bb := T.2.2.2
  have m1 : gI (sI g 81 k (nI (P + 1))) 73 = gI g 73 := by rw [gI_sI, if_neg (by decide)]
  have m2 : gI (sI g 81 k (nI (P + 1))) 77 = gI g 77 := by rw [gI_sI, if_neg (by decide)]
  have n1 : gI (sI (sI g 81 k (nI (P + 1))) 73 8 (nI (i + 1))) 73 = va_up (gI g 73) 8 (nI (i + 1)) := by rw [gI_sI, if_pos rfl, m1]
  have n2 : gI (sI (sI g 81 k (nI (P + 1))) 73 8 (nI (i + 1))) 77 = gI g 77 := by rw [gI_sI, if_neg (by decide), m2]
  have A : MX12_readWord_208 (sI g 81 k (nI (P + 1))) 73 v1 v2 v3 (nI 1) = (if i + 1 < e ∧ lB (b (i + 1)) = true then some (.inl (nI 1, sI (sI g 81 k (nI (P + 1))) 73 8 (nI (i + 1)))) else some (.inr (nI 0, sI (sI (sI g 81 k (nI (P + 1))) 73 8 (nI (i + 1))) 73 9 (nI (i + 1))))) := by
    have C : MX12_readWord_254 (sI (sI g 81 k (nI (P + 1))) 73 8 (nI (i + 1))) 73 = some (nI 0, sI (sI (sI g 81 k (nI (P + 1))) 73 8 (nI (i + 1))) 73 9 (nI (i + 1))) := by
      unfold MX12_readWord_254
      rw [gg_t (show kd (sI (sI g 81 k (nI (P + 1))) 73 8 (nI (i + 1))) 73 = 11 from (RS.f R1).1), lt_eq, n1, up_at, if_pos rfl]
      rfl
    unfold MX12_readWord_208
    simp only [ZL, kd_sI, gP_sI, ln_sI, RS.f R1]
    rw [if_neg (by decide), gg_T, m1, q8, nAdd, lt_eq, n1, up_at, if_neg (show ¬ ((7 : Nat) = 8) by decide), R2, up_at, if_pos rfl, gg_T, C, up1_some]
    by_cases z : i + 1 < e
    · rw [if_neg (nI_ge z (by omega)), gg_in (by omega) (by omega), n2, nCl (by omega), R3 (i + 1) z, r_isL (bb (i + 1) z).2, ob_some]
      cases y : lB (b (i + 1)) with
      | true => rw [if_neg (by decide), if_pos (show i + 1 < e ∧ true = true from ⟨z, rfl⟩)]
      | false => rw [if_pos (by decide), if_neg (show ¬ (i + 1 < e ∧ false = true) from fun x => Bool.noConfusion x.2)]
    · rw [if_pos (nI_le (by omega) (by omega)), if_neg (fun x => z x.1)]
  have B : MX12_readWord_208 (sI g 81 k (nI (P + 1))) 73 v1 v2 v3 (nI 0) = some (.inl (nI 0, sI g 81 k (nI (P + 1)))) := by
    unfold MX12_readWord_208
    simp only [ZL]
    rw [if_pos trivial]
  unfold MX12_readWord_165 MX12_readWord_207
  simp only [ZL, RS.f R1]
  rw [gg_T, gg_T, q17, gg_in (by omega) (by omega), nCl (by omega), q81, pP, nAdd, lt_eq, m1, R2, q8, gg_T, m2, A, B]
  by_cases z : i < e
  · rw [if_neg (nI_ge z (by omega)), gg_in (by omega) (by omega), nCl (by omega), R3 i z]
    by_cases y : b i = 45
    · rw [if_pos (by rw [y]), if_pos (show i < e ∧ b i = 45 from ⟨z, y⟩)]
    · rw [if_neg (by rw [nEq (by have := (bb i z).2; omega) (by omega)]; exact y), if_neg (show ¬ (i < e ∧ b i = 45) from fun x => y x.2)]
  · rw [if_pos (nI_le (by omega) (by omega)), if_neg (fun x => z x.1)]
/-- the state behind a piece of a word -/
def PcE (h0 : Hp) (b : Nat → Nat) (mp mw ba e : Nat) (s0 : TX) (k i : Nat) (wd0 wd1 : Nat → Int32) (v : Int32) (g : Hp) : Prop := ∃ i' s, i ≤ i' ∧ ruT mp mw ba b s0 i' = .inr s ∧ s.1 = k ∧ s.2.2.2.1 = wd1 ∧ RTq h0 g i' k s.2.2.2.2.1 s.2.2.2.2.2.1 s.2.2.2.2.2.2.1 s.2.2.2.2.2.2.2 wd0 ∧ ((v = nI 1 ∧ i' < e ∧ lB (b i') = true ∧ s.2.1 = 0 ∧ s.2.2.1 = true) ∨ (v = nI 0 ∧ i' ≤ e ∧ 0 < s.2.1 ∧ s.2.2.1 = false ∧ (i' < e → lB (b i') = false ∧ b i' ≠ 45)))
/-- the end of a piece -/
theorem r_ex (T : RTt h0 b e) (T0 : TI mp mw ba s0) (hm : mw ≤ 40) (hmp : mp ≤ 5) (hba : ba ≤ 40) (hP : P + 1 ≤ 40) (pP : pc0 k = nI P) (ie : i ≤ e) (hr : ruT mp mw ba b s0 i = .inr s) (r1 : 0 < s.2.1) (hk : s.1 = k) (hwd : s.2.2.2.1 = wd1) (hpc : s.2.2.2.2.1 = va_up pc0 k (nI (P + 1))) (R : RTq h0 g i k pc0 s.2.2.2.2.2.1 s.2.2.2.2.2.2.1 s.2.2.2.2.2.2.2 wd0) (nl : i < e → lB (b i) = false) : (∃ g' p', MX12_readWord_165 g 73 v1 v2 v3 = some (.inr (nI 0, g')) ∧ ERq h0 g' p' ∧ enT e (ruT mp mw ba b s0 e) = p' + 1) ∨ ∃ v g', MX12_readWord_165 g 73 v1 v2 v3 = some (.inl (v, g')) ∧ PcE h0 b mp mw ba e s0 k i wd0 wd1 v g' := by
  have TS := ti_ru T0 hm hba i s hr
  have k5 : k ≤ 4 := by have := TS.1; omega
  have bf := (TS.2.2.2.2.1 r1).1
  have K := r_w165 (v1 := v1) (v2 := v2) (v3 := v3) T R k5 ie pP
  obtain ⟨F, q8, q17, q81, q78, q79, q80, q82, q9⟩ := R
  have R' : RTq h0 (sI g 81 k (nI (P + 1))) i k s.2.2.2.2.1 s.2.2.2.2.2.1 s.2.2.2.2.2.2.1 s.2.2.2.2.2.2.2 wd0 := by
    refine ⟨F.tr (fq_a (by omega) (by omega)), ?_, ?_, ?_, ?_, ?_, ?_, ?_, ?_⟩
    · rw [gI_sI, if_neg (by decide)]; exact q8
    · rw [gI_sI, if_neg (by decide)]; exact q17
    · rw [gI_sI, if_pos rfl, q81, hpc]
    · rw [gI_sI, if_neg (by decide)]; exact q78
    · rw [gI_sI, if_neg (by decide)]; exact q79
    · rw [gI_sI, if_neg (by decide)]; exact q80
    · rw [gI_sI, if_neg (by decide)]; exact q82
    · rw [gI_sI, if_neg (by decide)]; exact q9
  by_cases z : i < e ∧ b i = 45
  · rw [if_pos z] at K
    have st : ruT mp mw ba b s0 (i + 1) = .inr (tHy s) := by
      rw [ruT_s hr]
      unfold stT
      rw [nl z.1, bf, if_neg (by decide), if_neg (by decide), if_pos ⟨z.2, r1⟩]
    have R2 : RTq h0 (sI (sI g 81 k (nI (P + 1))) 73 8 (nI (i + 1))) (i + 1) k s.2.2.2.2.1 s.2.2.2.2.2.1 s.2.2.2.2.2.2.1 s.2.2.2.2.2.2.2 wd0 := by
      obtain ⟨F, q8, q17, q81, q78, q79, q80, q82, q9⟩ := R'
      refine ⟨F.tr (fq_f (by omega)), ?_, ?_, ?_, ?_, ?_, ?_, ?_, ?_⟩
      · rw [gI_sI, if_pos rfl, up_at, if_pos rfl]
      · rw [gI_sI, if_pos rfl, up_at, if_neg (by decide)]; exact q17
      · rw [gI_sI, if_neg (by decide)]; exact q81
      · rw [gI_sI, if_neg (by decide)]; exact q78
      · rw [gI_sI, if_neg (by decide)]; exact q79
      · rw [gI_sI, if_neg (by decide)]; exact q80
      · rw [gI_sI, if_neg (by decide)]; exact q82
      · rw [gI_sI, if_pos rfl, up_at, if_neg (by decide)]; exact q9
    by_cases y : i + 1 < e ∧ lB (b (i + 1)) = true
    · rw [if_pos y] at K
      exact Or.inr ⟨_, _, K, i + 1, tHy s, by omega, st, hk, hwd, R2, Or.inl ⟨rfl, y.1, y.2, rfl, rfl⟩⟩
    · rw [if_neg y] at K
      refine Or.inl ⟨_, i + 1, K, ⟨R2.1.tr (fq_f (by omega)), by rw [gI_sI, if_pos rfl, up_at, if_pos rfl]⟩, ?_⟩
      by_cases x : i + 1 < e
      · have lf : lB (b (i + 1)) = false := by
          cases c : lB (b (i + 1)) with
          | true => exact absurd ⟨x, c⟩ y
          | false => rfl
        have s2 : ruT mp mw ba b s0 (i + 1 + 1) = .inl (i + 1) := by
          rw [ruT_s st]
          unfold stT
          rw [lf, if_neg (by decide), if_pos (show (tHy s).2.2.1 = true from rfl)]
        obtain ⟨d, hd⟩ : ∃ d, e = i + 1 + 1 + d := ⟨e - (i + 1 + 1), by omega⟩
        have := ruT_e s2 d
        rw [← hd] at this
        rw [this]
        rfl
      · have ei : e = i + 1 := by omega
        subst ei
        rw [st]
        show (if (tHy s).2.2.1 = true ∨ tw (tHy s) = 0 then i + 1 + 1 else 0) = i + 1 + 1
        rw [if_pos (Or.inl (show (tHy s).2.2.1 = true from rfl))]
  · rw [if_neg z] at K
    exact Or.inr ⟨_, _, K, i, s, Nat.le_refl i, hr, hk, hwd, R', Or.inr ⟨rfl, ie, r1, bf, fun x => ⟨nl x, fun y => z ⟨x, y⟩⟩⟩⟩
/-- the letters of a piece -/
theorem r_letters (T : RTt h0 b e) (T0 : TI mp mw ba s0) (hm : mw ≤ 40) (hmp : mp ≤ 5) (hba : ba ≤ 40) (hP : P + 1 ≤ 40) (pP : pc0 k = nI P) (hp : p = 40 * k + P) : ∀ d i s g, i + d = e → ruT mp mw ba b s0 i = .inr s → 0 < s.2.1 → s.1 = k → s.2.2.2.1 = wd1 → s.2.2.2.2.1 = va_up pc0 k (nI (P + 1)) → RTq h0 g i k pc0 s.2.2.2.2.2.1 s.2.2.2.2.2.2.1 s.2.2.2.2.2.2.2 wd0 → (∃ g' p', it (fun q : Hp => BX12_readWord_63 q 73 v1 v2 v3 (nI p)) g = some (.inr (nI 0, g')) ∧ ERq h0 g' p' ∧ enT e (ruT mp mw ba b s0 e) = p' + 1) ∨ ∃ v g', it (fun q : Hp => BX12_readWord_63 q 73 v1 v2 v3 (nI p)) g = some (.inl (v, g')) ∧ PcE h0 b mp mw ba e s0 k i wd0 wd1 v g' := by
  intro d
  induction d with
  | zero =>
    intro i s g he hr r1 hk hwd hpc R
    have he : i = e := he
    have head : BX12_readWord_63 g 73 v1 v2 v3 (nI p) = up1 (MX12_readWord_165 g 73 v1 v2 v3) := by
      obtain ⟨R1, R2, R3⟩ := rt_rs T R.1
      unfold BX12_readWord_63
      rw [gg_t (RS.f R1).1, R2, R.2.1, if_pos (nI_le (by omega) (by have := T.2.2.1; omega))]
    rcases r_ex (v1 := v1) (v2 := v2) (v3 := v3) T T0 hm hmp hba hP pP (by omega) hr r1 hk hwd hpc R (fun x => by omega) with ⟨g', p', a1, a2, a3⟩ | ⟨v, g', a1, a2⟩
    · exact Or.inl ⟨g', p', it_done (by rw [head, a1]; rfl), a2, a3⟩
    · exact Or.inr ⟨v, g', it_done (by rw [head, a1]; rfl), a2⟩
  | succ d ih =>
    intro i s g he hr r1 hk hwd hpc R
    have ie : i < e := by omega
    have e400 := T.2.2.1
    obtain ⟨R1, R2, R3⟩ := rt_rs T R.1
    have bi := (T.2.2.2 i ie).2
    have TS := ti_ru T0 hm hba i s hr
    have k5 : k ≤ 4 := by have := TS.1; omega
    have r12 := TS.2.1
    have tpv : tp s = P + 1 := by
      unfold tp
      rw [hpc, hk, nnU (by omega), if_pos rfl]
    have Lp : s.2.2.2.2.2.2.1 p = nI s.2.1 := by
      have := (TS.2.2.2.2.1 r1).2
      rw [hk, tpv, show 40 * k + (P + 1) - 1 = p by omega] at this
      exact this
    cases lc : lB (b i) with
    | false =>
      have head : BX12_readWord_63 g 73 v1 v2 v3 (nI p) = up1 (MX12_readWord_165 g 73 v1 v2 v3) := by
        unfold BX12_readWord_63
        simp only [ZL, RS.f R1]
        rw [gg_T, R2, R.2.1, if_neg (nI_ge ie (by omega)), gg_T, gg_in (by omega) (by omega), nCl (by omega), R3 i ie, r_isL bi, lc, ob_some, if_pos (by decide)]
      rcases r_ex (v1 := v1) (v2 := v2) (v3 := v3) T T0 hm hmp hba hP pP (by omega) hr r1 hk hwd hpc R (fun x => lc) with ⟨g', p', a1, a2, a3⟩ | ⟨v, g', a1, a2⟩
      · exact Or.inl ⟨g', p', it_done (by rw [head, a1]; rfl), a2, a3⟩
      · exact Or.inr ⟨v, g', it_done (by rw [head, a1]; rfl), a2⟩
    | true =>
      obtain ⟨c1, c2⟩ := lB_t.mp lc
      have q79 := R.2.2.2.2.2.1
      by_cases z : s.2.1 = 12
      · obtain ⟨f1, f2⟩ := rt_flt T R
        refine Or.inl ⟨sI g 73 9 (nI i), i, it_done ?_, f1, ?_⟩
        · show BX12_readWord_63 g 73 v1 v2 v3 (nI p) = _
          have g1 : MX12_readWord_101 g 73 = some (nI 0, sI g 73 9 (nI i)) := by
            unfold MX12_readWord_101
            simp only [ZL]
            rw [gg_t (RS.f R1).1]
            exact f2
          unfold BX12_readWord_63
          simp only [ZL, RS.f R1]
          rw [gg_T, R2, R.2.1, if_neg (nI_ge ie (by omega)), gg_T, gg_in (by omega) (by omega), nCl (by omega), R3 i ie, r_isL bi, lc, ob_some, if_neg (show ¬ bI true = nI 0 by decide), gg_T, gg_in (by omega) (by omega), nCl (by omega), q79, Lp, if_pos (by rw [z]), g1]
          rfl
        · have s2 : ruT mp mw ba b s0 (i + 1) = .inl i := by
            rw [ruT_s hr]
            unfold stT
            rw [lc, if_pos rfl, if_neg (by omega), if_pos (by omega)]
          obtain ⟨d', hd⟩ : ∃ d', e = i + 1 + d' := ⟨e - (i + 1), by omega⟩
          have := ruT_e s2 d'
          rw [← hd] at this
          rw [this]
          rfl
      · have head : BX12_readWord_63 g 73 v1 v2 v3 (nI p) = some (.inl (sI (sI (sI g 80 (12 * p + s.2.1) (nI (b i - 97))) 79 p (nI (s.2.1 + 1))) 73 8 (nI (i + 1)))) := by
          have n1 : gI (sI g 80 (12 * p + s.2.1) (nI (b i - 97))) 79 = gI g 79 := by rw [gI_sI, if_neg (by decide)]
          have n2 : gI (sI (sI g 80 (12 * p + s.2.1) (nI (b i - 97))) 79 p (nI (s.2.1 + 1))) 73 = gI g 73 := by rw [gI_sI, if_neg (by decide), gI_sI, if_neg (by decide)]
          unfold BX12_readWord_63
          simp only [ZL, RS.f R1]
          rw [gg_T, R2, R.2.1, if_neg (nI_ge ie (by omega)), gg_T, gg_in (by omega) (by omega), nCl (by omega), R3 i ie, r_isL bi, lc, ob_some, if_neg (show ¬ bI true = nI 0 by decide), gg_T, gg_in (by omega) (by omega), nCl (by omega), q79, Lp, if_neg (show ¬ nI s.2.1 = nI 12 by rw [nEq (by omega) (by omega)]; exact z), nMul, nAdd, gg_T, gg_in (by omega) (by omega), nCl (by omega), nSub c1, lt_eq, lt_eq, n1, q79, Lp, nAdd, lt_eq, n2, R.2.1, nAdd]
        have st : ruT mp mw ba b s0 (i + 1) = .inr (tOn s (b i)) := by
          rw [ruT_s hr]
          unfold stT
          rw [lc, if_pos rfl, if_neg (by omega), if_neg (by omega)]
        have hst : it (fun q : Hp => BX12_readWord_63 q 73 v1 v2 v3 (nI p)) g = it (fun q : Hp => BX12_readWord_63 q 73 v1 v2 v3 (nI p)) (sI (sI (sI g 80 (12 * p + s.2.1) (nI (b i - 97))) 79 p (nI (s.2.1 + 1))) 73 8 (nI (i + 1))) := it_next head
        have pe : 40 * s.1 + tp s - 1 = p := by rw [hk, tpv]; omega
        have R' : RTq h0 (sI (sI (sI g 80 (12 * p + s.2.1) (nI (b i - 97))) 79 p (nI (s.2.1 + 1))) 73 8 (nI (i + 1))) (i + 1) k pc0 (tOn s (b i)).2.2.2.2.2.1 (tOn s (b i)).2.2.2.2.2.2.1 (tOn s (b i)).2.2.2.2.2.2.2 wd0 := by
          obtain ⟨F, q8, q17, q81, q78, q79, q80, q82, q9⟩ := R
          refine ⟨((F.tr (fq_a (by omega) (by omega))).tr (fq_a (by omega) (by omega))).tr (fq_f (by omega)), ?_, ?_, ?_, ?_, ?_, ?_, ?_, ?_⟩
          · rw [gI_sI, if_pos rfl, up_at, if_pos rfl]
          · rw [gI_sI, if_pos rfl, up_at, if_neg (by decide), gI_sI, if_neg (by decide), gI_sI, if_neg (by decide)]; exact q17
          · rw [gI_sI, if_neg (by decide), gI_sI, if_neg (by decide), gI_sI, if_neg (by decide)]; exact q81
          · rw [gI_sI, if_neg (by decide), gI_sI, if_neg (by decide), gI_sI, if_neg (by decide)]; exact q78
          · rw [gI_sI, if_neg (by decide), gI_sI, if_pos rfl, gI_sI, if_neg (by decide), q79]
            show _ = va_up s.2.2.2.2.2.2.1 (40 * s.1 + tp s - 1) (nI (s.2.1 + 1))
            rw [pe]
          · rw [gI_sI, if_neg (by decide), gI_sI, if_neg (by decide), gI_sI, if_pos rfl, q80]
            show _ = va_up s.2.2.2.2.2.2.2 (12 * (40 * s.1 + tp s - 1) + s.2.1) (nI (b i - 97))
            rw [pe]
          · rw [gI_sI, if_neg (by decide), gI_sI, if_neg (by decide), gI_sI, if_neg (by decide)]; exact q82
          · rw [gI_sI, if_pos rfl, up_at, if_neg (by decide), gI_sI, if_neg (by decide), gI_sI, if_neg (by decide)]; exact q9
        rw [hst]
        rcases ih (i + 1) (tOn s (b i)) _ (by omega) st (by show 0 < s.2.1 + 1; omega) hk hwd hpc R' with a | ⟨v, g', a1, i', s', a2, a3⟩
        · exact Or.inl a
        · exact Or.inr ⟨v, g', a1, i', s', by omega, a3⟩
end
