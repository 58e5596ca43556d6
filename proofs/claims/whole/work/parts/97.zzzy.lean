/-! copy is read: the reference, a word -/
section
variable {h0 g g1 : Hp} {b : Nat → Nat} {mp mw ba e i k p l W0 run P : Nat} {s s0 s1 : TX} {pc W Ln Lt wd pc0 wd0 wd1 : Nat → Int32} {v1 v2 v3 : Int32}
/-- the word's pieces -/
theorem r_pcs (T : RTt h0 b e) (T0 : TI mp mw ba s0) (hm : mw ≤ 40) (hmp : mp ≤ 5) (hba : ba ≤ 40) (hW : W0 + 1 ≤ mw) : ∀ n i s g, e - i ≤ n → i < e → lB (b i) = true → ruT mp mw ba b s0 i = .inr s → s.2.1 = 0 → s.1 = k → tw1 s = W0 + 1 → va_up s.2.2.2.1 k (nI (W0 + 1)) = wd1 → RTq h0 g i k s.2.2.2.2.1 s.2.2.2.2.2.1 s.2.2.2.2.2.2.1 s.2.2.2.2.2.2.2 wd0 → (∃ g' p', it (fun q : Int32 × Hp => BX12_readWord_3 q.2 73 (nI (40 * k)) (nI W0) (nI ba) q.1) (nI 1, g) = some (nI 0, g') ∧ ERq h0 g' p' ∧ enT e (ruT mp mw ba b s0 e) = p' + 1) ∨ ∃ g' i' s', it (fun q : Int32 × Hp => BX12_readWord_3 q.2 73 (nI (40 * k)) (nI W0) (nI ba) q.1) (nI 1, g) = some (nI 1, g') ∧ i < i' ∧ i' ≤ e ∧ ruT mp mw ba b s0 i' = .inr s' ∧ s'.1 = k ∧ s'.2.2.2.1 = wd1 ∧ 0 < s'.2.1 ∧ s'.2.2.1 = false ∧ (i' < e → lB (b i') = false ∧ b i' ≠ 45) ∧ RTq h0 g' i' k s'.2.2.2.2.1 s'.2.2.2.2.2.1 s'.2.2.2.2.2.2.1 s'.2.2.2.2.2.2.2 wd0 := by
  intro n
  induction n with
  | zero =>
    intro i s g hn hi
    omega
  | succ n ih =>
    intro i s g hn ie lc hr r0 hk hw hwd R
    have e400 := T.2.2.1
    obtain ⟨R1, R2, R3⟩ := rt_rs T R.1
    have bi := (T.2.2.2 i ie).2
    have TS := ti_ru T0 hm hba i s hr
    have k5 : k ≤ 4 := by have := TS.1; omega
    obtain ⟨eP, P40⟩ := (TS.2.2.1 s.1 (Nat.le_refl _)).2.eq (by omega)
    have tb : tp s + ba ≤ 40 := TS.2.2.2.1
    obtain ⟨P, hP⟩ : ∃ P, P = tp s := ⟨_, rfl⟩
    have eP : s.2.2.2.2.1 k = nI P := by rw [← hk, hP]; exact eP
    rw [← hP] at tb
    obtain ⟨F, q8, q17, q81, q78, q79, q80, q82, q9⟩ := id R
    by_cases z : ba + P = 40
    · obtain ⟨f1, f2⟩ := rt_flt T R
      refine Or.inl ⟨sI g 73 9 (nI i), i, it_done ?_, f1, ?_⟩
      · show BX12_readWord_3 g 73 (nI (40 * k)) (nI W0) (nI ba) (nI 1) = _
        have g1 : MX12_readWord_37 g 73 = some (nI 0, sI g 73 9 (nI i)) := by
          unfold MX12_readWord_37
          simp only [ZL]
          rw [gg_t (RS.f R1).1]
          exact f2
        unfold BX12_readWord_3
        simp only [ZL, RS.f R1]
        rw [if_neg (by decide), gg_T, gg_T, q17, gg_in (by omega) (by omega), nCl (by omega), q81, eP, nAdd, if_pos (by rw [z]), g1]
        rfl
      · have s2 : ruT mp mw ba b s0 (i + 1) = .inl i := by
          rw [ruT_s hr]
          unfold stT
          rw [lc, if_pos rfl, if_pos r0, if_pos (by rw [← hP]; omega)]
        obtain ⟨d', hd⟩ : ∃ d', e = i + 1 + d' := ⟨e - (i + 1), by omega⟩
        have := ruT_e s2 d'
        rw [← hd] at this
        rw [this]
        rfl
    · obtain ⟨c1, c2⟩ := lB_t.mp lc
      obtain ⟨p, hp⟩ : ∃ p, p = 40 * k + P := ⟨_, rfl⟩
      have st : ruT mp mw ba b s0 (i + 1) = .inr (tNew s (b i)) := by
        rw [ruT_s hr]
        unfold stT
        rw [lc, if_pos rfl, if_pos r0, if_neg (by rw [← hP]; omega)]
      have head : BX12_readWord_3 g 73 (nI (40 * k)) (nI W0) (nI ba) (nI 1) = MX12_readWord_63 (sI (sI g 78 p (nI W0)) 79 p (nI 0)) 73 (nI (40 * k)) (nI W0) (nI ba) (nI p) := by
        have n1 : gI (sI g 78 p (nI W0)) 73 = gI g 73 := by rw [gI_sI, if_neg (by decide)]
        have n2 : gI (sI g 78 p (nI W0)) 81 = gI g 81 := by rw [gI_sI, if_neg (by decide)]
        unfold BX12_readWord_3
        simp only [ZL, RS.f R1]
        rw [if_neg (by decide), gg_T, gg_T, q17, gg_in (by omega) (by omega), nCl (by omega), q81, eP, nAdd, if_neg (show ¬ nI (ba + P) = nI 40 by rw [nEq (by omega) (by omega)]; exact z), gg_T, nAdd, ← hp, gg_in (by omega) (by omega), nCl (by omega), lt_eq, gg_T, gg_in (by omega) (by omega), lt_eq]
      obtain ⟨g2, hg2⟩ : ∃ g2, g2 = sI (sI g 78 p (nI W0)) 79 p (nI 0) := ⟨_, rfl⟩
      have m1 : gI g2 73 = gI g 73 := by rw [hg2, gI_sI, if_neg (by decide), gI_sI, if_neg (by decide)]
      have m2 : gI g2 77 = gI g 77 := by rw [hg2, gI_sI, if_neg (by decide), gI_sI, if_neg (by decide)]
      have m3 : gI g2 79 p = nI 0 := by rw [hg2, gI_sI, if_pos rfl, up_at, if_pos rfl]
      have F2 : FQ h0 g2 := by
        rw [hg2]
        exact (F.tr (fq_a (by omega) (by omega))).tr (fq_a (by omega) (by omega))
      obtain ⟨S1, -, -⟩ := rt_rs T F2
      have stp : BX12_readWord_63 g2 73 (nI (40 * k)) (nI W0) (nI ba) (nI p) = some (.inl (sI (sI (sI g2 80 (12 * p) (nI (b i - 97))) 79 p (nI 1)) 73 8 (nI (i + 1)))) := by
        have n1 : gI (sI g2 80 (12 * p) (nI (b i - 97))) 79 = gI g2 79 := by rw [gI_sI, if_neg (by decide)]
        have n2 : gI (sI (sI g2 80 (12 * p) (nI (b i - 97))) 79 p (nI 1)) 73 = gI g2 73 := by rw [gI_sI, if_neg (by decide), gI_sI, if_neg (by decide)]
        unfold BX12_readWord_63
        simp only [ZL, RS.f S1]
        rw [gg_T, m1, R2, q8, if_neg (nI_ge ie (by omega)), gg_T, gg_in (by omega) (by omega), nCl (by omega), m2, R3 i ie, r_isL bi, lc, ob_some, if_neg (show ¬ bI true = nI 0 by decide), gg_T, gg_in (by omega) (by omega), nCl (by omega), m3, if_neg (show ¬ nI 0 = nI 12 by decide), nMul, nAdd, gg_T, Nat.add_zero, gg_in (by omega) (by omega), nCl (by omega), nSub c1, lt_eq, lt_eq, n1, m3, nAdd, Nat.zero_add, lt_eq, n2, m1, q8, nAdd]
      have e1 : (tNew s (b i)).2.2.2.1 = wd1 := by
        show va_up s.2.2.2.1 s.1 (nI (tw1 s)) = wd1
        rw [hk, hw]; exact hwd
      have e2 : (tNew s (b i)).2.2.2.2.1 = va_up s.2.2.2.2.1 k (nI (P + 1)) := by
        show va_up s.2.2.2.2.1 s.1 (nI (tp s + 1)) = _
        rw [hk, hP]
      have R' : RTq h0 (sI (sI (sI g2 80 (12 * p) (nI (b i - 97))) 79 p (nI 1)) 73 8 (nI (i + 1))) (i + 1) k s.2.2.2.2.1 (tNew s (b i)).2.2.2.2.2.1 (tNew s (b i)).2.2.2.2.2.2.1 (tNew s (b i)).2.2.2.2.2.2.2 wd0 := by
        refine ⟨((F2.tr (fq_a (by omega) (by omega))).tr (fq_a (by omega) (by omega))).tr (fq_f (by omega)), ?_, ?_, ?_, ?_, ?_, ?_, ?_, ?_⟩
        · rw [gI_sI, if_pos rfl, up_at, if_pos rfl]
        · rw [gI_sI, if_pos rfl, up_at, if_neg (by decide), gI_sI, if_neg (by decide), gI_sI, if_neg (by decide), m1]; exact q17
        · rw [gI_sI, if_neg (by decide), gI_sI, if_neg (by decide), gI_sI, if_neg (by decide), hg2, gI_sI, if_neg (by decide), gI_sI, if_neg (by decide)]; exact q81
        · rw [gI_sI, if_neg (by decide), gI_sI, if_neg (by decide), gI_sI, if_neg (by decide), hg2, gI_sI, if_neg (by decide), gI_sI, if_pos rfl, q78]
          show _ = va_up s.2.2.2.2.2.1 (40 * s.1 + tp s) (nI (tw1 s - 1))
          rw [hk, ← hP, ← hp, hw, Nat.add_sub_cancel]
        · rw [gI_sI, if_neg (by decide), gI_sI, if_pos rfl, gI_sI, if_neg (by decide), hg2, gI_sI, if_pos rfl, up_up, gI_sI, if_neg (by decide), q79]
          show _ = va_up s.2.2.2.2.2.2.1 (40 * s.1 + tp s) (nI 1)
          rw [hk, ← hP, ← hp]
        · rw [gI_sI, if_neg (by decide), gI_sI, if_neg (by decide), gI_sI, if_pos rfl, hg2, gI_sI, if_neg (by decide), gI_sI, if_neg (by decide), q80]
          show _ = va_up s.2.2.2.2.2.2.2 (12 * (40 * s.1 + tp s)) (nI (b i - 97))
          rw [hk, ← hP, ← hp]
        · rw [gI_sI, if_neg (by decide), gI_sI, if_neg (by decide), gI_sI, if_neg (by decide), hg2, gI_sI, if_neg (by decide), gI_sI, if_neg (by decide)]; exact q82
        · rw [gI_sI, if_pos rfl, up_at, if_neg (by decide), gI_sI, if_neg (by decide), gI_sI, if_neg (by decide), m1]; exact q9
      have lt1 := r_letters (v1 := nI (40 * k)) (v2 := nI W0) (v3 := nI ba) T T0 hm hmp hba (by omega) eP hp (e - (i + 1)) (i + 1) (tNew s (b i)) _ (by omega) st (by show 0 < 1; omega) hk e1 e2 R'
      rw [← it_next (s := g2) (f := fun q : Hp => BX12_readWord_63 q 73 (nI (40 * k)) (nI W0) (nI ba) (nI p)) stp] at lt1
      rw [← hg2] at head
      rcases lt1 with ⟨g', p', a1, a2, a3⟩ | ⟨v, g', a1, i', s', a2, a3, a4, a5, a6, a7⟩
      · refine Or.inl ⟨g', p', it_done (r := (nI 0, g')) ?_, a2, a3⟩
        show BX12_readWord_3 g 73 (nI (40 * k)) (nI W0) (nI ba) (nI 1) = _
        rw [head]
        exact a1
      · have nx : it (fun q : Int32 × Hp => BX12_readWord_3 q.2 73 (nI (40 * k)) (nI W0) (nI ba) q.1) (nI 1, g) = it (fun q : Int32 × Hp => BX12_readWord_3 q.2 73 (nI (40 * k)) (nI W0) (nI ba) q.1) (v, g') := it_next (s' := (v, g')) (by
          show BX12_readWord_3 g 73 (nI (40 * k)) (nI W0) (nI ba) (nI 1) = _
          rw [head]
          exact a1)
        rw [nx]
        rcases a7 with ⟨v1', x1, x2, x3, x4⟩ | ⟨v0', x1, x2, x3, x4⟩
        · subst v1'
          have wv : tw s' = W0 + 1 := by
            unfold tw
            rw [a5, a4, ← hwd, nnU (by omega), if_pos rfl]
          rcases ih i' s' g' (by omega) x1 x2 a3 x3 a4 (by unfold tw1; rw [wv, x4, if_pos rfl]) (by rw [a5, ← hwd, up_up]) a6 with y | ⟨g3, i3, s3, y1, y2, y3⟩
          · exact Or.inl y
          · exact Or.inr ⟨g3, i3, s3, y1, by omega, y3⟩
        · subst v0'
          refine Or.inr ⟨g', i', s', it_done ?_, by omega, x1, a3, a4, a5, x2, x3, x4, a6⟩
          show BX12_readWord_3 g' 73 (nI (40 * k)) (nI W0) (nI ba) (nI 0) = _
          unfold BX12_readWord_3
          simp only [ZL]
          rw [if_pos trivial]
/-- blanks -/
theorem r_bls (T : RTt h0 b e) : ∀ n i g, e - i ≤ n → i ≤ e → RTq h0 g i k pc W Ln Lt wd → ∃ i' g', MX12_blanks g 73 = some g' ∧ i ≤ i' ∧ i' ≤ e ∧ (∀ j, i ≤ j → j < i' → b j = 32) ∧ (i' < e → b i' ≠ 32) ∧ RTq h0 g' i' k pc W Ln Lt wd := by
  have e400 := T.2.2.1
  intro n
  induction n with
  | zero =>
    intro i g hn ie R
    obtain ⟨R1, R2, R3⟩ := rt_rs T R.1
    refine ⟨i, g, ?_, Nat.le_refl i, ie, fun j _ _ => by omega, fun x => by omega, R⟩
    unfold MX12_blanks MX12_blanks_0
    refine it_done ?_
    unfold BX12_blanks_0
    rw [gg_t (RS.f R1).1, R2, R.2.1, if_pos (nI_le (by omega) (by omega))]
  | succ n ih =>
    intro i g hn ie R
    obtain ⟨R1, R2, R3⟩ := rt_rs T R.1
    by_cases z : i < e
    · have bi := (T.2.2.2 i z).2
      by_cases y : b i = 32
      · have R' : RTq h0 (sI g 73 8 (nI (i + 1))) (i + 1) k pc W Ln Lt wd := by
          obtain ⟨F, q8, q17, q81, q78, q79, q80, q82, q9⟩ := R
          refine ⟨F.tr (fq_f (by omega)), ?_, ?_, ?_, ?_, ?_, ?_, ?_, ?_⟩
          · rw [gI_sI, if_pos rfl, up_at, if_pos rfl]
          · rw [gI_sI, if_pos rfl, up_at, if_neg (by decide)]; exact q17
          · rw [gI_sI, if_neg (by decide)]; exact q81
          · rw [gI_sI, if_neg (by decide)]; exact q78
          · rw [gI_sI, if_neg (by decide)]; exact q79
          · rw [gI_sI, if_neg (by decide)]; exact q80
          · rw [gI_sI, if_neg (by decide)]; exact q82
          · rw [gI_sI, if_pos rfl, up_at, if_neg (by decide)]; exact q9
        obtain ⟨i', g', a1, a2, a3, a4, a5, a6⟩ := ih (i + 1) _ (by omega) (by omega) R'
        refine ⟨i', g', ?_, by omega, a3, fun j h1 h2 => ?_, a5, a6⟩
        · unfold MX12_blanks MX12_blanks_0 at a1 ⊢
          rw [it_next (s' := sI g 73 8 (nI (i + 1)))]
          · exact a1
          · unfold BX12_blanks_0
            simp only [ZL, RS.f R1]
            rw [gg_T, R2, R.2.1, if_neg (nI_ge z (by omega)), gg_T, gg_in (by omega) (by omega), nCl (by omega), R3 i z, if_pos (by rw [y]), nAdd, lt_eq]
        · by_cases x : j = i
          · rw [x]; exact y
          · exact a4 j (by omega) h2
      · refine ⟨i, g, ?_, Nat.le_refl i, ie, fun j _ _ => by omega, fun _ => y, R⟩
        unfold MX12_blanks MX12_blanks_0
        refine it_done ?_
        unfold BX12_blanks_0
        simp only [ZL, RS.f R1]
        rw [gg_T, R2, R.2.1, if_neg (nI_ge z (by omega)), gg_T, gg_in (by omega) (by omega), nCl (by omega), R3 i z, if_neg (by rw [nEq (by omega) (by omega)]; exact y)]
    · refine ⟨i, g, ?_, Nat.le_refl i, ie, fun j _ _ => by omega, fun x => absurd x z, R⟩
      unfold MX12_blanks MX12_blanks_0
      refine it_done ?_
      unfold BX12_blanks_0
      rw [gg_t (RS.f R1).1, R2, R.2.1, if_pos (nI_le (by omega) (by omega))]
/-- blanks, the picture -/
theorem ru_bl (hb : s.2.2.1 = false) (hr : ruT mp mw ba b s0 i = .inr s) : ∀ d, (∀ j, i ≤ j → j < i + d → b j = 32) → ∃ s', ruT mp mw ba b s0 (i + d) = .inr s' ∧ s'.2.2.1 = false ∧ s'.1 = s.1 ∧ s'.2.2.2 = s.2.2.2 ∧ (d = 0 → s' = s) ∧ (0 < d → s'.2.1 = 0)
  | 0, _ => ⟨s, hr, hb, rfl, rfl, fun _ => rfl, fun x => absurd x (Nat.lt_irrefl 0)⟩
  | d + 1, h => by
    obtain ⟨s', a1, a2, a3, a4, -, -⟩ := ru_bl hb hr d (fun j h1 h2 => h j h1 (by omega))
    have b32 := h (i + d) (by omega) (by omega)
    refine ⟨tBl s', ?_, rfl, a3, a4, fun x => by omega, fun _ => rfl⟩
    rw [show i + (d + 1) = (i + d) + 1 by omega, ruT_s a1]
    unfold stT
    rw [b32, a2, if_neg (by decide), if_neg (by decide), if_neg (show ¬ ((32 : Nat) = 45 ∧ 0 < s'.2.1) by omega), if_neg (show ¬ ((32 : Nat) = 47 ∧ 0 < tw s' ∧ s'.1 + 1 < mp) by omega), if_pos rfl]
end
