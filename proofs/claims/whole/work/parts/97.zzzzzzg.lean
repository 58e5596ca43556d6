/-! style: the reference reads blanks, words, numbers -/
/-- what the reference reads -/
def TR (g : Hp) (b : Nat → Nat) (e : Nat) : Prop := RS g ∧ gI g 73 7 = nI e ∧ e ≤ 400 ∧ ∀ j, j < e → gI g 77 j = nI (b j) ∧ b j ≤ 255
section
variable {g : Hp} {b : Nat → Nat} {e a k c lo hi i : Nat} {v : Int32}
theorem TR.s (T : TR g b e) (h : i ≠ 7) : TR (sI g 73 i v) b e := by
  obtain ⟨t1, t2, t3, t4⟩ := T
  refine ⟨t1.sI, ?_, t3, fun j hj => ?_⟩
  · rw [gI_sI, if_pos rfl, up_at, if_neg (fun e => h e.symm)]; exact t2
  · rw [gI_sI, if_neg (by decide)]; exact t4 j hj
theorem TR.d (T : TR g b e) : TR (sI g 83 i v) b e := by
  obtain ⟨t1, t2, t3, t4⟩ := T
  refine ⟨t1.sI, ?_, t3, fun j hj => ?_⟩
  · rw [gI_sI, if_neg (by decide)]; exact t2
  · rw [gI_sI, if_neg (by decide)]; exact t4 j hj
theorem at8 : gI (sI g 73 8 v) 73 8 = v := by rw [gI_sI, if_pos rfl, up_at, if_pos rfl]
theorem r_bk (T : TR g b e) (ha : gI g 73 8 = nI a) (ae : a ≤ e) : MX12_blanks g 73 = some (sI g 73 8 (nI (ik b e a))) := by
  have K : ∀ d a g, a + d = e → TR g b e → gI g 73 8 = nI a → it (fun q : Hp => BX12_blanks_0 q 73) g = some (sI g 73 8 (nI (ik b e a))) := fun d => by
    induction d with
    | zero =>
      intro a g hd T ha
      have hd : a = e := hd
      subst hd
      obtain ⟨t1, t2, t3, t4⟩ := T
      rw [ik_e, sI_id ha]
      refine it_done ?_
      unfold BX12_blanks_0
      rw [gg_t (RS.f t1).1, t2, ha, if_pos (nI_le (Nat.le_refl _) (by omega))]
    | succ d ih =>
      intro a g hd T ha
      obtain ⟨t1, t2, t3, t4⟩ := id T
      have st : BX12_blanks_0 g 73 = if b a = 32 then some (.inl (sI g 73 8 (nI (a + 1)))) else some (.inr g) := by
        unfold BX12_blanks_0
        simp only [ZL, RS.f t1]
        rw [gg_T, t2, ha, if_neg (nI_ge (by omega) (by omega)), gg_T, gg_in (by omega) (by omega), nCl (by omega), (t4 a (by omega)).1, nAdd, lt_eq]
        have c2 := (t4 a (by omega)).2
        by_cases y : b a = 32
        · rw [if_pos (by rw [y]), if_pos y]
        · rw [if_neg (by rw [nEq (by omega) (by omega)]; exact y), if_neg y]
      by_cases y : b a = 32
      · rw [if_pos y] at st
        rw [it_next (s' := sI g 73 8 (nI (a + 1))) st, ih (a + 1) _ (by omega) (T.s (by omega)) at8, sI_sI, ik_s (by omega) y]
      · rw [if_neg y] at st
        rw [it_done st, ik_n (by omega) y, sI_id ha]
  unfold MX12_blanks MX12_blanks_0
  exact K (e - a) a g (by omega) T ha
theorem r_tkW (T : TR g b e) (ha : gI g 73 8 = nI a) (ae : a ≤ e) (hk : k < 21) : MX12_takes g 73 k = some (bI (wdB b e k (ik b e a)), sI g 73 8 (nI (if wdB b e k (ik b e a) = true then ik b e a + sN k else ik b e a))) := by
  obtain ⟨j1, j2⟩ := ik_le (b := b) ae
  obtain ⟨s1, s2⟩ := sN_b k hk
  obtain ⟨g4, hg4⟩ : ∃ g4, g4 = sI g 73 8 (nI (ik b e a)) := ⟨_, rfl⟩
  have T4 : TR g4 b e := by rw [hg4]; exact T.s (by omega)
  have a8 : gI g4 73 8 = nI (ik b e a) := by rw [hg4]; exact at8
  have bk := r_bk T ha ae
  obtain ⟨j, hj⟩ : ∃ j, j = ik b e a := ⟨_, rfl⟩
  rw [← hj] at a8 j1 j2 hg4 bk ⊢
  rw [← hg4] at bk
  obtain ⟨t1, t2, t3, t4⟩ := T4
  have bt : Nat.blt k 21 = true := by rw [Nat.blt_eq]; exact hk
  -- the end of the letters
  have we : ∃ x, MX12_wordEnd g4 73 = some (nI (j + x)) ∧ j + x ≤ e ∧ (∀ i, i < x → lB (b (j + i)) = true) ∧ (j + x < e → lB (b (j + x)) = false) := by
    have K : ∀ d x, j + x + d = e → (∀ i, i < x → lB (b (j + i)) = true) → ∃ x, it (fun q : Int32 => BX12_wordEnd_5 g4 73 q) (nI (j + x)) = some (nI (j + x)) ∨ True := fun d x _ _ => ⟨x, Or.inr trivial⟩
    have K : ∀ d x, j + x + d = e → (∀ i, i < x → lB (b (j + i)) = true) → ∃ y, it (fun q : Int32 => BX12_wordEnd_5 g4 73 q) (nI (j + x)) = some (nI (j + y)) ∧ j + y ≤ e ∧ (∀ i, i < y → lB (b (j + i)) = true) ∧ (j + y < e → lB (b (j + y)) = false) := fun d => by
      induction d with
      | zero =>
        intro x hx al
        have hx : j + x = e := hx
        refine ⟨x, it_done ?_, by omega, al, fun w => by omega⟩
        unfold BX12_wordEnd_5
        rw [gg_t (RS.f t1).1, t2, if_pos (nI_le (by omega) (by omega))]
      | succ d ih =>
        intro x hx al
        obtain ⟨c1, c2⟩ := t4 (j + x) (by omega)
        have st : BX12_wordEnd_5 g4 73 (nI (j + x)) = if lB (b (j + x)) = true then some (.inl (nI (j + (x + 1)))) else some (.inr (nI (j + x))) := by
          unfold BX12_wordEnd_5
          simp only [ZL, RS.f t1]
          rw [gg_T, t2, if_neg (nI_ge (by omega) (by omega)), gg_T, gg_in (by omega) (by omega), nCl (by omega), c1, r_isL c2, ob_some, nAdd]
          cases lB (b (j + x)) with
          | true => rw [if_neg (show ¬ bI true = nI 0 by decide), if_pos rfl]; rfl
          | false => rw [if_pos (show bI false = nI 0 from rfl), if_neg (by decide)]
        cases lb : lB (b (j + x)) with
        | true =>
          rw [lb, if_pos rfl] at st
          obtain ⟨y, k1, k2⟩ := ih (x + 1) (by omega) (fun i hi => by
            by_cases w : i = x
            · rw [w]; exact lb
            · exact al i (by omega))
          exact ⟨y, by rw [it_next (s' := nI (j + (x + 1))) st]; exact k1, k2⟩
        | false =>
          rw [lb, if_neg (by decide)] at st
          exact ⟨x, it_done st, by omega, al, fun _ => lb⟩
    obtain ⟨y, k1, k2⟩ := K (e - j) 0 (by omega) (fun i hi => absurd hi (by omega))
    refine ⟨y, ?_, k2⟩
    unfold MX12_wordEnd MX12_wordEnd_5
    rw [gg_t (RS.f t1).1, a8]
    exact k1
  obtain ⟨x, w1, w2, w3, w4⟩ := we
  -- the letters, with the mark
  have m0 : ∀ y, y ≤ sN k → it (fun s : Int32 × Int32 => BX12_takes_28 g4 73 k s.1 s.2) (nI 0, nI y) = some (nI 0, g4) := fun y hy => by
    refine it_u1 (X := MX12_takes_71 g4 73 k (nI 0)) ?_ |>.trans ?_
    · show BX12_takes_28 g4 73 k (nI 0) (nI y) = _
      unfold BX12_takes_28
      simp only [ZL]
      rw [gg_t bt]
      unfold sLen
      by_cases c : sN k ≤ y
      · rw [if_pos (nI_le c (by omega))]
      · rw [if_neg (nI_ge (by omega) (by omega)), if_pos trivial]
    · unfold MX12_takes_71
      simp only [ZL]
      rw [if_pos trivial, gg_t (of_eq_true zk0)]
  have m1 : j + sN k ≤ e → it (fun s : Int32 × Int32 => BX12_takes_28 g4 73 k s.1 s.2) (nI 1, nI 0) = if (∀ i, i < sN k → b (j + i) = wcN k i) then some (nI 1, sI g4 73 8 (nI (j + sN k))) else some (nI 0, g4) := fun hle => by
    have K : ∀ d y, y + d = sN k → (∀ i, i < y → b (j + i) = wcN k i) → it (fun s : Int32 × Int32 => BX12_takes_28 g4 73 k s.1 s.2) (nI 1, nI y) = if (∀ i, i < sN k → b (j + i) = wcN k i) then some (nI 1, sI g4 73 8 (nI (j + sN k))) else some (nI 0, g4) := fun d => by
      induction d with
      | zero =>
        intro y hy al
        have hy : y = sN k := hy
        subst hy
        rw [if_pos al]
        have u1 : BX12_takes_28 g4 73 k (nI 1) (nI (sN k)) = up1 (MX12_takes_71 g4 73 k (nI 1)) := by
          unfold BX12_takes_28
          simp only [ZL]
          rw [gg_t bt]
          unfold sLen
          rw [if_pos (nI_le (Nat.le_refl _) (by omega))]
        rw [it_u1 u1]
        unfold MX12_takes_71
        simp only [ZL]
        rw [if_neg (by decide), gg_t (RS.f t1).1, gg_t bt, a8]
        unfold sLen
        rw [nAdd, lt_eq, gg_t (of_eq_true zk1)]
      | succ d ih =>
        intro y hy al
        obtain ⟨c1, c2⟩ := t4 (j + y) (by omega)
        obtain ⟨q1, q2, q3⟩ := wcN_b k hk y (by omega)
        have st : BX12_takes_28 g4 73 k (nI 1) (nI y) = if b (j + y) = wcN k y then some (.inl (nI 1, nI (y + 1))) else some (.inl (nI 0, nI (y + 1))) := by
          unfold BX12_takes_28 MX12_takes_64
          simp only [ZL, RS.f t1]
          rw [gg_t bt]
          unfold sLen
          rw [if_neg (nI_ge (by omega) (by omega)), if_neg (by decide), gg_T, gg_T, a8, nAdd, gg_in (by omega) (by omega), gg_in (by omega) (by omega), nCl (by omega), c1, q1, nAdd]
          by_cases z : b (j + y) = wcN k y
          · rw [if_pos (by rw [z]), if_pos z]
          · rw [if_neg (by rw [nEq (by omega) (by omega)]; exact z), if_neg z]
        by_cases z : b (j + y) = wcN k y
        · rw [if_pos z] at st
          rw [it_next (s' := (nI 1, nI (y + 1))) st]
          exact ih (y + 1) (by omega) (fun i hi => by
            by_cases w : i = y
            · rw [w]; exact z
            · exact al i (by omega))
        · rw [if_neg z] at st
          rw [it_next (s' := (nI 0, nI (y + 1))) st, m0 (y + 1) (by omega), if_neg (fun w => z (w y (by omega)))]
    exact K (sN k) 0 (Nat.zero_add _) (fun i hi => absurd hi (by omega))
  have pre : MX12_takes g 73 k = if x = sN k then it (fun s : Int32 × Int32 => BX12_takes_28 g4 73 k s.1 s.2) (nI 1, nI 0) else it (fun s : Int32 × Int32 => BX12_takes_28 g4 73 k s.1 s.2) (nI 0, nI 0) := by
    unfold MX12_takes MX12_takes_25 MX12_takes_28
    simp only [ZL]
    rw [gg_t (RS.f T.1).1, bk, ob_some, gg_t (RS.f t1).1, w1, ob_some, gg_t bt, a8, nSub (by omega), show j + x - j = x by omega]
    unfold sLen
    by_cases z : x = sN k
    · rw [if_pos (by rw [z]), if_pos z]
    · rw [if_neg (by rw [nEq (by omega) (by omega)]; exact z), if_neg z]
  rw [pre]
  by_cases w : WdP b e k j
  · obtain ⟨d1, d2, d3⟩ := id w
    have lt : ∀ i, i < sN k → lB (b (j + i)) = true := fun i hi => by
      obtain ⟨-, q2, q3⟩ := wcN_b k hk i hi
      rw [d2 i hi, lB_t]
      omega
    have xs : x = sN k := by
      by_cases z : x < sN k
      · have := w4 (by omega)
        rw [lt x z] at this
        cases this
      · by_cases y : sN k < x
        · have := w3 (sN k) y
          rw [d3 (by omega)] at this
          cases this
        · omega
    rw [if_pos xs, m1 d1, if_pos d2, wd_t w, if_pos rfl, hg4, sI_sI]
    rfl
  · rw [wd_f w, if_neg (show ¬ (false = true) by decide), ← hg4]
    by_cases xs : x = sN k
    · rw [if_pos xs, m1 (by omega), if_neg (fun v => w ⟨by omega, v, fun u => by rw [← xs] at u ⊢; exact w4 u⟩)]
      rfl
    · rw [if_neg xs, m0 0 (Nat.zero_le _)]
      rfl
theorem r_tkN (T : TR g b e) (ha : gI g 73 8 = nI a) (ae : a ≤ e) (hlo : lo < 10000) (hhi : hi < 10000) : ∃ g', MX12_readNumber g 73 (nI lo) (nI hi) = some (match nmP b e lo hi a with | .inl _ => nI 0 | .inr _ => nI 1, g') ∧ Fr (fun y => y = 73) g g' ∧ (∀ j, j ≠ 8 → j ≠ 9 → j ≠ 11 → gI g' 73 j = gI g 73 j) ∧ (match nmP b e lo hi a with | .inl j => gI g' 73 9 = nI j | .inr (j, v) => gI g' 73 9 = gI g 73 9 ∧ gI g' 73 8 = nI j ∧ gI g' 73 11 = nI v) := by
  obtain ⟨j1, j2⟩ := ik_le (b := b) ae
  obtain ⟨g4, hg4⟩ : ∃ g4, g4 = sI g 73 8 (nI (ik b e a)) := ⟨_, rfl⟩
  have T4 : TR g4 b e := by rw [hg4]; exact T.s (by omega)
  have a8 : gI g4 73 8 = nI (ik b e a) := by rw [hg4]; exact at8
  have bk := r_bk T ha ae
  unfold nmP
  obtain ⟨j, hj⟩ : ∃ j, j = ik b e a := ⟨_, rfl⟩
  rw [← hj] at a8 j1 j2 hg4 bk ⊢
  rw [← hg4] at bk
  obtain ⟨n, hn⟩ : ∃ n, n = dg b e j := ⟨_, rfl⟩
  have nle := dg_le (b := b) j2
  have nd : ∀ x, x < n → 48 ≤ b (j + x) ∧ b (j + x) ≤ 57 := fun x hx => dgF_d (e - j) j x (by rw [hn] at hx; exact hx)
  have nn : j + n < e → ¬ (48 ≤ b (j + n) ∧ b (j + n) ≤ 57) := fun hx => by
    have := dgF_n (b := b) (e - j) j (by rw [hn] at hx; unfold dg at hx; omega)
    rw [hn]
    exact this
  rw [← hn] at nle ⊢
  -- what the heap is behind x digits
  have K : ∀ d x z, x + d = n → Fr (fun y => y = 73) g4 z → (∀ i, i ≠ 8 → i ≠ 11 → gI z 73 i = gI g4 73 i) → gI z 73 8 = nI (j + x) → (x ≤ 4 → gI z 73 11 = nI (vlF b j x)) → ∃ z', it (fun q : Hp => BX12_readNumber_14 q 73 (nI lo) (nI hi) (nI j)) z = MX12_readNumber_100 z' 73 (nI lo) (nI hi) (nI j) ∧ Fr (fun y => y = 73) g4 z' ∧ (∀ i, i ≠ 8 → i ≠ 11 → gI z' 73 i = gI g4 73 i) ∧ gI z' 73 8 = nI (j + n) ∧ (n ≤ 4 → gI z' 73 11 = nI (vlF b j n)) := fun d => by
    induction d with
    | zero =>
      intro x z hx F A A8 A11
      have hx : x = n := hx
      subst hx
      have T3 := T4.2.2.1
      have R1 : RS z := T4.1.fr F
      have e7 : gI z 73 7 = nI e := by rw [A 7 (by omega) (by omega)]; exact T4.2.1
      refine ⟨z, it_u1 ?_, F, A, A8, A11⟩
      unfold BX12_readNumber_14
      simp only [ZL, RS.f R1]
      rw [gg_T, e7, A8]
      by_cases y : e ≤ j + x
      · rw [if_pos (nI_le y (by omega))]
      · obtain ⟨c1, c2⟩ := T4.2.2.2 (j + x) (by omega)
        have e77 : gI z 77 (j + x) = nI (b (j + x)) := by rw [F.2.2.2.2.2.2 77 (by decide)]; exact c1
        have nd' := nn (by omega)
        rw [if_neg (nI_ge (by omega) (by omega)), gg_T, gg_in (by omega) (by omega), nCl (by omega), e77]
        by_cases w : b (j + x) < 48
        · rw [if_pos (nI_lt w (by omega))]
        · rw [if_neg (nI_nlt (by omega) (by omega)), if_pos (nI_lt (by omega) (by omega))]
    | succ d ih =>
      intro x z hx F A A8 A11
      have T3 := T4.2.2.1
      have R1 : RS z := T4.1.fr F
      have e7 : gI z 73 7 = nI e := by rw [A 7 (by omega) (by omega)]; exact T4.2.1
      obtain ⟨c1, c2⟩ := T4.2.2.2 (j + x) (by omega)
      have e77 : gI z 77 (j + x) = nI (b (j + x)) := by rw [F.2.2.2.2.2.2 77 (by decide)]; exact c1
      obtain ⟨d1, d2⟩ := nd x (by omega)
      by_cases y : 4 ≤ x
      · have st : BX12_readNumber_14 z 73 (nI lo) (nI hi) (nI j) = some (.inl (sI z 73 8 (nI (j + (x + 1))))) := by
          unfold BX12_readNumber_14 MX12_readNumber_87
          simp only [ZL, RS.f R1]
          rw [gg_T, e7, A8, if_neg (nI_ge (by omega) (by omega)), gg_T, gg_in (by omega) (by omega), nCl (by omega), e77, if_neg (nI_nlt (by omega) (by omega)), if_neg (nI_nlt (by omega) (by omega)), nSub (by omega), show j + x - j = x by omega, if_pos (nI_le y (by omega)), gg_T, nAdd, lt_eq]
          rfl
        obtain ⟨z', k1, k2⟩ := ih (x + 1) (sI z 73 8 (nI (j + (x + 1)))) (by omega) (F.trans (Fr.sI (S := fun y => y = 73) rfl)) (fun i h1 h2 => by rw [gI_sI, if_pos rfl, up_at, if_neg h1]; exact A i h1 h2) at8 (fun h => by omega)
        exact ⟨z', by rw [it_next (s' := sI z 73 8 (nI (j + (x + 1)))) st]; exact k1, k2⟩
      · have vb := (vl_b (b := b) (i := j) x (fun i hi => (nd i (by omega)).2) (by omega)).1
        obtain ⟨z1, hz1⟩ : ∃ z1, z1 = sI z 73 11 (nI (vlF b j (x + 1))) := ⟨_, rfl⟩
        have st : BX12_readNumber_14 z 73 (nI lo) (nI hi) (nI j) = some (.inl (sI z1 73 8 (nI (j + (x + 1))))) := by
          have ev : nI 10 * nI (vlF b j x) + nI (b (j + x)) - nI 48 = nI (vlF b j (x + 1)) := by
            rw [nMul, nAdd, nSub (by omega)]
            exact congrArg nI (show 10 * vlF b j x + b (j + x) - 48 = 10 * vlF b j x + (b (j + x) - 48) by omega)
          have q8 : gI z1 73 8 = nI (j + x) := by rw [hz1, gI_sI, if_pos rfl, up_at, if_neg (by decide)]; exact A8
          unfold BX12_readNumber_14 MX12_readNumber_87
          simp only [ZL, RS.f R1]
          rw [gg_T, e7, A8, if_neg (nI_ge (by omega) (by omega)), gg_T, gg_in (by omega) (by omega), nCl (by omega), e77, if_neg (nI_nlt (by omega) (by omega)), if_neg (nI_nlt (by omega) (by omega)), nSub (by omega), show j + x - j = x by omega, if_neg (nI_ge (by omega) (by omega)), A11 (by omega), ev, lt_eq, ← hz1, show kd z1 73 = 11 by rw [hz1]; exact (RS.f R1).1, gg_t (show (11 : Nat) = 11 from rfl), q8, nAdd, lt_eq]
          rfl
        obtain ⟨z', k1, k2⟩ := ih (x + 1) (sI z1 73 8 (nI (j + (x + 1)))) (by omega) (by rw [hz1]; exact (F.trans (Fr.sI (S := fun y => y = 73) rfl)).trans (Fr.sI (S := fun y => y = 73) rfl)) (fun i h1 h2 => by rw [gI_sI, if_pos rfl, up_at, if_neg h1, hz1, gI_sI, if_pos rfl, up_at, if_neg h2]; exact A i h1 h2) at8 (fun h => by rw [gI_sI, if_pos rfl, up_at, if_neg (by decide), hz1, gI_sI, if_pos rfl, up_at, if_pos rfl])
        exact ⟨z', by rw [it_next (s' := sI z1 73 8 (nI (j + (x + 1)))) st]; exact k1, k2⟩
  obtain ⟨g5, hg5⟩ : ∃ g5, g5 = sI g4 73 11 (nI 0) := ⟨_, rfl⟩
  obtain ⟨z, k1, k2, k3, k4, k5⟩ := K n 0 g5 (Nat.zero_add _) (by rw [hg5]; exact Fr.sI (S := fun y => y = 73) rfl) (fun i h1 h2 => by rw [hg5, gI_sI, if_pos rfl, up_at, if_neg h2]) (by rw [hg5, gI_sI, if_pos rfl, up_at, if_neg (by decide)]; exact a8) (fun _ => by rw [hg5, gI_sI, if_pos rfl, up_at, if_pos rfl]; rfl)
  have Rz : RS z := T4.1.fr k2
  have pre : MX12_readNumber g 73 (nI lo) (nI hi) = MX12_readNumber_100 z 73 (nI lo) (nI hi) (nI j) := by
    unfold MX12_readNumber MX12_readNumber_14
    simp only [ZL]
    rw [gg_t (RS.f T.1).1, bk, ob_some, gg_t (RS.f T4.1).1, lt_eq, ← hg5, a8]
    exact k1
  have F0 : Fr (fun y => y = 73) g z := by
    have : Fr (fun y => y = 73) g g4 := by rw [hg4]; exact Fr.sI (S := fun y => y = 73) rfl
    exact this.trans k2
  have o : ∀ i, i ≠ 8 → i ≠ 11 → gI z 73 i = gI g 73 i := fun i h1 h2 => by
    rw [k3 i h1 h2, hg4, gI_sI, if_pos rfl, up_at, if_neg h1]
  have e134 : MX12_readNumber_134 z 73 (nI j) = some (nI 0, sI z 73 9 (nI j)) := by
    unfold MX12_readNumber_134 MX12_readNumber_135
    simp only [ZL]
    rw [if_pos trivial, gg_t (RS.f Rz).1, lt_eq, gg_t (of_eq_true zk0)]
  have bad : MX12_readNumber_100 z 73 (nI lo) (nI hi) (nI j) = some (nI 0, sI z 73 9 (nI j)) → ∀ c, ¬ c → ∃ g', MX12_readNumber g 73 (nI lo) (nI hi) = some (nI 0, g') ∧ Fr (fun y => y = 73) g g' ∧ (∀ j, j ≠ 8 → j ≠ 9 → j ≠ 11 → gI g' 73 j = gI g 73 j) ∧ gI g' 73 9 = nI j := fun h _ _ => ⟨_, by rw [pre]; exact h, F0.trans (Fr.sI (S := fun y => y = 73) rfl), fun i h1 h2 h3 => by rw [gI_sI, if_pos rfl, up_at, if_neg h2]; exact o i h1 h3, by rw [gI_sI, if_pos rfl, up_at, if_pos rfl]⟩
  have u100 : MX12_readNumber_100 z 73 (nI lo) (nI hi) (nI j) = if n = 0 ∨ 4 < n then some (nI 0, sI z 73 9 (nI j)) else if lo ≤ vlF b j n ∧ vlF b j n ≤ hi then some (nI 1, z) else some (nI 0, sI z 73 9 (nI j)) := by
    have t400 := T4.2.2.1
    unfold MX12_readNumber_100
    rw [gg_t (RS.f Rz).1, k4, e134]
    simp only [ZL]
    by_cases c1 : n = 0
    · rw [if_pos (nI_le (by omega) (by omega)), if_pos (Or.inl c1)]
    · rw [if_neg (nI_ge (by omega) (by omega)), nSub (by omega), show j + n - j = n by omega]
      by_cases c2 : 4 < n
      · rw [if_pos (nI_lt c2 (by omega)), if_pos (Or.inr c2)]
      · rw [if_neg (nI_nlt (by omega) (by omega)), if_neg (by omega), k5 (by omega)]
        have vb := (vl_b (b := b) (i := j) n (fun i hi => (nd i (by omega)).2) (by omega)).1
        by_cases c3 : lo ≤ vlF b j n ∧ vlF b j n ≤ hi
        · rw [r_isIn_t c3.1 c3.2 (by omega), ob_some, if_neg (by decide), if_pos c3]
          unfold MX12_readNumber_135
          simp only [ZL]
          rw [if_neg (by decide), gg_t (of_eq_true zk1)]
        · have : MX12_isIn z (nI (vlF b j n)) (nI lo) (nI hi) = some (nI 0) := by
            refine r_isIn_f1 (by omega) (by omega) (fun i h1 h2 w => ?_)
            rw [nEq (by omega) (by omega)] at w
            omega
          rw [this, ob_some, if_pos rfl, if_neg c3]
  by_cases c1 : n = 0 ∨ 4 < n
  · rw [if_pos c1] at u100
    rw [if_neg (by omega)]
    exact bad u100 False id
  · rw [if_neg c1] at u100
    by_cases c3 : lo ≤ vlF b j n ∧ vlF b j n ≤ hi
    · rw [if_pos c3] at u100
      rw [if_pos (by omega)]
      exact ⟨z, by rw [pre, u100], F0, fun i h1 h2 h3 => o i h1 h3, o 9 (by omega) (by omega), k4, k5 (by omega)⟩
    · rw [if_neg c3] at u100
      rw [if_neg (by omega)]
      exact bad u100 False id
end
