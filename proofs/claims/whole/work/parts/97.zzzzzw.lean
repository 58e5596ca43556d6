/-! correct: the reference counts lines that say the same, and lays the slugs -/
section
variable {h h1 g z z' : Hp} {m M M2 kk t : Nat → Int32} {ii u fl : Int32} {r k q f op ol nl sn l n a d : Nat} {v1 v2 v3 v6 w : Int32} {L1 L2 : List Nat}
theorem r_isSm (R : RS z) (em : gI z 74 = M2) (B2 : MIb M2) (vq : vP M2 q) (J2 : MIp M2 q) {l2 x y : Nat} (H : Ln M2 q l2 x y) (hL2 : L2 = wtX M2 q x y) (ha : a < 40) (e94 : gI z 94 a = nI L1.length) (b1 : L1.length ≤ 401) (e93 : ∀ i, i < L1.length → gI z 93 (430 * a + i) = nI (L1.getD i 0)) (bb1 : ∀ j, j < L1.length → L1.getD j 0 ≤ 122) : ∃ z', MX12_isSame z 73 (nI q) (nI a) (nI l2) = some (bI (@decide (L1 = L2) (Classical.propDecidable _)), z') ∧ Rw z z' := by
  obtain ⟨z1, k1, k2, k3, k4, -⟩ := r_write R em B2 vq J2 H
  rw [← hL2] at k3 k4
  have b2 : L2.length ≤ 401 := by rw [hL2]; exact H.2.2.2.2.2
  have bb2 : ∀ j, j < L2.length → L2.getD j 0 ≤ 122 := by rw [hL2]; exact wt_b B2 J2 H.2.2.2.2.1
  have R1 : RS z1 := R.fr k2.1
  have o1 : ∀ b, b = 93 ∨ b = 94 → gI z1 b = gI z b := fun b hb => k2.1.2.2.2.2.2.2 b (by omega)
  refine ⟨z1, ?_, k2⟩
  have s0 : ∀ i, i ≤ L2.length → it (fun s : Int32 × Int32 => BX12_isSame_29 z1 73 (nI a) s.1 s.2) (nI 0, nI i) = some (nI 0, z1) := fun i hi => by
    refine it_done ?_
    show BX12_isSame_29 z1 73 (nI a) (nI 0) (nI i) = _
    unfold BX12_isSame_29
    simp only [ZL, RS.f R1]
    rw [gg_T, k3]
    by_cases c : L2.length ≤ i
    · rw [if_pos (nI_le c (by omega)), gg_t (of_eq_true zk0)]
    · rw [if_neg (nI_ge (by omega) (by omega)), if_pos trivial, gg_t (of_eq_true zk0)]
  have head : MX12_isSame z 73 (nI q) (nI a) (nI l2) = if L1.length = L2.length then it (fun s : Int32 × Int32 => BX12_isSame_29 z1 73 (nI a) s.1 s.2) (nI 1, nI 0) else it (fun s : Int32 × Int32 => BX12_isSame_29 z1 73 (nI a) s.1 s.2) (nI 0, nI 0) := by
    unfold MX12_isSame MX12_isSame_24 MX12_isSame_29
    simp only [ZL, RS.f R]
    rw [gg_T, k1, ob_some]
    simp only [RS.f R1]
    rw [gg_T, gg_T, gg_in (by omega) (by omega), nCl (by omega), o1 94 (by omega), e94, k3]
    by_cases c : L1.length = L2.length
    · rw [if_pos (by rw [c]), if_pos c]
    · rw [if_neg (by rw [nEq (by omega) (by omega)]; exact c), if_neg c]
  rw [head]
  by_cases c : L1.length = L2.length
  · rw [if_pos c]
    have K : ∀ d i, i + d = L2.length → (∀ k, k < i → L1.getD k 0 = L2.getD k 0) → it (fun s : Int32 × Int32 => BX12_isSame_29 z1 73 (nI a) s.1 s.2) (nI 1, nI i) = some (bI (@decide (L1 = L2) (Classical.propDecidable _)), z1) := fun d => by
      induction d with
      | zero =>
        intro i hi al
        have hi : i = L2.length := hi
        subst hi
        have e : L1 = L2 := gl_ext L1 L2 c (fun j hj => al j (by omega))
        rw [show @decide (L1 = L2) (Classical.propDecidable _) = true from @decide_eq_true _ (Classical.propDecidable _) e]
        refine it_done ?_
        show BX12_isSame_29 z1 73 (nI a) (nI 1) (nI L2.length) = _
        unfold BX12_isSame_29
        simp only [ZL, RS.f R1]
        rw [gg_T, k3, if_pos (nI_le (Nat.le_refl _) (by omega)), gg_t (of_eq_true zk1)]
        rfl
      | succ d ih =>
        intro i hi al
        have st : BX12_isSame_29 z1 73 (nI a) (nI 1) (nI i) = if L1.getD i 0 = L2.getD i 0 then some (.inl (nI 1, nI (i + 1))) else some (.inl (nI 0, nI (i + 1))) := by
          have x1 := bb1 i (by omega)
          have x2 := bb2 i (by omega)
          unfold BX12_isSame_29 MX12_isSame_71
          simp only [ZL, RS.f R1]
          rw [gg_T, k3, if_neg (nI_ge (by omega) (by omega)), if_neg (by decide), gg_T, nMul, nAdd, gg_in (by omega) (by omega), gg_T, gg_in (by omega) (by omega), nCl (by omega), nCl (by omega), o1 93 (by omega), e93 i (by omega), k4 i (by omega), nAdd]
          by_cases e : L1.getD i 0 = L2.getD i 0
          · rw [if_pos (by rw [e]), if_pos e]
          · rw [if_neg (by rw [nEq (by omega) (by omega)]; exact e), if_neg e]
        by_cases e : L1.getD i 0 = L2.getD i 0
        · rw [if_pos e] at st
          rw [it_next (s' := (nI 1, nI (i + 1))) st]
          exact ih (i + 1) (by omega) (fun k hk => by
            by_cases y : k = i
            · rw [y]; exact e
            · exact al k (by omega))
        · rw [if_neg e] at st
          have ne : L1 ≠ L2 := fun x => e (by rw [x])
          rw [it_next (s' := (nI 0, nI (i + 1))) st, s0 (i + 1) (by omega), show @decide (L1 = L2) (Classical.propDecidable _) = false from @decide_eq_false _ (Classical.propDecidable _) ne]
          rfl
    exact K L2.length 0 (Nat.zero_add _) (fun k hk => absurd hk (by omega))
  · have ne : L1 ≠ L2 := fun x => c (by rw [x])
    rw [if_neg c, s0 0 (by omega), show @decide (L1 = L2) (Classical.propDecidable _) = false from @decide_eq_false _ (Classical.propDecidable _) ne]
    rfl
theorem r_580 (R : RS g) (em : gI g 74 = M2) (I : MI m) (vq : vP m q) (u3 : m (130 + 645 * q + 3) = nI 1) (B2 : MIb M2) (vq2 : vP M2 q) (J2 : MIp M2 q) (Q2 : MIq1 M2 q) (e3 : M2 (130 + 645 * q + 3) = nI 1) (n4 : Nn M2 (130 + 645 * q + 4) = nl) (n40 : nl ≤ 40) (eol : ol = Nn m (130 + 645 * q + 4)) (ho : op < ol) (hn : op ≤ nl) (A : OL g m q op ol) : ∃ z, MX12_correct_580 g 73 (nI q) v3 (nI op) (nI ol) (nI nl) (nI 0) = MX12_correct_628 z 73 (nI q) v3 (nI op) (nI ol) (nI nl) (nI (fsB (tEq m M2 q ol nl) (min ol nl - op) 0)) ∧ Rw g z := by
  have q1 := vq.1
  have J := I.2.1 q vq
  obtain ⟨e4, l40⟩ := J.2.2.2.2.2.1.eq (by omega)
  rw [← eol] at l40
  obtain ⟨N, hN⟩ : ∃ N, N = min ol nl - op := ⟨_, rfl⟩
  rw [← hN]
  have st : ∀ j z, j < N → Rw g z → ∃ z', Rw g z' ∧ BX12_correct_580 z 73 (nI q) v3 (nI op) (nI ol) (nI nl) (nI j) = if tEq m M2 q ol nl j = true then some (.inl (nI (j + 1), z')) else up1 (MX12_correct_628 z' 73 (nI q) v3 (nI op) (nI ol) (nI nl) (nI j)) := fun j z hj F => by
    have Rz : RS z := R.fr F.1
    have ez : gI z 74 = M2 := F.em em
    have H1 := ln_set I vq u3 (l := ol - 1 - j) (by omega)
    have H2 := ln_q1 J2 Q2 e3 (l := nl - 1 - j) (by omega)
    obtain ⟨a1, a2, a3⟩ := A (ol - 1 - j) (by omega) (by omega)
    have ob : ∀ b, b = 93 ∨ b = 94 → gI z b = gI g b := fun b hb => F.1.2.2.2.2.2.2 b (by omega)
    obtain ⟨z', k1, k2⟩ := r_isSm (L1 := wtL m q (ol - 1 - j)) (L2 := wtL M2 q (nl - 1 - j)) Rz ez B2 vq2 J2 H2 rfl (a := ol - 1 - j) (by omega) (by rw [ob 94 (by omega)]; exact a1) H1.2.2.2.2.2 (fun i hi => by rw [ob 93 (by omega)]; exact a3 i hi) (wt_b I.1 J H1.2.2.2.2.1)
    refine ⟨z', F.trans k2, ?_⟩
    replace k1 : MX12_isSame z 73 (nI q) (nI (ol - 1 - j)) (nI (nl - 1 - j)) = some (bI (tEq m M2 q ol nl j), z') := k1
    unfold BX12_correct_580
    simp only [ZL, RS.f Rz]
    rw [nSub (by omega), nSub (by omega), if_neg (nI_ge (by omega) (by omega)), if_neg (nI_ge (by omega) (by omega)), gg_T, nSub (by omega), nSub (by omega), nSub (by omega), nSub (by omega), k1, b2_some, nAdd]
    cases tEq m M2 q ol nl j with
    | true => rw [if_neg (show ¬ bI true = nI 0 by decide), if_pos rfl]
    | false => rw [if_pos (show bI false = nI 0 from rfl), if_neg (by decide)]
  have K : ∀ d j z, j + d = N → Rw g z → (∀ i, i < j → tEq m M2 q ol nl i = true) → ∃ z', it (fun y : Int32 × Hp => BX12_correct_580 y.2 73 (nI q) v3 (nI op) (nI ol) (nI nl) y.1) (nI j, z) = MX12_correct_628 z' 73 (nI q) v3 (nI op) (nI ol) (nI nl) (nI (fsB (tEq m M2 q ol nl) N 0)) ∧ Rw g z' := fun d => by
    induction d with
    | zero =>
      intro j z hj F al
      have hj : j = N := hj
      subst hj
      refine ⟨z, it_u1 ?_, F⟩
      have e : fsB (tEq m M2 q ol nl) j 0 = j := fsB_u j 0 (Nat.zero_le _) (by omega) (fun i _ hi => al i hi) (Or.inl (Nat.zero_add j).symm)
      show BX12_correct_580 z 73 (nI q) v3 (nI op) (nI ol) (nI nl) (nI j) = _
      unfold BX12_correct_580
      rw [nSub (by omega), nSub (by omega), e]
      by_cases c : ol - op ≤ j
      · rw [if_pos (nI_le c (by omega))]
      · rw [if_neg (nI_ge (by omega) (by omega)), if_pos (nI_le (by omega) (by omega))]
    | succ d ih =>
      intro j z hj F al
      obtain ⟨z', a1, a2⟩ := st j z (by omega) F
      by_cases c : tEq m M2 q ol nl j = true
      · rw [if_pos c] at a2
        obtain ⟨z'', b1, b2⟩ := ih (j + 1) z' (by omega) a1 (fun i hi => by
          by_cases y : i = j
          · rw [y]; exact c
          · exact al i (by omega))
        exact ⟨z'', by rw [it_next (s' := (nI (j + 1), z')) a2]; exact b1, b2⟩
      · rw [if_neg c] at a2
        have cf : tEq m M2 q ol nl j = false := by
          cases y : tEq m M2 q ol nl j with
          | true => exact absurd y c
          | false => rfl
        have e : fsB (tEq m M2 q ol nl) N 0 = j := fsB_u N 0 (Nat.zero_le _) (by omega) (fun i _ hi => al i hi) (Or.inr cf)
        exact ⟨z', by rw [e]; exact it_u1 a2, a1⟩
  obtain ⟨z, k1, k2⟩ := K N 0 g (Nat.zero_add _) Rw.rfl (fun i hi => absurd hi (by omega))
  exact ⟨z, by unfold MX12_correct_580; exact k1, k2⟩
theorem nDm {a b c : Nat} (h : b ≤ c + a) : nI a - nI b + nI c = nI (a + c - b) := by
  rw [Int32.add_comm, Int32.sub_eq_add_neg, ← Int32.add_assoc, nAdd, ← Int32.sub_eq_add_neg, nSub h, Nat.add_comm]
/-- the slugs are laid -/
theorem r_632 (R : RSt g M2 kk ii t u fl) (I : MI m) (vq : vP m q) (u3 : m (130 + 645 * q + 3) = nI 1) (eol : ol = Nn m (130 + 645 * q + 4)) (ho : op ≤ ol) (hn : op ≤ nl) (n40 : nl ≤ 40) (hs1 : sn ≤ ol - op) (hs2 : sn ≤ nl - op) (A : ∀ k, op ≤ k → k < ol → gI g 95 k = m (130 + 645 * q + 45 + k) - nI 1) (h45 : ∀ l, op ≤ l → l < nl → M2 (130 + 645 * q + 45 + l) = nI 0) (hM : ∀ y, 64630 ≤ y → M2 y = m y) : ∃ z, MX12_correct_628 g 73 (nI q) v3 (nI op) (nI ol) (nI nl) (nI sn) = MX12_correct_703 z 73 (nI q) v3 (nI op) (nI nl) (nI sn) ∧ Fr (fun b => b = 74) g z ∧ RSt z (laM m M2 q op ol nl sn ol) kk ii t u fl := by
  have q1 := vq.1
  obtain ⟨-, f4⟩ := I.1.f.2.2.2.2.1
  have l40 := ((I.2.1 q vq).2.2.2.2.2.1.eq (by omega)).2
  rw [← eol] at l40
  have K : ∀ e d z, d + e = ol → op ≤ d → Fr (fun b => b = 74) g z → RSt z (laM m M2 q op ol nl sn d) kk ii t u fl → ∃ z', it (fun y : Int32 × Hp => BX12_correct_632 y.2 73 (nI q) v3 (nI op) (nI ol) (nI nl) (nI sn) y.1) (nI d, z) = MX12_correct_703 z' 73 (nI q) v3 (nI op) (nI nl) (nI sn) ∧ Fr (fun b => b = 74) g z' ∧ RSt z' (laM m M2 q op ol nl sn ol) kk ii t u fl := fun e => by
    induction e with
    | zero =>
      intro d z hd h1 F Rz
      have hd : d = ol := hd
      subst hd
      refine ⟨z, it_u1 ?_, F, Rz⟩
      show BX12_correct_632 z 73 (nI q) v3 (nI op) (nI d) (nI nl) (nI sn) (nI d) = _
      unfold BX12_correct_632
      rw [if_pos (nI_le (Nat.le_refl _) (by omega))]
    | succ e ih =>
      intro d z hd h1 F Rz
      have a95 : gI z 95 d = m (130 + 645 * q + 45 + d) - nI 1 := by rw [F.2.2.2.2.2.2 95 (by decide)]; exact A d h1 (by omega)
      have pre : ∀ v, gI z 95 d = v → BX12_correct_632 z 73 (nI q) v3 (nI op) (nI ol) (nI nl) (nI sn) (nI d) = if v = -nI 1 then some (.inl (nI (d + 1), z)) else if nI d < nI (ol - sn) then Option.bind (MX12_pots z 73 v) (fun h98 => some (.inl (nI (d + 1), h98))) else Option.bind (MX12_puts z 73 v (nI q) (nI (d + nl - ol))) (fun h100 => some (.inl (nI (d + 1), h100))) := fun v hv => by
        unfold BX12_correct_632
        simp only [ZL, RS.f Rz.1]
        by_cases c : ol ≤ nl + d
        · rw [if_neg (nI_ge (by omega) (by omega)), gg_T, gg_T, gg_in (by omega) (by omega), nCl (by omega), hv, nSub (by omega), nDm c, nAdd]
        · have lt : d < ol - sn := by omega
          rw [if_neg (nI_ge (by omega) (by omega)), gg_T, gg_T, gg_in (by omega) (by omega), nCl (by omega), hv, nSub (by omega), nAdd, if_pos (nI_lt lt (by omega)), if_pos (nI_lt lt (by omega))]
      have fin : ∀ z2, Fr (fun b => b = 74) z z2 → RSt z2 (laM m M2 q op ol nl sn (d + 1)) kk ii t u fl → BX12_correct_632 z 73 (nI q) v3 (nI op) (nI ol) (nI nl) (nI sn) (nI d) = some (.inl (nI (d + 1), z2)) → ∃ z', it (fun y : Int32 × Hp => BX12_correct_632 y.2 73 (nI q) v3 (nI op) (nI ol) (nI nl) (nI sn) y.1) (nI d, z) = MX12_correct_703 z' 73 (nI q) v3 (nI op) (nI nl) (nI sn) ∧ Fr (fun b => b = 74) g z' ∧ RSt z' (laM m M2 q op ol nl sn ol) kk ii t u fl := fun z2 F2 R2 s => by
        obtain ⟨z', b1, b2⟩ := ih (d + 1) z2 (by omega) (by omega) (F.trans F2) R2
        exact ⟨z', by rw [it_next (s' := (nI (d + 1), z2)) s]; exact b1, b2⟩
      rcases lk_p I vq u3 (l := d) (by omega) with k | ⟨s, k1, k2, k3, k4, k5⟩
      · have em := la_e (M2 := M2) I vq u3 h1 (by omega) eol hs1 hs2 n40 hn k h45
        refine fin z Fr.rfl (by rw [em]; exact Rz) ?_
        rw [pre _ a95, k, if_pos (by decide)]
      · have s300 : s < 300 := by omega
        have sv : gI z 95 d = nI s := by rw [a95, k2, pk_sub (by omega), Nat.add_sub_cancel]
        by_cases c : d < ol - sn
        · have em := la_t (M2 := M2) (nl := nl) I vq h1 c n40 l40 k1 k2 k3 k4 k5 (by omega)
          have R3 := ((Rz.m1 (x := 64630 + 852 * s + 4) (v := nI 2)).m1 (x := 64630 + 852 * s + 5) (v := -nI 1)).m1 (x := 64630 + 852 * s + 6) (v := -nI 1)
          rw [← em] at R3
          refine fin _ ((fz74.trans fz74).trans fz74) R3 ?_
          rw [pre _ sv, if_neg (by rw [nM6 (by omega)]; exact id), if_pos (nI_lt c (by omega))]
          have e : MX12_pots z 73 (nI s) = some (sI (sI (sI z 74 (64630 + 852 * s + 4) (nI 2)) 74 (64630 + 852 * s + 5) (-nI 1)) 74 (64630 + 852 * s + 6) (-nI 1)) := by
            unfold MX12_pots MX12_slug0
            simp only [ZL, RS.f Rz.1, ob_some]
            rw [if_neg (by rw [nM6 (by omega)]; exact id), gg_T, gg_T, nMul, nAdd, nAdd, gg_in (by omega) (by omega), nCl (by omega), lt_eq, nAdd, gg_in (by omega) (by omega), nCl (by omega), lt_eq, nAdd, gg_in (by omega) (by omega), nCl (by omega), lt_eq]
          rw [e, ob_some]
        · have em := la_m (M2 := M2) (nl := nl) I vq h1 (by omega) (by omega) hs1 n40 l40 k1 k2 k3 k4 k5 (by omega) (by rw [hM _ (by omega)]; exact k3)
          have R3 := ((Rz.m1 (x := 64630 + 852 * s + 5) (v := nI (d + nl - ol))).m1 (x := 64630 + 852 * s + 6) (v := nI q)).m1 (x := 130 + 645 * q + 45 + (d + nl - ol)) (v := nI (s + 1))
          rw [← em] at R3
          refine fin _ ((fz74.trans fz74).trans fz74) R3 ?_
          rw [pre _ sv, if_neg (by rw [nM6 (by omega)]; exact id), if_neg (nI_nlt (by omega) (by omega))]
          have e : MX12_puts z 73 (nI s) (nI q) (nI (d + nl - ol)) = some (sI (sI (sI z 74 (64630 + 852 * s + 5) (nI (d + nl - ol))) 74 (64630 + 852 * s + 6) (nI q)) 74 (130 + 645 * q + 45 + (d + nl - ol)) (nI (s + 1))) := by
            unfold MX12_puts MX12_slug0
            simp only [ZL, RS.f Rz.1, ob_some, r_part0]
            rw [gg_T, gg_T, nMul, nAdd, nAdd, gg_in (by omega) (by omega), nCl (by omega), lt_eq, nAdd, gg_in (by omega) (by omega), nCl (by omega), lt_eq, nAdd, nAdd, gg_in (by omega) (by omega), nCl (by omega), nAdd, lt_eq]
          rw [e, ob_some]
  obtain ⟨z, k1, k2⟩ := K (ol - op) op g (by omega) (Nat.le_refl _) Fr.rfl (by rw [la_0 hs1 ho]; exact R)
  exact ⟨z, by unfold MX12_correct_628 MX12_correct_632; exact k1, k2⟩
end
