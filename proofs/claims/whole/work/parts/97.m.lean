/-! slip -/
def ltB (m : Nat → Int32) (g j : Nat) : Bool := decide (97 ≤ Nn m (g + 432 + j) ∧ Nn m (g + 432 + j) ≤ 122)
/-- not the letter that is asked for -/
def slB (m : Nat → Int32) (g : Nat) (v : Int32) (j : Nat) : Bool := !(ltB m g j && decide (nI (ctB (ltB m g) j) = v))
theorem fnV_d (B : Nat → Bool) : ∀ n, (fnV B n = -nI 1) ∨ ∃ j, j < n ∧ B j = false ∧ fnV B n = nI j
  | 0 => Or.inl (Eq.refl _)
  | n + 1 => by
    have K := fnV_d B n
    unfold fnV at K ⊢
    cases e : fs (fun l => B l = false) n with
    | some a =>
      rw [e] at K
      have e1 : fs (fun l => B l = false) (n + 1) = some a := by
        unfold fs
        rw [e]
      rw [e1]
      rcases K with K | ⟨j, j1, j2, j3⟩
      · exact Or.inl K
      · exact Or.inr ⟨j, by omega, j2, j3⟩
    | none =>
      by_cases hb : B n = false
      · have e1 : fs (fun l => B l = false) (n + 1) = some n := by
          unfold fs
          rw [e]
          exact if_pos hb
        rw [e1]
        exact Or.inr ⟨n, by omega, hb, Eq.refl _⟩
      · have e1 : fs (fun l => B l = false) (n + 1) = none := by
          unfold fs
          rw [e]
          exact if_neg hb
        rw [e1]
        exact Or.inl (Eq.refl _)
theorem fnV_s {B : Nat → Bool} {a n : Nat} (ha : B a = false) (hb : ∀ j, j < a → B j = true) (hn : a < n) : fnV B n = nI a := by
  unfold fnV
  rw [fs_some (P := fun l => B l = false) ha (fun i hi => by rw [hb i hi]; simp) n hn]
  exact Eq.refl _
theorem fnV_n {B : Nat → Bool} {n : Nat} (hb : ∀ j, j < n → B j = true) : fnV B n = -nI 1 := by
  unfold fnV
  rw [fs_none (P := fun l => B l = false) n (fun i hi => by rw [hb i hi]; simp)]
  exact Eq.refl _
section
variable {tg : Nat → List Nat} {h h' : Hp} {m m' k t : Nat → Int32} {i n f : Int32} {s g c : Nat}
theorem c_isLet {b : Nat} (hb : b < 2147483648) : MX1_isLetter h (nI b) = some (bI (decide (97 ≤ b ∧ b ≤ 122))) := by
  unfold MX1_isLetter
  simp (disch := omega) only [ZL, nLt]
  by_cases h1 : b < 97
  · rw [if_pos h1, decide_eq_false (by omega)]; exact Eq.refl _
  · rw [if_neg h1]
    by_cases h2 : 122 < b
    · rw [if_pos h2, decide_eq_false (by omega)]; exact Eq.refl _
    · rw [if_neg h2, decide_eq_true (by omega)]; exact Eq.refl _
theorem r_isLet {b : Nat} (hb : b < 2147483648) : MX12_isLetter h (nI b) = some (bI (decide (97 ≤ b ∧ b ≤ 122))) := by
  unfold MX12_isLetter
  simp (disch := omega) only [ZL, nLt]
  by_cases h1 : b < 97
  · rw [if_pos h1, decide_eq_false (by omega)]; exact Eq.refl _
  · rw [if_neg h1]
    by_cases h2 : 122 < b
    · rw [if_pos h2, decide_eq_false (by omega)]; exact Eq.refl _
    · rw [if_neg h2, decide_eq_true (by omega)]; exact Eq.refl _
theorem c_byteOf (cS : SlS h c) (cV : SlV h c m g) (J : MIs m g s) (v : Int32) : MX8_byteOfLetter h c v = some (fnV (slB m g v) (Nn m (g + 9))) := by
  obtain ⟨L, hL⟩ : ∃ L, L = Nn m (g + 9) := ⟨_, rfl⟩
  obtain ⟨e9, l9⟩ := J.2.2.2.2.2.2.2.2.2.2.2.1.eq (by omega)
  have J14 := J.2.2.2.2.2.2.2.2.2.2.2.2.2.2.1
  obtain ⟨s1, ⟨s2, s2'⟩, ⟨s3, s3'⟩, s4, s5, s6⟩ := cS
  obtain ⟨w5, w8, w9, w3, w10, w11, w12, w14, w7, w2, w13, w6, wl, wb, w4⟩ := cV
  have l5 := slz_b s5
  rw [s4] at wl l5
  rw [← hL] at e9 l9 wl wb J14 ⊢
  have st : ∀ j, j < L → BX8_byteOfLetter_4 h c v (nI (ctB (ltB m g) j)) (nI j) = if ltB m g j = true then (if nI (ctB (ltB m g) j) = v then some (.inr (nI j)) else some (.inl (nI (ctB (ltB m g) j + 1), nI (j + 1)))) else some (.inl (nI (ctB (ltB m g) j), nI (j + 1))) := fun j hj => by
    obtain ⟨b, b2⟩ := (J14 j hj).2.eq (by omega)
    unfold BX8_byteOfLetter_4
    rw [gg_t s1, w2, e9, if_neg (nI_ge hj (by omega)), gg_t s3', gg_in (by omega) (by omega), nCl (by omega), (wb j hj).2, b, c_isLet (by omega), ob_some]
    show (if bI (ltB m g j) = 0 then _ else _) = _
    cases hb : ltB m g j with
    | true =>
      rw [bIT, if_neg (by decide), if_pos rfl]
      simp only [ZL, nAdd]
    | false =>
      rw [bIF, if_pos (by decide), if_neg (by simp)]
      simp only [ZL, nAdd]
  have K : ∃ z, it (fun q : Int32 × Int32 => BX8_byteOfLetter_4 h c v q.1 q.2) (nI 0, nI 0) = some z ∧ z = fnV (slB m g v) L := by
    refine it_ff (fun j s => s = (nI (ctB (ltB m g) j), nI j)) (slB m g v) L (fun j s hj pp hb => ?_) (fun j s hj pp hb ha => ?_) (fun s pp ha => ?_) rfl
    · subst pp
      refine ⟨(nI (ctB (ltB m g) (j + 1)), nI (j + 1)), ?_, rfl⟩
      show BX8_byteOfLetter_4 h c v (nI (ctB (ltB m g) j)) (nI j) = some (.inl (nI (ctB (ltB m g) j + (if ltB m g j = true then 1 else 0)), nI (j + 1)))
      rw [st j hj]
      unfold slB at hb
      cases hl : ltB m g j with
      | true =>
        rw [hl] at hb
        rw [if_pos rfl, if_pos rfl, if_neg (by simpa using hb)]
      | false =>
        rw [if_neg (by simp), if_neg (by simp)]
        exact Eq.refl _
    · subst pp
      refine ⟨nI j, ?_, (fnV_s hb ha hj).symm⟩
      show BX8_byteOfLetter_4 h c v (nI (ctB (ltB m g) j)) (nI j) = _
      rw [st j hj]
      unfold slB at hb
      simp only [Bool.not_eq_false', Bool.and_eq_true, decide_eq_true_eq] at hb
      rw [if_pos hb.1, if_pos hb.2]
    · subst pp
      refine ⟨-nI 1, ?_, (fnV_n ha).symm⟩
      show BX8_byteOfLetter_4 h c v (nI (ctB (ltB m g) L)) (nI L) = _
      unfold BX8_byteOfLetter_4
      rw [gg_t s1, w2, e9, if_pos (nI_le (Nat.le_refl L) (by omega))]
      exact Eq.refl _
  obtain ⟨z, k1, k2⟩ := K
  rw [← k2, ← k1]
  exact Eq.refl _
theorem r_slipL (R : RS h) (em : gI h 74 = m) (I : MI m) (hs : s < Nn m 4) (v x : Int32) : MX12_slip_41 h 73 v x (nI (64630 + 852 * s)) (-nI 1) v (nI 0) = MX12_slip_107 h 73 x (nI (64630 + 852 * s)) (fnV (slB m (64630 + 852 * s) v) (Nn m (64630 + 852 * s + 9))) := by
  obtain ⟨-, -, -, -, ⟨-, f4⟩, -⟩ := I.1.f
  have J := I.2.2.1 s hs
  obtain ⟨L, hL⟩ : ∃ L, L = Nn m (64630 + 852 * s + 9) := ⟨_, rfl⟩
  obtain ⟨e9, l9⟩ := J.2.2.2.2.2.2.2.2.2.2.2.1.eq (by omega)
  have J14 := J.2.2.2.2.2.2.2.2.2.2.2.2.2.2.1
  rw [← hL] at e9 l9 J14 ⊢
  unfold MX12_slip_41
  have ex : ∀ v5 v6 v7, (nI L ≤ v7 ∨ v5 ≠ -nI 1 ∨ v < nI 0) → BX12_slip_41 h 73 v x (nI (64630 + 852 * s)) v5 v6 v7 = up1 (MX12_slip_107 h 73 x (nI (64630 + 852 * s)) v5) := fun v5 v6 v7 hh => by
    unfold BX12_slip_41
    simp (disch := omega) only [RS.f R, gg_rf, gg_T, gg_in, em, e9, nAdd, nCl, ZL]
    rcases hh with hh | hh | hh
    · rw [if_pos hh]
    · rw [if_neg hh, ite_self]
    · rw [if_pos hh, ite_self, ite_self]
  rcases arg2 v with hv | ⟨n, hn, rfl⟩
  · have nv : ∀ k, k < 2147483648 → nI k ≠ v := fun k hk e => by
      rw [← e, Int32.lt_iff_toInt_lt, nI_toInt hk, nI_toInt (by omega)] at hv
      omega
    have fn : fnV (slB m (64630 + 852 * s) v) L = -nI 1 := fnV_n (fun j hj => by
      have := ctB_le (B := ltB m (64630 + 852 * s)) j
      unfold slB
      rw [decide_eq_false (nv _ (by omega)), Bool.and_false]
      exact Eq.refl _)
    rw [fn]
    exact it_exit (s := (-nI 1, v, nI 0)) (ex (-nI 1) v (nI 0) (Or.inr (Or.inr hv)))
  · have nn : ¬ nI n < nI 0 := fun e => by
      rw [Int32.lt_iff_toInt_lt, nI_toInt hn, nI_toInt (by omega)] at e
      omega
    have st : ∀ j c, j < L → c < 2147483648 → BX12_slip_41 h 73 (nI n) x (nI (64630 + 852 * s)) (-nI 1) (nI c) (nI j) = if ltB m (64630 + 852 * s) j = true then (if c = 0 then some (.inl (nI j, nI c + -nI 1, nI (j + 1))) else some (.inl (-nI 1, nI c + -nI 1, nI (j + 1)))) else some (.inl (-nI 1, nI c, nI (j + 1))) := fun j c hj hc => by
      obtain ⟨b, b2⟩ := (J14 j hj).2.eq (by omega)
      have nl : (nI L ≤ nI j) = False := eq_false (nI_ge hj (by omega))
      have nn2 : (nI n < nI 0) = False := eq_false nn
      unfold BX12_slip_41
      simp (disch := omega) only [RS.f R, gg_rf, gg_T, gg_in, em, e9, nAdd, nCl, ZL, nl, nn2, if_false, if_true, b, r_isLet, ob_some]
      show (if bI (ltB m (64630 + 852 * s) j) = nI 0 then _ else _) = _
      cases hb : ltB m (64630 + 852 * s) j with
      | true =>
        rw [bIT, if_neg (by decide), if_pos rfl]
        simp (disch := omega) only [nEq]
      | false => rw [bIF, if_pos rfl, if_neg (by simp)]
    have K : ∀ d j, j + d = L → ctB (ltB m (64630 + 852 * s)) j ≤ n → (∀ i, i < j → slB m (64630 + 852 * s) (nI n) i = true) → it (fun q : Int32 × Int32 × Int32 => BX12_slip_41 h 73 (nI n) x (nI (64630 + 852 * s)) q.1 q.2.1 q.2.2) (-nI 1, nI (n - ctB (ltB m (64630 + 852 * s)) j), nI j) = MX12_slip_107 h 73 x (nI (64630 + 852 * s)) (fnV (slB m (64630 + 852 * s) (nI n)) L) := by
      intro d
      induction d with
      | zero =>
        intro j hj hc ha
        have e : j = L := by omega
        subst e
        rw [fnV_n ha]
        exact it_exit (s := (-nI 1, nI (n - ctB (ltB m (64630 + 852 * s)) j), nI j)) (ex _ _ _ (Or.inl (nI_le (Nat.le_refl _) (by omega))))
      | succ d ih =>
        intro j hj hc ha
        have S1 := st j (n - ctB (ltB m (64630 + 852 * s)) j) (by omega) (by omega)
        have cs : ctB (ltB m (64630 + 852 * s)) (j + 1) = ctB (ltB m (64630 + 852 * s)) j + (if ltB m (64630 + 852 * s) j = true then 1 else 0) := Eq.refl _
        by_cases hb : ltB m (64630 + 852 * s) j = true
        · rw [if_pos hb] at S1 cs
          by_cases z : n - ctB (ltB m (64630 + 852 * s)) j = 0
          · rw [if_pos z] at S1
            have hf : slB m (64630 + 852 * s) (nI n) j = false := by
              unfold slB
              rw [hb, show ctB (ltB m (64630 + 852 * s)) j = n by omega, decide_eq_true rfl]
              exact Eq.refl _
            rw [fnV_s hf ha (by omega)]
            refine Eq.trans (it_next (s := (-nI 1, nI (n - ctB (ltB m (64630 + 852 * s)) j), nI j)) S1) ?_
            exact it_exit (s := (nI j, nI (n - ctB (ltB m (64630 + 852 * s)) j) + -nI 1, nI (j + 1))) (ex _ _ _ (Or.inr (Or.inl (fun e => by rw [nM6 (by omega)] at e; exact e))))
          · rw [if_neg z] at S1
            refine Eq.trans (it_next (s := (-nI 1, nI (n - ctB (ltB m (64630 + 852 * s)) j), nI j)) S1) ?_
            have e : nI (n - ctB (ltB m (64630 + 852 * s)) j) + -nI 1 = nI (n - ctB (ltB m (64630 + 852 * s)) (j + 1)) := by
              rw [show n - ctB (ltB m (64630 + 852 * s)) j = n - ctB (ltB m (64630 + 852 * s)) (j + 1) + 1 by omega]
              exact pk_m1 _
            rw [e]
            refine ih (j + 1) (by omega) (by omega) fun a h1 => ?_
            by_cases za : a = j
            · subst za
              unfold slB
              rw [decide_eq_false (fun e => by rw [nEq (by omega) (by omega)] at e; omega), Bool.and_false]
              exact Eq.refl _
            · exact ha a (by omega)
        · rw [if_neg hb] at S1 cs
          refine Eq.trans (it_next (s := (-nI 1, nI (n - ctB (ltB m (64630 + 852 * s)) j), nI j)) S1) ?_
          replace cs : ctB (ltB m (64630 + 852 * s)) (j + 1) = ctB (ltB m (64630 + 852 * s)) j := cs
          rw [← cs]
          refine ih (j + 1) (by omega) (by omega) fun a h1 => ?_
          by_cases za : a = j
          · subst za
            unfold slB
            rw [Bool.eq_false_iff.mpr hb]
            exact Eq.refl _
          · exact ha a (by omega)
    have K0 := K L 0 (by omega) (Nat.zero_le _) (fun i hi => by omega)
    exact K0
theorem sI_sI {a j : Nat} {v w : Int32} : sI (sI h a j v) a j w = sI h a j w := by
  refine Prod.ext (Eq.refl _) (Prod.ext (Eq.refl _) (Prod.ext (funext fun x => funext fun y => ?_) (Eq.refl _)))
  show gI (sI (sI h a j v) a j w) x y = gI (sI h a j w) x y
  simp only [gI_sI]
  by_cases z : x = a
  · subst z
    by_cases z2 : y = j
    · subst z2
      simp only [if_true, up_at]
    · simp only [if_true, up_at, if_neg z2]
  · simp only [if_neg z]
theorem nl26 : ∀ x, x < 26 → vp_nar .byte (nI (97 + x)).toInt8.toInt32 = nI (97 + x) := by decide
/-- one byte of the slug is written: how many are not as cast -/
theorem wr_up {j : Nat} (hm : ∀ y, y ≠ g + 432 + j → m' y = m y) : ∀ n, n ≤ 420 → (j < n → wrN m' g n + (if m (g + 12 + j) = m (g + 432 + j) then 0 else 1) = wrN m g n + (if m (g + 12 + j) = m' (g + 432 + j) then 0 else 1)) ∧ (n ≤ j → wrN m' g n = wrN m g n)
  | 0, _ => ⟨fun h => by omega, fun _ => Eq.refl _⟩
  | n + 1, hn => by
    obtain ⟨k1, k2⟩ := wr_up hm n (by omega)
    have a1 : wrN m' g (n + 1) = wrN m' g n + (if m' (g + 12 + n) = m' (g + 432 + n) then 0 else 1) := Eq.refl _
    have a2 : wrN m g (n + 1) = wrN m g n + (if m (g + 12 + n) = m (g + 432 + n) then 0 else 1) := Eq.refl _
    have b1 : m' (g + 12 + n) = m (g + 12 + n) := hm _ (by omega)
    refine ⟨fun h => ?_, fun h => ?_⟩
    · rw [a1, a2, b1]
      by_cases z : j = n
      · subst z
        rw [k2 (Nat.le_refl _)]
        omega
      · rw [hm (g + 432 + n) (by omega)]
        have := k1 (by omega)
        omega
    · rw [a1, a2, b1, hm (g + 432 + n) (by omega), k2 (by omega)]
/-- the byte told, the count of wrong ones mended -/
def tlH (h : Hp) (c j x : Nat) (d1 d2 : Int32) : Hp := sI (sI (sI h c 4 (gI h c 4 - d1)) (gP h c 1) j (nI (97 + x))) c 4 (gI h c 4 - d1 + d2)
theorem c_tell (O : Own tg h) (c3 : c ≠ 3) (cS : SlS h c) (cV : SlV h c m g) (J : MIs m g s) {j x : Nat} (hj : j < Nn m (g + 9)) (hx : x < 26) : MX8_tellLetter h c (nI j) (nI (97 + x)) = if m (g + 432 + j) = nI (97 + x) then some (nI 0, h) else some (nI 1, tlH h c j x (if m (g + 432 + j) = m (g + 12 + j) then nI 0 else nI 1) (if nI (97 + x) = m (g + 12 + j) then nI 0 else nI 1)) := by
  obtain ⟨L, hL⟩ : ∃ L, L = Nn m (g + 9) := ⟨_, rfl⟩
  obtain ⟨e9, l9⟩ := J.2.2.2.2.2.2.2.2.2.2.2.1.eq (by omega)
  have n0 := ne_o O c3 cS.2.1.1
  have n1 := ne_o O c3 cS.2.2.1.1
  have n2 := ne_f O c3 cS.2.1.1 cS.2.2.1.1 (by omega)
  obtain ⟨s1, ⟨s2, s2'⟩, ⟨s3, s3'⟩, s4, s5, s6⟩ := cS
  obtain ⟨w5, w8, w9, w3, w10, w11, w12, w14, w7, w2, w13, w6, wl, wb, w4⟩ := cV
  have l5 := slz_b s5
  rw [← hL] at hj e9 l9 wl wb
  have wl1 := wl
  rw [s4] at wl1
  have l51 := l5
  rw [s4] at l51
  have nl : (nI L ≤ nI j) = False := eq_false (nI_ge hj (by omega))
  have nj : (nI j < nI 0) = False := eq_false (nI_pos (by omega))
  have y := nl26 x hx
  obtain ⟨b1, b2⟩ := wb j hj
  unfold MX8_tellLetter
  by_cases z : m (g + 432 + j) = nI (97 + x)
  · rw [if_pos z]
    simp (disch := omega) only [ZL, nj, nl, if_false, gg_t s1, w2, e9, gg_t s3', gg_in, nCl, b2, z, if_true]
  · rw [if_neg z]
    simp (disch := omega) only [ZL, nj, nl, if_false, s1, s3', s2', gg_rf, gg_T, w2, e9, gg_in, nCl, b2, b1, z, if_true, MX8_tellLetter_49, MX8_tellLetter_86, kd_sI, ln_sI, gP_sI, gI_sI, up_at, i0, i1, ↓lt_eq, y]
    unfold tlH
    by_cases z1 : m (g + 432 + j) = m (g + 12 + j)
    · by_cases z2 : nI (97 + x) = m (g + 12 + j)
      · simp only [if_pos z1, if_pos z2]
      · simp only [if_pos z1, if_neg z2]
    · by_cases z2 : nI (97 + x) = m (g + 12 + j)
      · simp only [if_neg z1, if_pos z2]
      · simp only [if_neg z1, if_neg z2]
theorem ws_i {W W' e1 e2 : Nat} (h1 : e1 ≤ 1) (h2 : e2 ≤ 1) (hw : W' + e1 = W + e2) : nI W - nI e1 + nI e2 = nI W' := by
  by_cases z : e1 ≤ W
  · rw [nSub z, nAdd]
    exact congrArg nI (by omega)
  · have a1 : e1 = 1 := by omega
    have a2 : W = 0 := by omega
    have a3 : e2 = 1 := by omega
    have a4 : W' = 0 := by omega
    subst a1 a2 a3 a4
    decide
theorem p_slip (C : CSt tg h m k i t n f) (R : RSt h m k i t n f) (v u w : Int32) : Pr (cm [1, 2]) Gq h (MX11_slip h 1 v u w) (fun h' => MX12_slip h' 73 v u w) := by
  obtain ⟨O, X, X2, S, V, D, DV, I, T, Im, Tr⟩ := id C
  obtain ⟨-, -, t3, -, -, -, t19, -⟩ := tgs O X
  rcases ni_d v (Nn m 4) with hv | ⟨q, hq, rfl⟩
  · refine Pr.thr C R 1 1 rfl (by omega) (by omega) ?_ fun h' R' => ⟨nI 0, ?_⟩
    · unfold MX11_slip
      rw [gg_t X.1, X5 X, gg_t S.1, c_findSlug_f S V I.1 hv, ob_some, if_pos rfl]
    · unfold MX12_slip
      simp (disch := omega) only [↓reduceIte, Nat.reduceLT, Nat.reduceLeDiff, Nat.reduceEqDiff, ZL, nAdd, nMul, nSub, nLt, nLe, nEq, nCl, nDiv, nRem2, nM1, nM2, nM3, nM4, nM5, nM6, gg_in, gg_rf, gg_T, if_true, if_false, ↓lt_eq, ob_some, b2_some, up1_some, kd_sI, ln_sI, gP_sI, gI_sI, kd_rI, ln_rI, gP_rI, gI_rI, kd_bmp, ln_bmp, gP_bmp, gI_bmp, up_at, i0, i1, RS.f R'.1, r_isSlug_f R'.1 R'.2.1 I.1 hv, MX12_slip_14]
  · obtain ⟨-, -, -, -, ⟨b1, b2⟩, -⟩ := I.1.f
    obtain ⟨c, hc, ec, c0, cS, cV⟩ := c_findSlug_t S V I.1 hq
    have hI := I.2.2.1 q hq
    have cB := c_byteOf cS cV hI u
    have rB : ∀ h', RSt h' m k i t n f → MX12_slip h' 73 (nI q) u w = MX12_slip_107 (sI h' 73 0 (nI 0)) 73 w (nI (64630 + 852 * q)) (fnV (slB m (64630 + 852 * q) u) (Nn m (64630 + 852 * q + 9))) := fun h' R' => by
      have R0 := R'.th (v := nI 0)
      rw [← r_slipL R0.1 R0.2.1 I hq u w]
      unfold MX12_slip
      simp (disch := omega) only [↓reduceIte, Nat.reduceLT, Nat.reduceLeDiff, Nat.reduceEqDiff, ZL, nAdd, nMul, nSub, nLt, nLe, nEq, nCl, nDiv, nRem2, nM1, nM2, nM3, nM4, nM5, nM6, gg_in, gg_rf, gg_T, if_true, if_false, ↓lt_eq, ob_some, b2_some, up1_some, kd_sI, ln_sI, gP_sI, gI_sI, kd_rI, ln_rI, gP_rI, gI_rI, kd_bmp, ln_bmp, gP_bmp, gI_bmp, up_at, i0, i1, RS.f R'.1, r_isSlug_t R'.1 R'.2.1 I.1 hq, MX12_slip_14, r_slug0]
    have thr : ∀ h', RSt h' m k i t n f → MX12_slip_124 (sI h' 73 0 (nI 0)) 73 w (nI (64630 + 852 * q)) (fnV (slB m (64630 + 852 * q) u) (Nn m (64630 + 852 * q + 9))) 73 = some (nI 0, sI h' 73 0 (nI 2)) := fun h' R' => by
      unfold MX12_slip_124
      simp (disch := omega) only [MX12_slip_129, ↓reduceIte, Nat.reduceLT, Nat.reduceLeDiff, Nat.reduceEqDiff, ZL, nAdd, nMul, nSub, nLt, nLe, nEq, nCl, nDiv, nRem2, nM1, nM2, nM3, nM4, nM5, nM6, gg_in, gg_rf, gg_T, if_true, if_false, ↓lt_eq, ob_some, b2_some, up1_some, kd_sI, ln_sI, gP_sI, gI_sI, kd_rI, ln_rI, gP_rI, gI_rI, kd_bmp, ln_bmp, gP_bmp, gI_bmp, up_at, i0, i1, RS.f R'.1, sI_sI]
    rcases fnV_d (slB m (64630 + 852 * q) u) (Nn m (64630 + 852 * q + 9)) with z | ⟨j, hj, hb, z⟩
    · refine Pr.thr C R 2 2 rfl (by omega) (by omega) ?_ fun h' R' => ⟨nI 0, ?_⟩
      · unfold MX11_slip
        rw [gg_t X.1, X5 X, gg_t S.1, ec, ob_some, if_neg c0, gg_t cS.1, cB, ob_some, if_pos (by rw [z]; rfl)]
      · rw [rB h' R', ← thr h' R', z]
        unfold MX12_slip_107
        rw [if_pos (show -nI 1 = -1 from Eq.refl _)]
    · have zm : ¬ fnV (slB m (64630 + 852 * q) u) (Nn m (64630 + 852 * q + 9)) = -1 := by
        rw [z, nI_eqm j (by have := (hI.2.2.2.2.2.2.2.2.2.2.2.1.eq (by omega)).2; omega)]
        exact id
      rcases ni_d w 26 with hw | ⟨x, hx, rfl⟩
      · refine Pr.thr C R 2 2 rfl (by omega) (by omega) ?_ fun h' R' => ⟨nI 0, ?_⟩
        · unfold MX11_slip
          rw [gg_t X.1, X5 X, gg_t S.1, ec, ob_some, if_neg c0, gg_t cS.1, cB, ob_some, if_neg zm]
          rcases ni_c (by omega) hw with z | ⟨z1, z2, z3⟩
          · rw [if_pos (show w < 0 from z)]
          · rw [if_neg (show ¬ w < 0 from z1), if_neg (show ¬ w < 26 from z3)]
        · rw [rB h' R', ← thr h' R']
          unfold MX12_slip_107
          rw [if_neg zm]
          simp (disch := omega) only [↓reduceIte, Nat.reduceLT, Nat.reduceLeDiff, Nat.reduceEqDiff, ZL, nAdd, nMul, nSub, nLt, nLe, nEq, nCl, nDiv, nRem2, nM1, nM2, nM3, nM4, nM5, nM6, gg_in, gg_rf, gg_T, if_true, if_false, ↓lt_eq, ob_some, b2_some, up1_some, kd_sI, ln_sI, gP_sI, gI_sI, kd_rI, ln_rI, gP_rI, gI_rI, kd_bmp, ln_bmp, gP_bmp, gI_bmp, up_at, i0, i1, r_isIn_f (b := 25) (by omega) hw]
      · have hX : MX11_slip h 1 (nI q) u (nI x) = if m (64630 + 852 * q + 432 + j) = nI (97 + x) then some (.inl (nI 0), h) else some (.inl (nI 1), tlH h c j x (if m (64630 + 852 * q + 432 + j) = m (64630 + 852 * q + 12 + j) then nI 0 else nI 1) (if nI (97 + x) = m (64630 + 852 * q + 12 + j) then nI 0 else nI 1)) := by
          have hcz : gP h (gP h 19 10) q ≠ 0 := by rw [← hc]; exact c0
          obtain ⟨ct, c3⟩ := sl_t O X S hcz
          rw [← hc] at ct c3
          unfold MX11_slip
          rw [gg_t X.1, X5 X, gg_t S.1, ec, ob_some, if_neg c0, gg_t cS.1, cB, ob_some, if_neg zm, z]
          have a1 : (nI x < nI 0) = False := eq_false (nI_pos (by omega))
          simp (disch := omega) only [ZL, a1, if_false, nLt, hx, if_true, nAdd, c_tell O c3 cS cV hI hj hx]
          by_cases y : m (64630 + 852 * q + 432 + j) = nI (97 + x)
          · rw [if_pos y, if_pos y, b2_some, gg_t (by decide)]
          · rw [if_neg y, if_neg y, b2_some, gg_t (by decide)]
        have rY : ∀ h', RSt h' m k i t n f → MX12_slip h' 73 (nI q) u (nI x) = some (if m (64630 + 852 * q + 432 + j) = nI (97 + x) then nI 0 else nI 1, sI (sI h' 73 0 (nI 0)) 74 (64630 + 852 * q + 432 + j) (nI (97 + x))) := fun h' R' => by
          have l9 := (hI.2.2.2.2.2.2.2.2.2.2.2.1.eq (by omega)).2
          rw [rB h' R', z]
          unfold MX12_slip_107
          rw [if_neg (by rw [← z]; exact zm)]
          simp (disch := omega) only [↓reduceIte, Nat.reduceLT, Nat.reduceLeDiff, Nat.reduceEqDiff, ZL, nAdd, nMul, nSub, nLt, nLe, nEq, nCl, nDiv, nRem2, nM1, nM2, nM3, nM4, nM5, nM6, gg_in, gg_rf, gg_T, if_true, if_false, ↓lt_eq, ob_some, b2_some, up1_some, kd_sI, ln_sI, gP_sI, gI_sI, kd_rI, ln_rI, gP_rI, gI_rI, kd_bmp, ln_bmp, gP_bmp, gI_bmp, up_at, i0, i1, r_isIn_t, MX12_slip_129, MX12_slip_167, RS.f R'.1, R'.2.1, sI_sI]
          by_cases y : m (64630 + 852 * q + 432 + j) = nI (97 + x)
          · rw [if_pos y, if_pos y, gg_t (by decide)]
          · rw [if_neg y, if_neg y, gg_t (by decide)]
        have hv1 := hI.2.1.1
        have h9 := (hI.2.2.2.2.2.2.2.2.2.2.2.1.eq (by omega)).2
        by_cases y : m (64630 + 852 * q + 432 + j) = nI (97 + x)
        · have eup : va_up m (64630 + 852 * q + 432 + j) (nI (97 + x)) = m := by
            funext a
            simp only [up_at]
            split
            · rename_i e; rw [e, y]
            · exact Eq.refl _
          refine Pr.same C (nI 0) (by rw [hX, if_pos y]) fun h' o => ?_
          have R' := R.ou o
          refine ⟨sI (sI h' 73 0 (nI 0)) 74 (64630 + 852 * q + 432 + j) (nI (97 + x)), by rw [rY h' R', if_pos y], th_fr.trans fr74, by have := R'.th (v := nI 0) |>.m1 (x := 64630 + 852 * q + 432 + j) (v := nI (97 + x)); rwa [eup] at this, ?_⟩
          simp (disch := omega) only [↓reduceIte, Nat.reduceLT, Nat.reduceLeDiff, Nat.reduceEqDiff, ZL, nAdd, nMul, nSub, nLt, nLe, nEq, nCl, nDiv, nRem2, nM1, nM2, nM3, nM4, nM5, nM6, gg_in, gg_rf, gg_T, if_true, if_false, ↓lt_eq, ob_some, b2_some, up1_some, kd_sI, ln_sI, gP_sI, gI_sI, kd_rI, ln_rI, gP_rI, gI_rI, kd_bmp, ln_bmp, gP_bmp, gI_bmp, up_at, i0, i1]
        · have hcz : gP h (gP h 19 10) q ≠ 0 := by rw [← hc]; exact c0
          obtain ⟨ct, c3⟩ := sl_t O X S hcz
          rw [← hc] at ct c3
          have n0 := ne_o O c3 cS.2.1.1
          have n1 := ne_o O c3 cS.2.2.1.1
          have n2 := ne_f O c3 cS.2.1.1 cS.2.2.1.1 (by omega)
          have ct1 := tgc O cS.2.2.1.1 c3
          rw [ct] at ct1
          obtain ⟨d1, hd1⟩ : ∃ d, d = (if m (64630 + 852 * q + 12 + j) = m (64630 + 852 * q + 432 + j) then 0 else 1) := ⟨_, rfl⟩
          obtain ⟨d2, hd2⟩ : ∃ d, d = (if m (64630 + 852 * q + 12 + j) = nI (97 + x) then 0 else 1) := ⟨_, rfl⟩
          have e1 : (if m (64630 + 852 * q + 432 + j) = m (64630 + 852 * q + 12 + j) then nI 0 else nI 1) = nI d1 := by
            by_cases z1 : m (64630 + 852 * q + 12 + j) = m (64630 + 852 * q + 432 + j)
            · rw [hd1, if_pos z1, if_pos z1.symm]
            · rw [hd1, if_neg z1, if_neg (fun e => z1 e.symm)]
          have e2 : (if nI (97 + x) = m (64630 + 852 * q + 12 + j) then nI 0 else nI 1) = nI d2 := by
            by_cases z1 : m (64630 + 852 * q + 12 + j) = nI (97 + x)
            · rw [hd2, if_pos z1, if_pos z1.symm]
            · rw [hd2, if_neg z1, if_neg (fun e => z1 e.symm)]
          have l1 : d1 ≤ 1 := by rw [hd1]; split <;> omega
          have l2 : d2 ≤ 1 := by rw [hd2]; split <;> omega
          rw [if_neg y, e1, e2] at hX
          have mo : ∀ a, a ≠ 64630 + 852 * q + 432 + j → va_up m (64630 + 852 * q + 432 + j) (nI (97 + x)) a = m a := fun a ha => by simp only [up_at, if_neg ha]
          have mj : va_up m (64630 + 852 * q + 432 + j) (nI (97 + x)) (64630 + 852 * q + 432 + j) = nI (97 + x) := by simp only [up_at, if_true]
          have WU := (wr_up (g := 64630 + 852 * q) mo (Nn m (64630 + 852 * q + 9)) (by omega)).1 hj
          rw [mj, ← hd1, ← hd2] at WU
          have F1 : Fr (fun b => b = c ∨ b = gP h c 1) h (tlH h c j x (nI d1) (nI d2)) := ((Fr.sI (S := fun b => b = c ∨ b = gP h c 1) (Or.inl rfl)).trans (Fr.sI (S := fun b => b = c ∨ b = gP h c 1) (Or.inr rfl))).trans (Fr.sI (S := fun b => b = c ∨ b = gP h c 1) (Or.inl rfl))
          have hD : ∀ b, (b = c ∨ b = gP h c 1) → b ≠ 0 ∧ [q, 10, 5] <:+ tg b := fun b hb => by
            rcases hb with e | e
            · subst e
              exact ⟨c0, by rw [ct]; exact List.suffix_refl _⟩
            · subst e
              exact ⟨cS.2.2.1.1, by rw [ct1]; exact List.suffix_cons _ _⟩
          have sf := obj_sm (s0 := q) (F := 10) O t3 t19 (by omega) (show 19 ≠ 0 by omega) F1 (fun b hb => by rw [t19]; exact hD b hb)
          refine Pr.room (h1 := tlH h c j x (nI d1) (nI d2)) (m' := va_up m (64630 + 852 * q + 432 + j) (nI (97 + x))) C R (nI 1) hX F1 (fun b hb => ⟨(hD b hb).1, (List.suffix_append [q, 10] [5]).trans (hD b hb).2⟩) (S.sl F1 sf ?_) (RmV.sl I V F1 sf (by omega) (fun a ha => mo a (by omega)) ⟨mo _ (by omega), mo _ (by omega)⟩ fun _ => ?_) (MI.slg I hq (fun a ha => mo a (by omega)) ⟨mo _ (by omega), mo _ (by omega), mo _ (by omega)⟩ (fun a ha => mo _ (by omega)) ?_) (fun a ha => mo a (by unfold rgDk at ha; omega)) fun h' R' => ?_
          · rw [← hc]
            obtain ⟨s1, s2, s3, s4, s5, s6⟩ := cS
            refine ⟨s1, s2, s3, s4, s5, ?_⟩
            unfold tlH
            simp (disch := omega) only [gI_sI, if_true, up_at, i0]
            exact s6
          · rw [← hc]
            obtain ⟨w5, w8, w9, w3, w10, w11, w12, w14, w7, w2, w13, w6, wl, wb, w4⟩ := cV
            have e9 := Nn.c (mo (64630 + 852 * q + 9) (by omega))
            have e0 := mo (64630 + 852 * q) (by omega)
            unfold SlV tlH
            rw [e9, mo _ (by omega), mo (64630 + 852 * q + 1) (by omega), mo (64630 + 852 * q + 2) (by omega), mo (64630 + 852 * q + 3) (by omega), mo (64630 + 852 * q + 4) (by omega), mo (64630 + 852 * q + 5) (by omega), mo (64630 + 852 * q + 6) (by omega), mo (64630 + 852 * q + 7) (by omega), mo (64630 + 852 * q + 8) (by omega), mo (64630 + 852 * q + 9) (by omega), mo (64630 + 852 * q + 10) (by omega), mo (64630 + 852 * q + 11) (by omega), Nn.c e0, mo (70 + Nn m (64630 + 852 * q) / 5) (by omega)]
            simp (disch := omega) only [gI_sI, gP_sI, ln_sI, if_true, up_at, i0]
            refine ⟨w5, w8, w9, w3, w10, w11, w12, w14, w7, w2, w13, w6, wl, fun a ha => ?_, ?_⟩
            · refine ⟨by rw [if_neg (by omega)]; exact (wb a ha).1, ?_⟩
              by_cases za : a = j
              · subst za
                simp only [if_true]
              · simp (disch := omega) only [i0]
                exact (wb a ha).2
            · rw [w4, ws_i l1 l2 WU]
          · obtain ⟨a0, a1, a2, a3, a4, a5, a6, a7, a8, a9, a10, a11, a12, a13, a14, a15, a16⟩ := hI
            have e0 := mo (64630 + 852 * q) (by omega)
            refine ⟨a0.c e0, by rw [Nn.c e0]; exact a1.c (mo _ (by omega)) (fun _ => mo _ (by omega)), a2.c (mo _ (by omega)), by rw [Nn.c (mo (64630 + 852 * q + 1) (by omega)), Nn.c (mo 3 (by omega))]; exact a3, a4.c (mo _ (by omega)), by rw [Nn.c (mo (64630 + 852 * q + 2) (by omega)), Nn.c (mo 0 (by omega))]; exact a5, by rw [Nn.c (mo (64630 + 852 * q + 2) (by omega))]; exact a6, a7.c (mo _ (by omega)), a8.c (mo _ (by omega)), a9.c (mo _ (by omega)), a10.c (mo _ (by omega)), a11.c (mo _ (by omega)), a12.c (mo _ (by omega)), a13.c (mo _ (by omega)), fun a ha => ?_, by rw [mo (64630 + 852 * q + 4) (by omega), mo (64630 + 852 * q + 5) (by omega), mo (64630 + 852 * q + 6) (by omega)]; exact a15, ?_⟩
            · rw [Nn.c (mo (64630 + 852 * q + 9) (by omega))] at ha
              refine ⟨(a14 a ha).1.c (mo _ (by omega)), ?_⟩
              by_cases za : a = j
              · subst za
                exact ⟨97 + x, by omega, mj⟩
              · exact (a14 a ha).2.c (mo _ (by omega))
            · rw [mo (64630 + 852 * q + 4) (by omega)]
              intro hz
              obtain ⟨c1, c2, c3, c4, c5, c6⟩ := a16 hz
              have hb := c3.1
              have hb2 := (c1.eq (by omega)).2
              rw [Nn.c (mo (64630 + 852 * q + 5) (by omega)), Nn.c (mo (64630 + 852 * q + 6) (by omega)), mo (130 + 645 * Nn m (64630 + 852 * q + 6) + 3) (by omega), Nn.c (mo (130 + 645 * Nn m (64630 + 852 * q + 6) + 4) (by omega)), mo (130 + 645 * Nn m (64630 + 852 * q + 6) + 45 + Nn m (64630 + 852 * q + 5)) (by omega)]
              exact ⟨c1.c (mo _ (by omega)), c2.c (mo _ (by omega)), c3.c (mo _ (by omega)) (fun _ => mo _ (by omega)), c4, c5, c6⟩
          · refine ⟨sI (sI h' 73 0 (nI 0)) 74 (64630 + 852 * q + 432 + j) (nI (97 + x)), by rw [rY h' R', if_neg y], th_fr.trans fr74, R'.th.m1, ?_⟩
            simp (disch := omega) only [↓reduceIte, Nat.reduceLT, Nat.reduceLeDiff, Nat.reduceEqDiff, ZL, nAdd, nMul, nSub, nLt, nLe, nEq, nCl, nDiv, nRem2, nM1, nM2, nM3, nM4, nM5, nM6, gg_in, gg_rf, gg_T, if_true, if_false, ↓lt_eq, ob_some, b2_some, up1_some, kd_sI, ln_sI, gP_sI, gI_sI, kd_rI, ln_rI, gP_rI, gI_rI, kd_bmp, ln_bmp, gP_bmp, gI_bmp, up_at, i0, i1]
end
