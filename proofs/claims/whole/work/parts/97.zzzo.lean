/-! plans: the least costs, and the class's tables -/
section
variable {L D : Nat → Nat} {bk : Nat → Bool} {xs : Nat → Nat} {x q k v w n i : Nat}
def OwP (L D : Nat → Nat) (x q v : Nat) : Prop := (∃ d, OwB L D d x (sB q) v) ∧ ∀ d c, OwB L D d x (sB q) c → v ≤ c
theorem owP_0 : OwP L D x 0 0 := by
  refine ⟨⟨0, sB_0, rfl⟩, fun d c _ => Nat.zero_le _⟩
theorem owP_s {o : Nat → Nat} (hq : q < 32) (q0 : 0 < q) (H : ∀ i, i < 5 → btN q i = 1 → OwP L D x (q - 2 ^ i) (o i)) (h1 : ∀ i, i < 5 → btN q i = 1 → w ≤ o i + (x + bsB L (sB q) - D i)) (h2 : ∃ i, i < 5 ∧ btN q i = 1 ∧ w = o i + (x + bsB L (sB q) - D i)) : OwP L D x q w := by
  constructor
  · obtain ⟨i, i5, hb, rfl⟩ := h2
    obtain ⟨⟨d, hd⟩, -⟩ := H i i5 hb
    rw [sB_f hq i5 hb] at hd
    exact ⟨d + 1, i, i5, sB_b.mpr hb, o i, hd, rfl⟩
  · intro d c hc
    cases d with
    | zero =>
      obtain ⟨e, -⟩ := hc
      have nb : ∀ i, btN q i = 1 → False := fun i hi => by
        have : sB q i = true := sB_b.mpr hi
        rw [e] at this
        exact Bool.noConfusion (show false = true from this)
      rcases T9a q hq q0 with h | h | h | h | h
      · exact (nb _ h).elim
      · exact (nb _ h).elim
      · exact (nb _ h).elim
      · exact (nb _ h).elim
      · exact (nb _ h).elim
    | succ d =>
      obtain ⟨i, i5, si, c', h', rfl⟩ := hc
      have hb : btN q i = 1 := sB_b.mp si
      rw [← sB_f hq i5 hb] at h'
      have := (H i i5 hb).2 d c' h'
      have := h1 i i5 hb
      omega
theorem bsB_le (hL : ∀ i, L i ≤ 40) (s : St) : bsB L s ≤ 200 := by
  have h0 := hL 0
  have h1 := hL 1
  have h2 := hL 2
  have h3 := hL 3
  have h4 := hL 4
  unfold bsB
  split <;> split <;> split <;> split <;> split <;> omega
theorem owB_b (hL : ∀ i, L i ≤ 40) : ∀ d x s c, OwB L D d x s c → c ≤ d * (x + 200)
  | 0, _, _, _, h => by rw [h.2]; exact Nat.zero_le _
  | d + 1, x, s, c, h => by
    obtain ⟨i, i5, si, c', h', rfl⟩ := h
    have := owB_b hL d x _ _ h'
    have := bsB_le hL s
    rw [Nat.succ_mul]
    omega
theorem owB_z : ∀ d x s c, OwB L D d x s c → szB s = d
  | 0, _, _, _, h => by rw [h.1]; rfl
  | d + 1, x, s, c, h => by
    obtain ⟨i, i5, si, c', h', rfl⟩ := h
    have e := owB_z d x _ _ h'
    have := bsB_f (L := fun _ => 1) i5 si
    unfold szB at e ⊢
    omega
theorem szB_5 (s : St) : szB s ≤ 5 := by
  show (if s 0 = true then 1 else 0) + (if s 1 = true then 1 else 0) + (if s 2 = true then 1 else 0) + (if s 3 = true then 1 else 0) + (if s 4 = true then 1 else 0) ≤ 5
  split <;> split <;> split <;> split <;> split <;> omega
theorem owP_b (hL : ∀ i, L i ≤ 40) (hx : x ≤ 1800) (h : OwP L D x q v) : v ≤ 10000 := by
  obtain ⟨⟨d, hd⟩, -⟩ := h
  have h1 := owB_b hL d x _ _ hd
  have h2 := owB_z d x _ _ hd
  have h3 := szB_5 (sB q)
  have : d * (x + 200) ≤ 5 * 2000 := Nat.mul_le_mul (by omega) (by omega)
  omega
def AlP (L D : Nat → Nat) (bk : Nat → Bool) (xs : Nat → Nat) (k q v : Nat) : Prop := v ≤ 1000000000 ∧ (∀ c, AlB L D bk xs k (sB q) c → v ≤ c) ∧ (v < 1000000000 → AlB L D bk xs k (sB q) v)
theorem sB_ne (hq : q < 32) (q0 : 0 < q) : sB q ≠ eS0 := fun e => by
  have nb : ∀ i, btN q i = 1 → False := fun i hi => by
    have : sB q i = true := sB_b.mpr hi
    rw [e] at this
    exact Bool.noConfusion (show false = true from this)
  rcases T9a q hq q0 with h | h | h | h | h
  · exact (nb _ h).elim
  · exact (nb _ h).elim
  · exact (nb _ h).elim
  · exact (nb _ h).elim
  · exact (nb _ h).elim
theorem alP_0 (hq : q < 32) : AlP L D bk xs 0 q (if q = 0 then 0 else 1000000000) := by
  by_cases z : q = 0
  · rw [if_pos z, z]
    exact ⟨by omega, fun c _ => Nat.zero_le _, fun _ => ⟨sB_0, rfl⟩⟩
  · rw [if_neg z]
    exact ⟨Nat.le_refl _, fun c h => absurd h.1 (sB_ne hq (by omega)), fun h => absurd h (Nat.lt_irrefl _)⟩
theorem df_0 (s : St) : dfB s eS0 = s := by
  funext j
  show (s j && !false) = s j
  cases s j <;> rfl
theorem alP_b (hb : bk k = true) (h : AlP L D bk xs k q v) : AlP L D bk xs (k + 1) q v := by
  obtain ⟨h1, h2, h3⟩ := h
  refine ⟨h1, fun c hc => ?_, fun hv => ⟨eS0, fun j hj => Bool.noConfusion (show false = true from hj), fun _ => rfl, v, 0, 0, by rw [df_0]; exact h3 hv, ⟨rfl, rfl⟩, rfl⟩⟩
  obtain ⟨p, -, hp, c1, c2, d, a1, a2, rfl⟩ := hc
  rw [hp hb, df_0] at a1
  have := h2 c1 a1
  omega
theorem alP_s {S : Nat} {A O : Nat → Nat} (hS : S < 32) (hb : bk k = false) (HA : ∀ r, r < 32 → r &&& S = r → AlP L D bk xs k (S - r) (A (S - r))) (HO : ∀ r, r < 32 → r &&& S = r → OwP L D (xs k) r (O r)) (w1 : w ≤ A S) (w2 : ∀ r, r < 32 → r &&& S = r → 0 < r → w ≤ A (S - r) + O r) (w3 : w = A S ∨ ∃ r, r < 32 ∧ r &&& S = r ∧ w = A (S - r) + O r) : AlP L D bk xs (k + 1) S w := by
  have z0 : (0 : Nat) &&& S = 0 := Nat.zero_and S
  have A0 := HA 0 (by omega) z0
  rw [Nat.sub_zero] at A0
  refine ⟨Nat.le_trans w1 A0.1, fun c hc => ?_, fun hw => ?_⟩
  · obtain ⟨p, h1, h2, c1, c2, d, h3, h4, rfl⟩ := hc
    obtain ⟨r, r32, hr⟩ := T3a p
    have p5 : ∀ j, 5 ≤ j → p j = false := fun j hj => by
      cases y : p j with
      | false => rfl
      | true =>
        have := h1 j y
        rw [sB_n.mpr (bt_5 hS hj)] at this
        exact Bool.noConfusion this
    have er : sB r = p := sB_x (r := 0) r32 p5 hr
    have rs : r &&& S = r := T2b S hS r r32 (fun j hj => by
      have b1 := bt_lt r j
      by_cases y : btN r j = 1
      · have := sB_b.mp (h1 j ((hr j hj).mp y))
        omega
      · omega)
    rw [← er] at h3 h4
    rw [← sB_d hS r32 rs] at h3
    have q1 := (HA r r32 rs).2.1 c1 h3
    have q2 := (HO r r32 rs).2 d c2 h4
    by_cases y : r = 0
    · rw [y, Nat.sub_zero] at q1
      omega
    · have := w2 r r32 rs (by omega)
      omega
  · rcases w3 with rfl | ⟨r, r32, rs, rfl⟩
    · exact ⟨eS0, fun j hj => Bool.noConfusion (show false = true from hj), fun _ => rfl, A S, 0, 0, by rw [df_0]; exact A0.2.2 hw, ⟨rfl, rfl⟩, rfl⟩
    · obtain ⟨⟨d, hd⟩, -⟩ := HO r r32 rs
      refine ⟨sB r, fun j hj => ?_, fun e => (by rw [hb] at e; exact Bool.noConfusion e), A (S - r), O r, d, ?_, hd, rfl⟩
      · have t := (T2a S hS r r32 rs).2
        have hj1 := sB_b.mp hj
        by_cases j5 : j < 5
        · have := (t j j5).2
          have b := bt_lt S j
          exact sB_b.mpr (by omega)
        · rw [bt_5 r32 (by omega)] at hj1
          exact absurd hj1 (by decide)
      · rw [← sB_d hS r32 rs]
        exact (HA r r32 rs).2.2 (by omega)
end
/-! the planner's cells -/
def PX (h : Hp) (c : Nat → Nat) : Prop := kd h 68 = 5 ∧ gP h 68 = c ∧ (kd h (c 1) = 20 ∧ ln h (c 1) = 5) ∧ (kd h (c 2) = 20 ∧ ln h (c 2) = 5) ∧ (kd h (c 3) = 20 ∧ ln h (c 3) = 32) ∧ (kd h (c 4) = 20 ∧ ln h (c 4) = 32)
def PA (c : Nat → Nat) : Prop := ∀ k, 1 ≤ k → k ≤ 4 → Nq (c k) 68 ∧ ∀ l, 1 ≤ l → l ≤ 4 → k ≠ l → Nq (c k) (c l)
/-- the parts that are planned -/
def PLn (h : Hp) (c : Nat → Nat) (n : Nat) (L D : Nat → Nat) : Prop := gI h 68 0 = nI n ∧ ∀ i, i < n → gI h (c 1) i = nI (L i) ∧ gI h (c 2) i = nI (D i)
def bsP (L : Nat → Nat) (q : Nat) : Nat → Nat
  | 0 => 0
  | n + 1 => bsP L q n + (if btN q n = 1 then L n else 0)
section
variable {L D : Nat → Nat} {bk : Nat → Bool} {xs c : Nat → Nat} {h h' g : Hp} {x q k v w n i : Nat} {W : Nat → Prop}
theorem PX.fr (X : PX h c) (F : Fr W h h') : PX h' c := by
  unfold PX
  rw [F.1, F.2.1, F.2.2.1]
  exact X
theorem pa_n (A : PA c) (k l : Nat) (h : 1 ≤ k ∧ k ≤ 4 ∧ 1 ≤ l ∧ l ≤ 4 ∧ k ≠ l) : ¬ c k = c l := ((A k h.1 h.2.1).2 l h.2.2.1 h.2.2.2.1 h.2.2.2.2).n
theorem pa_8 (A : PA c) (k : Nat) (h : 1 ≤ k ∧ k ≤ 4) : ¬ 68 = c k := fun e => (A k h.1 h.2).1.n e.symm
theorem PX.p (X : PX h c) (k : Nat) : gP h 68 k = c k := by rw [X.2.1]
theorem bsP_5 (hL : ∀ i, n ≤ i → L i = 0) (hn : n ≤ 5) : bsP L q n = bsB L (sB q) := by
  have up : ∀ d, bsP L q (n + d) = bsP L q n := fun d => by
    induction d with
    | zero => rfl
    | succ d ih =>
      show bsP L q (n + d) + (if btN q (n + d) = 1 then L (n + d) else 0) = _
      rw [ih, hL (n + d) (by omega)]
      split <;> rfl
  have e5 := up (5 - n)
  rw [show n + (5 - n) = 5 by omega] at e5
  rw [← e5]
  unfold bsB bsP bsP bsP bsP bsP bsP
  simp only [sB_b]
  omega
theorem bsP_le (hL : ∀ i, L i ≤ 40) : ∀ n, bsP L q n ≤ 40 * n
  | 0 => Nat.le_refl _
  | n + 1 => by
    have := bsP_le hL n
    have := hL n
    unfold bsP
    split <;> omega
/-- what is there of one machine's table up to q -/
def OT (h : Hp) (c : Nat → Nat) (L D : Nat → Nat) (x q : Nat) : Prop := ∀ r, r < q → ∃ v, gI h (c 3) r = nI v ∧ OwP L D x r v
theorem lmin {a b : Nat} (ha : a < 2147483648) (hb : b < 2147483648) : jmin (nI a) (nI b) = nI (min a b) := by
  unfold jmin
  by_cases z : b < a
  · rw [if_pos (nI_lt z ha), Nat.min_eq_right (by omega)]
  · rw [if_neg (nI_nlt (by omega) hb), Nat.min_eq_left (by omega)]
theorem lmx0 {a b : Nat} (ha : a < 1073741824) (hb : b < 1073741824) : jmax (nI 0) (nI a - nI b) = nI (a - b) := by
  unfold jmax
  by_cases z : b ≤ a
  · rw [nSub z]
    by_cases y : a - b = 0
    · rw [y, if_neg (by decide)]
    · rw [if_pos (nI_lt (by omega) (by omega))]
  · have := pk_sneg (a := a) (b := b) hb (by omega)
    rw [show a - b = 0 by omega, if_neg]
    intro e
    exact absurd (Int32.lt_trans e this) (by decide)
/-- one set on one machine -/
theorem c_fo60 (X : PX h c) (A : PA c) (K : PLn h c n L D) (hn : n ≤ 5) (hL : ∀ i, L i ≤ 40) (hD : ∀ i, D i ≤ 600) (hx : x ≤ 1800) (hq : q < 2 ^ n) (q0 : 0 < q) (T : OT h c L D x q) (e : bsB L (sB q) ≤ 200) (v1 v2 : Int32) : ∃ h', MX6_findOwn_60 h 68 v1 v2 (nI q) (nI (x + bsB L (sB q))) = some (.inl (nI (q + 1), h')) ∧ Fr (fun y => y = c 3) h h' ∧ OT h' c L D x (q + 1) := by
  have h5 : 2 ^ n ≤ 2 ^ 5 := Nat.pow_le_pow_right (by omega) hn
  have q32 : q < 32 := by omega
  obtain ⟨X1, X2, ⟨k1, l1⟩, ⟨k2, l2⟩, ⟨k3, l3⟩, ⟨k4, l4⟩⟩ := id X
  have bn : ∀ i, btN q i = 1 → i < n := fun i hi => by
    refine Classical.byContradiction fun z => ?_
    have : 2 ^ n ≤ 2 ^ i := Nat.pow_le_pow_right (by omega) (by omega)
    unfold btN at hi
    rw [Nat.div_eq_of_lt (by omega)] at hi
    exact absurd hi (by decide)
  -- the table's values
  have ov : ∃ o : Nat → Nat, ∀ i, i < 5 → btN q i = 1 → q - 2 ^ i < q ∧ gI h (c 3) (q - 2 ^ i) = nI (o i) ∧ OwP L D x (q - 2 ^ i) (o i) := by
    refine ⟨fun i => (gI h (c 3) (q - 2 ^ i)).toNatClampNeg, fun i i5 hi => ?_⟩
    have p2 : 0 < 2 ^ i := Nat.two_pow_pos i
    have := (T1a q q32 i i5 hi).1
    have lt : q - 2 ^ i < q := by omega
    obtain ⟨v, e1, e2⟩ := T (q - 2 ^ i) lt
    have := owP_b hL hx e2
    refine ⟨lt, ?_, ?_⟩
    · show gI h (c 3) (q - 2 ^ i) = nI (gI h (c 3) (q - 2 ^ i)).toNatClampNeg
      rw [e1, nCl (by omega)]
    · show OwP L D x (q - 2 ^ i) (gI h (c 3) (q - 2 ^ i)).toNatClampNeg
      rw [e1, nCl (by omega)]
      exact e2
  obtain ⟨o, ho⟩ := ov
  obtain ⟨h1, hh1⟩ : ∃ h1, h1 = sI h (c 3) q (nI 1000000000) := ⟨_, rfl⟩
  have F1 : Fr (fun y => y = c 3) h h1 := by rw [hh1]; exact Fr.sI rfl
  have lp : ∃ z, it (fun y : Int32 × Hp => BX6_findOwn_71 y.2 68 v1 v2 (nI q) (nI (x + bsB L (sB q))) y.1) (nI 0, h1) = some z ∧ ∃ h', z = .inl (nI (q + 1), h') ∧ Fr (fun y => y = c 3) h h' ∧ OT h' c L D x (q + 1) := by
    refine it_cnt (fun j y => y.1 = nI j ∧ Fr (fun y => y = c 3) h y.2 ∧ (∀ l, l ≠ q → gI y.2 (c 3) l = gI h (c 3) l) ∧ ∃ w, gI y.2 (c 3) q = nI w ∧ w ≤ 1000000000 ∧ (∀ i, i < j → btN q i = 1 → w ≤ o i + (x + bsB L (sB q) - D i)) ∧ (w = 1000000000 ∨ ∃ i, i < j ∧ btN q i = 1 ∧ w = o i + (x + bsB L (sB q) - D i))) n (fun j y hj pp => ?_) (fun y pp => ?_) ⟨rfl, F1, fun l hl => by show gI h1 (c 3) l = _; rw [hh1, gI_sI, if_pos rfl, up_at, if_neg hl], 1000000000, by show gI h1 (c 3) q = _; rw [hh1, gI_sI, if_pos rfl, up_at, if_pos rfl], Nat.le_refl _, fun i hi => by omega, Or.inl rfl⟩
    · obtain ⟨a1, g⟩ := y
      obtain ⟨p1, p2, p3, w, p4, p5, p6, p7⟩ := pp
      replace p1 : a1 = nI j := p1
      replace p2 : Fr (fun y => y = c 3) h g := p2
      replace p3 : ∀ l, l ≠ q → gI g (c 3) l = gI h (c 3) l := p3
      replace p4 : gI g (c 3) q = nI w := p4
      subst p1
      have Xg := X.fr p2
      have g68 : gI g 68 0 = nI n := by rw [p2.2.2.2.2.2.2 68 (pa_8 A 3 (by omega))]; exact K.1
      by_cases z : btN q j = 0
      · refine ⟨(nI (j + 1), g), ?_, rfl, p2, p3, w, p4, p5, fun i hi hb => ?_, ?_⟩
        · show BX6_findOwn_71 g 68 v1 v2 (nI q) (nI (x + bsB L (sB q))) (nI j) = _
          unfold BX6_findOwn_71
          simp only [ZL]
          rw [gg_t Xg.1, g68, if_neg (nI_ge hj (by omega)), if_pos (by rw [bt_0 (by omega) (by omega)]; exact z), nAdd]
        · by_cases y : i = j
          · rw [y, z] at hb; exact absurd hb (by decide)
          · exact p6 i (by omega) hb
        · rcases p7 with e | ⟨i, i1, i2, i3⟩
          · exact Or.inl e
          · exact Or.inr ⟨i, by omega, i2, i3⟩
      · have b1 : btN q j = 1 := by have := bt_lt q j; omega
        have j5 : j < 5 := by omega
        obtain ⟨o1, o2, o3⟩ := ho j j5 b1
        have ob := owP_b hL hx o3
        have d0 := hD j
        have gD2 : gI g (c 2) j = nI (D j) := by rw [p2.2.2.2.2.2.2 _ (pa_n A 2 3 (by omega))]; exact (K.2 j hj).2
        have gO : gI g (c 3) (q - 2 ^ j) = nI (o j) := by rw [p3 _ (by omega)]; exact o2
        obtain ⟨g1, hg1⟩ : ∃ g1, g1 = sI g (c 3) q (nI (min w (o j + (x + bsB L (sB q) - D j)))) := ⟨_, rfl⟩
        have Fg : Fr (fun y => y = c 3) g g1 := by rw [hg1]; exact Fr.sI rfl
        refine ⟨(nI (j + 1), g1), ?_, rfl, p2.trans Fg, fun l hl => by show gI g1 (c 3) l = _; rw [hg1, gI_sI, if_pos rfl, up_at, if_neg hl]; exact p3 l hl, min w (o j + (x + bsB L (sB q) - D j)), by show gI g1 (c 3) q = _; rw [hg1, gI_sI, if_pos rfl, up_at, if_pos rfl], by omega, fun i hi hb => ?_, ?_⟩
        · show BX6_findOwn_71 g 68 v1 v2 (nI q) (nI (x + bsB L (sB q))) (nI j) = _
          unfold BX6_findOwn_71
          simp only [ZL]
          rw [gg_t Xg.1, g68, if_neg (nI_ge hj (by omega)), if_neg (by rw [bt_0 (by omega) (by omega)]; omega), Xg.p, Xg.p, gg_t Xg.2.2.2.2.1.1, Xg.2.2.2.2.1.2, gg_in (by omega) (by omega), T4a q q32 j j5 b1, gg_in (by omega) (by omega), gg_t Xg.2.2.2.1.1, Xg.2.2.2.1.2, gg_in (by omega) (by omega), nCl (by omega), nCl (by omega), nCl (by omega), p4, gO, gD2, lmx0 (by omega) (by omega), nAdd, lmin (by omega) (by omega), lt_eq, ← hg1, nAdd]
        · by_cases y : i = j
          · rw [y]; omega
          · have := p6 i (by omega) hb
            omega
        · by_cases y : w ≤ o j + (x + bsB L (sB q) - D j)
          · rw [Nat.min_eq_left y]
            rcases p7 with e | ⟨i, i1, i2, i3⟩
            · exact Or.inl e
            · exact Or.inr ⟨i, by omega, i2, i3⟩
          · rw [Nat.min_eq_right (by omega)]
            exact Or.inr ⟨j, by omega, b1, rfl⟩
    · obtain ⟨a1, g⟩ := y
      obtain ⟨p1, p2, p3, w, p4, p5, p6, p7⟩ := pp
      replace p1 : a1 = nI n := p1
      replace p2 : Fr (fun y => y = c 3) h g := p2
      replace p3 : ∀ l, l ≠ q → gI g (c 3) l = gI h (c 3) l := p3
      replace p4 : gI g (c 3) q = nI w := p4
      subst p1
      have Xg := X.fr p2
      have g68 : gI g 68 0 = nI n := by rw [p2.2.2.2.2.2.2 68 (pa_8 A 3 (by omega))]; exact K.1
      refine ⟨.inl (nI (q + 1), g), ?_, g, rfl, p2, fun r hr => ?_⟩
      · show BX6_findOwn_71 g 68 v1 v2 (nI q) (nI (x + bsB L (sB q))) (nI n) = _
        unfold BX6_findOwn_71
        simp only [ZL]
        rw [gg_t Xg.1, g68, if_pos (nI_le (Nat.le_refl _) (by omega)), nAdd]
      · by_cases y : r = q
        · rw [y]
          refine ⟨w, p4, owP_s (o := o) q32 q0 (fun i i5 hb => (ho i i5 hb).2.2) (fun i i5 hb => p6 i (bn i hb) hb) ?_⟩
          have has : ∃ i, i < 5 ∧ btN q i = 1 := by
            rcases T9a q q32 q0 with h | h | h | h | h
            · exact ⟨0, by omega, h⟩
            · exact ⟨1, by omega, h⟩
            · exact ⟨2, by omega, h⟩
            · exact ⟨3, by omega, h⟩
            · exact ⟨4, by omega, h⟩
          rcases p7 with e | ⟨i, i1, i2, i3⟩
          · obtain ⟨i, i5, hb⟩ := has
            have := p6 i (bn i hb) hb
            have ob := owP_b hL hx (ho i i5 hb).2.2
            omega
          · exact ⟨i, by omega, i2, i3⟩
        · rw [p3 r y]
          exact T r (by omega)
  obtain ⟨z, y1, h', y2, y3, y4⟩ := lp
  refine ⟨h', ?_, y3, y4⟩
  unfold MX6_findOwn_60 MX6_findOwn_71
  simp only [ZL]
  rw [gg_t X1, X.p, gg_t k3, l3, gg_in (by omega) (by omega), nCl (by omega), lt_eq, ← hh1, y1, y2]
theorem c_findOwn (X : PX h c) (A : PA c) (K : PLn h c n L D) (hn : n ≤ 5) (hL : ∀ i, L i ≤ 40) (hL0 : ∀ i, n ≤ i → L i = 0) (hD : ∀ i, D i ≤ 600) (hx : x ≤ 1800) : ∃ h', MX6_findOwn h 68 (nI x) (nI (2 ^ n)) = some h' ∧ Fr (fun y => y = c 3) h h' ∧ OT h' c L D x (2 ^ n) := by
  have h5 : 2 ^ n ≤ 2 ^ 5 := Nat.pow_le_pow_right (by omega) hn
  have h1 : 1 ≤ 2 ^ n := Nat.one_le_two_pow
  obtain ⟨X1, X2, ⟨k1, l1⟩, ⟨k2, l2⟩, ⟨k3, l3⟩, ⟨k4, l4⟩⟩ := id X
  obtain ⟨h0, hh0⟩ : ∃ h0, h0 = sI h (c 3) 0 (nI 0) := ⟨_, rfl⟩
  have F0 : Fr (fun y => y = c 3) h h0 := by rw [hh0]; exact Fr.sI rfl
  have lp : ∃ z, it (fun y : Int32 × Hp => BX6_findOwn_9 y.2 68 (nI x) (nI (2 ^ n)) y.1) (nI (0 + 1), h0) = some z ∧ Fr (fun y => y = c 3) h z ∧ OT z c L D x (2 ^ n) := by
    refine it_cnt (fun j y => y.1 = nI (j + 1) ∧ Fr (fun y => y = c 3) h y.2 ∧ OT y.2 c L D x (j + 1)) (2 ^ n - 1) (fun j y hj pp => ?_) (fun y pp => ?_) ⟨rfl, F0, fun r hr => ⟨0, by show gI h0 (c 3) r = _; rw [hh0, gI_sI, if_pos rfl, up_at, if_pos (by omega)], by rw [show r = 0 by omega]; exact owP_0⟩⟩
    · obtain ⟨a1, g⟩ := y
      obtain ⟨p1, p2, p3⟩ := pp
      replace p1 : a1 = nI (j + 1) := p1
      replace p2 : Fr (fun y => y = c 3) h g := p2
      replace p3 : OT g c L D x (j + 1) := p3
      subst p1
      have Xg := X.fr p2
      have Kg : PLn g c n L D := ⟨by rw [p2.2.2.2.2.2.2 68 (pa_8 A 3 (by omega))]; exact K.1, fun i hi => by rw [p2.2.2.2.2.2.2 _ (pa_n A 1 3 (by omega)), p2.2.2.2.2.2.2 _ (pa_n A 2 3 (by omega))]; exact K.2 i hi⟩
      have e5 := bsP_5 (q := j + 1) hL0 hn
      have b2 := bsB_le hL (sB (j + 1))
      obtain ⟨g1, y1, y2, y3⟩ := c_fo60 Xg A Kg hn hL hD hx (q := j + 1) (by omega) (by omega) p3 b2 (nI x) (nI (2 ^ n))
      have l20 : it (fun y : Int32 × Int32 => BX6_findOwn_20 g 68 (nI x) (nI (2 ^ n)) (nI (j + 1)) y.1 y.2) (nI x, nI 0) = some (.inl (nI (j + 1 + 1), g1)) := by
        refine it_seq2 (fun i => (nI (x + bsP L (j + 1) i), nI i)) n rfl (fun i hi => ?_) ?_
        · show BX6_findOwn_20 g 68 (nI x) (nI (2 ^ n)) (nI (j + 1)) (nI (x + bsP L (j + 1) i)) (nI i) = some (.inl (nI (x + (bsP L (j + 1) i + (if btN (j + 1) i = 1 then L i else 0))), nI (i + 1)))
          unfold BX6_findOwn_20 MX6_findOwn_51
          simp only [ZL]
          rw [gg_t Xg.1, Kg.1, if_neg (nI_ge hi (by omega)), Xg.p, gg_t Xg.2.2.1.1, Xg.2.2.1.2, gg_in (by omega) (by omega), nCl (by omega), (Kg.2 i hi).1, nAdd, nAdd, nAdd]
          by_cases z : btN (j + 1) i = 0
          · rw [if_pos (by rw [bt_0 (by omega) (by omega)]; exact z), if_neg (by omega)]
            rfl
          · rw [if_neg (by rw [bt_0 (by omega) (by omega)]; exact z), if_pos (by have := bt_lt (j + 1) i; omega), Nat.add_assoc]
        · show BX6_findOwn_20 g 68 (nI x) (nI (2 ^ n)) (nI (j + 1)) (nI (x + bsP L (j + 1) n)) (nI n) = _
          unfold BX6_findOwn_20
          simp only [ZL]
          rw [gg_t Xg.1, Kg.1, if_pos (nI_le (Nat.le_refl _) (by omega)), e5, y1, up1_some]
      refine ⟨(nI (j + 1 + 1), g1), ?_, rfl, p2.trans y2, y3⟩
      show BX6_findOwn_9 g 68 (nI x) (nI (2 ^ n)) (nI (j + 1)) = _
      unfold BX6_findOwn_9 MX6_findOwn_20
      simp only [ZL]
      rw [if_neg (nI_ge (by omega) (by omega))]
      exact l20
    · obtain ⟨a1, g⟩ := y
      obtain ⟨p1, p2, p3⟩ := pp
      replace p1 : a1 = nI (2 ^ n - 1 + 1) := p1
      replace p3 : OT g c L D x (2 ^ n - 1 + 1) := p3
      rw [show 2 ^ n - 1 + 1 = 2 ^ n by omega] at p1 p3
      subst p1
      refine ⟨g, ?_, p2, p3⟩
      show BX6_findOwn_9 g 68 (nI x) (nI (2 ^ n)) (nI (2 ^ n)) = _
      unfold BX6_findOwn_9
      rw [if_pos (nI_le (Nat.le_refl _) (by omega))]
  obtain ⟨z, y1, y2, y3⟩ := lp
  refine ⟨z, ?_, y2, y3⟩
  unfold MX6_findOwn MX6_findOwn_9
  simp only [ZL]
  rw [gg_t X1, X.p, gg_t k3, l3, gg_in (by omega) (by omega), nCl (by omega), lt_eq, ← hh0]
  exact y1
end
