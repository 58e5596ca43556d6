/-! sets of stories as bits -/
/-- is bit j of a set -/
def btN (a j : Nat) : Nat := a / 2 ^ j % 2
/-- how many of the first n bits are set -/
def pcN (a : Nat) : Nat → Nat
  | 0 => 0
  | n + 1 => pcN a n + btN a n
theorem pc_le {a : Nat} : ∀ n, pcN a n ≤ n
  | 0 => Nat.le_refl 0
  | n + 1 => by
    have := pc_le (a := a) n
    have : btN a n < 2 := Nat.mod_lt _ (by omega)
    unfold pcN
    omega
theorem pc_mono {a : Nat} : ∀ d n, pcN a n ≤ pcN a (n + d)
  | 0, n => Nat.le_refl _
  | d + 1, n => by
    have := pc_mono (a := a) d n
    show pcN a n ≤ pcN a (n + d) + btN a (n + d)
    omega
theorem bt_lt (a j : Nat) : btN a j < 2 := Nat.mod_lt _ (by omega)
theorem la_and {a b : Nat} (ha : a < 4294967296) (hb : b < 4294967296) : nI a &&& nI b = nI (a &&& b) := by
  rw [← Int32.toBitVec_inj, Int32.toBitVec_and]
  refine BitVec.eq_of_toNat_eq ?_
  rw [BitVec.toNat_and, pk_tn ha, pk_tn hb, pk_tn (Nat.and_lt_two_pow _ hb)]
theorem sh_k : ∀ j, j < 32 → ((nI j &&& nI 31).toBitVec.smod 32).toNat = j := by decide +kernel
theorem sh_u : ∀ j, j < 32 → (((nI j).toUInt32 &&& Int32.toUInt32 31).toBitVec % 32).toNat = j := by decide +kernel
/-- bit j of a set, as both sides ask for it -/
theorem bt_j {a j : Nat} (ha : a < 2147483648) (hj : j < 32) : ((nI a >>> (nI j &&& nI 31)) &&& nI 1) = nI (btN a j) := by
  rw [pk_shrN ha _ j (sh_k j hj)]
  exact pk_andN (Nat.lt_of_le_of_lt (Nat.div_le_self _ _) (by omega)) 1 (by decide)
theorem bt_0 {a j : Nat} (ha : a < 2147483648) (hj : j < 32) : (((nI a >>> (nI j &&& nI 31)) &&& nI 1) = nI 0) = (btN a j = 0) := by
  have := bt_lt a j
  rw [bt_j ha hj, nEq (by omega) (by omega)]
theorem bt_1 {a j : Nat} (ha : a < 2147483648) (hj : j < 32) : (((nI a >>> (nI j &&& nI 31)) &&& nI 1) = nI 1) = (btN a j = 1) := by
  have := bt_lt a j
  rw [bt_j ha hj, nEq (by omega) (by omega)]
/-! the count of all bits -/
theorem land8 (x y : Nat) : x &&& y = 256 * (x / 256 &&& y / 256) + (x % 256 &&& y % 256) := by
  have h1 : (x &&& y) / 256 = x / 256 &&& y / 256 := Nat.and_div_two_pow (n := 8)
  have h2 : (x &&& y) % 256 = (x % 256) &&& (y % 256) := Nat.and_mod_two_pow (n := 8)
  rw [← h1, ← h2]
  omega
def t1N (z : Nat) : Nat := z - (z / 2 &&& 85)
def t2N (z : Nat) : Nat := (z &&& 51) + (z / 4 &&& 51)
theorem tA1 : ∀ z, z < 512 → ((z / 2) % 256 &&& 85) = (z % 256 / 2 &&& 85) := by decide +kernel
theorem tA2 : ∀ z, z < 1024 → ((z / 4) % 256 &&& 51) = (z % 256 / 4 &&& 51) := by decide +kernel
theorem tB1 : ∀ z, z < 256 → t1N z < 256 ∧ (z / 2 &&& 85) ≤ z := by decide +kernel
theorem tB2 : ∀ z, z < 256 → t2N z < 256 := by decide +kernel
theorem tC : ∀ z, z < 256 → t2N (t1N z) % 16 ≤ 4 ∧ t2N (t1N z) / 16 ≤ 4 ∧ t2N (t1N z) % 16 + t2N (t1N z) / 16 = pcN z 8 := by decide +kernel
theorem tD : ∀ z, z < 16 → t2N (t1N z) ≤ 4 ∧ t2N (t1N z) = pcN z 4 := by decide +kernel
theorem tE1 : ∀ z, z < 16 → z - (z / 2 &&& 21845) = t1N z := by decide +kernel
theorem tE2 : ∀ z, z < 256 → (z &&& 13107) + (z / 4 &&& 13107) = t2N z := by decide +kernel
theorem and_le2 (n c : Nat) : (n / 2 &&& c) ≤ n := Nat.le_trans Nat.and_le_left (Nat.div_le_self _ _)
theorem F1s (n M c : Nat) (hc : M % 256 = 85) (hM : M / 256 = c) : n - (n / 2 &&& M) = 256 * (n / 256 - (n / 256 / 2 &&& c)) + t1N (n % 256) := by
  have h := land8 (n / 2) M
  rw [hc, hM] at h
  have h3 := tA1 (n % 512) (by omega)
  rw [show n % 512 / 2 % 256 = n / 2 % 256 by omega, show n % 512 % 256 = n % 256 by omega] at h3
  rw [h3, show n / 2 / 256 = n / 256 / 2 by omega] at h
  have h4 := (tB1 (n % 256) (by omega)).2
  have h5 := and_le2 (n / 256) c
  unfold t1N
  omega
theorem F2s (n M c : Nat) (hc : M % 256 = 51) (hM : M / 256 = c) : (n &&& M) + (n / 4 &&& M) = 256 * ((n / 256 &&& c) + (n / 256 / 4 &&& c)) + t2N (n % 256) := by
  have h := land8 n M
  have h' := land8 (n / 4) M
  rw [hc, hM] at h h'
  have h3 := tA2 (n % 1024) (by omega)
  rw [show n % 1024 / 4 % 256 = n / 4 % 256 by omega, show n % 1024 % 256 = n % 256 by omega] at h3
  rw [h3, show n / 4 / 256 = n / 256 / 4 by omega] at h'
  unfold t2N
  omega
theorem bc_1 {n : Nat} (hn : n < 1048576) : n - (n / 2 &&& 1431655765) = 65536 * t1N (n / 65536) + 256 * t1N (n / 256 % 256) + t1N (n % 256) := by
  rw [F1s n 1431655765 5592405 (by omega) (by omega), F1s (n / 256) 5592405 21845 (by omega) (by omega), tE1 (n / 256 / 256) (by omega), show n / 256 / 256 = n / 65536 by omega]
  omega
theorem bc_2 {u v w : Nat} (hu : u < 256) (hv : v < 256) (hw : w < 256) : ((65536 * w + 256 * v + u) &&& 858993459) + ((65536 * w + 256 * v + u) / 4 &&& 858993459) = 65536 * t2N w + 256 * t2N v + t2N u := by
  rw [F2s _ 858993459 3355443 (by omega) (by omega), F2s _ 3355443 13107 (by omega) (by omega), show (65536 * w + 256 * v + u) / 256 / 256 = w by omega, show (65536 * w + 256 * v + u) / 256 % 256 = v by omega, show (65536 * w + 256 * v + u) % 256 = u by omega, tE2 w hw]
  omega
theorem a15 (x : Nat) : x &&& 15 = x % 16 := Nat.and_two_pow_sub_one_eq_mod x 4
theorem a63 (x : Nat) : x &&& 63 = x % 64 := Nat.and_two_pow_sub_one_eq_mod x 6
theorem bc_3 {y : Nat} : (y &&& 252645135) = 16777216 * (y / 16777216 % 16) + 65536 * (y / 65536 % 256 % 16) + 256 * (y / 256 % 256 % 16) + y % 256 % 16 := by
  have h1 := land8 y 252645135
  have h2 := land8 (y / 256) 986895
  have h3 := land8 (y / 65536) 3855
  rw [show 252645135 % 256 = 15 from rfl, show 252645135 / 256 = 986895 from rfl, a15] at h1
  rw [show 986895 % 256 = 15 from rfl, show 986895 / 256 = 3855 from rfl, a15, show y / 256 / 256 = y / 65536 by omega] at h2
  rw [show 3855 % 256 = 15 from rfl, show 3855 / 256 = 15 from rfl, a15, a15, show y / 65536 / 256 = y / 16777216 by omega] at h3
  rw [h1, h2, h3]
  generalize y / 16777216 % 16 = D
  generalize y / 65536 % 256 % 16 = w
  generalize y / 256 % 256 % 16 = v
  generalize y % 256 % 16 = u
  omega
theorem bt_mod {n i j : Nat} (h : i < j) : btN (n % 2 ^ j) i = btN n i := by
  have e := Nat.testBit_mod_two_pow n j i
  rw [Nat.testBit_eq_decide_div_mod_eq, Nat.testBit_eq_decide_div_mod_eq, decide_eq_true h, Bool.true_and] at e
  have e2 := decide_eq_decide.mp e
  have h1 := bt_lt (n % 2 ^ j) i
  have h2 := bt_lt n i
  unfold btN at h1 h2 ⊢
  generalize n % 2 ^ j / 2 ^ i % 2 = x at e2 h1 ⊢
  generalize n / 2 ^ i % 2 = y at e2 h2 ⊢
  omega
theorem pc_mod {n j : Nat} : ∀ i, i ≤ j → pcN (n % 2 ^ j) i = pcN n i
  | 0, _ => rfl
  | i + 1, h => by
    show pcN (n % 2 ^ j) i + btN (n % 2 ^ j) i = pcN n i + btN n i
    rw [pc_mod i (by omega), bt_mod (by omega)]
theorem pc_spl {n j : Nat} : ∀ d, pcN n (j + d) = pcN n j + pcN (n / 2 ^ j) d
  | 0 => rfl
  | d + 1 => by
    show pcN n (j + d) + btN n (j + d) = pcN n j + (pcN (n / 2 ^ j) d + btN (n / 2 ^ j) d)
    have : btN n (j + d) = btN (n / 2 ^ j) d := by unfold btN; rw [Nat.div_div_eq_div_mul, Nat.pow_add]
    rw [pc_spl d, this, Nat.add_assoc]
theorem pc_20 (n : Nat) : pcN n 20 = pcN (n % 256) 8 + pcN (n / 256 % 256) 8 + pcN (n / 65536) 4 := by
  have a1 := pc_spl (n := n) (j := 8) 12
  have a2 := pc_spl (n := n / 2 ^ 8) (j := 8) 4
  have a3 := pc_mod (n := n) (j := 8) 8 (Nat.le_refl _)
  have a4 := pc_mod (n := n / 2 ^ 8) (j := 8) 8 (Nat.le_refl _)
  rw [show (8 : Nat) + 12 = 20 from rfl] at a1
  rw [show (8 : Nat) + 4 = 12 from rfl, Nat.div_div_eq_div_mul] at a2
  rw [show (2 : Nat) ^ 8 = 256 from rfl] at a1 a2 a3 a4
  rw [show (256 : Nat) * 256 = 65536 from rfl] at a2
  rw [a1, a2, a3, a4, Nat.add_assoc]
theorem pc_hi {a s : Nat} (h : a < 2 ^ s) : ∀ d, pcN a (s + d) = pcN a s
  | 0 => rfl
  | d + 1 => by
    show pcN a (s + d) + btN a (s + d) = pcN a s
    rw [pc_hi h d]
    have : a / 2 ^ (s + d) = 0 := Nat.div_eq_of_lt (Nat.lt_of_lt_of_le h (Nat.pow_le_pow_right (by omega) (by omega)))
    unfold btN
    rw [this, Nat.zero_mod, Nat.add_zero]
/-- the set as the class tests it, and as the reference does -/
theorem set_c {v : Int32} {s : Nat} (hs : s ≤ 20) : ((v.toUInt32 >>> ((nI s).toUInt32 &&& Int32.toUInt32 31)).toInt32 = nI 0) ↔ ∃ a, a < 2 ^ s ∧ v = nI a := by
  have k1 := pk_ushr v (nI s) s (sh_u s (by omega))
  constructor
  · intro e
    rw [e] at k1
    have k2 : v.toBitVec.toNat / 2 ^ s = 0 := by rw [← k1]; rfl
    have k3 : v.toBitVec.toNat < 2 ^ s := by
      rcases Nat.lt_or_ge v.toBitVec.toNat (2 ^ s) with z | z
      · exact z
      · have := Nat.div_pos z (Nat.two_pow_pos s)
        omega
    refine ⟨v.toBitVec.toNat, k3, ?_⟩
    rw [← Int32.toBitVec_inj]
    refine BitVec.eq_of_toNat_eq ?_
    rw [pk_tn v.toBitVec.isLt]
  · rintro ⟨a, ha, rfl⟩
    have hp : 2 ^ s ≤ 2 ^ 20 := Nat.pow_le_pow_right (by omega) hs
    rw [pk_ushrN (show a < 2 ^ 32 by omega) (nI s) s (sh_u s (by omega)), Nat.div_eq_of_lt ha]
theorem set_r {v : Int32} {s : Nat} (hs : s ≤ 20) : (¬ v < nI 0 ∧ v < nI 1 <<< (nI s &&& nI 31)) ↔ ∃ a, a < 2 ^ s ∧ v = nI a := by
  have hp : 2 ^ s ≤ 2 ^ 20 := Nat.pow_le_pow_right (by omega) hs
  rw [pk_shlN _ s (sh_k s (by omega)) (by omega), Nat.one_mul]
  constructor
  · rintro ⟨h0, h1⟩
    rcases arg2 v with z | ⟨k, hk, rfl⟩
    · exact absurd z h0
    · rw [nLt hk (by omega)] at h1
      exact ⟨k, h1, rfl⟩
  · rintro ⟨a, ha, rfl⟩
    exact ⟨nI_nlt (Nat.zero_le _) (by omega), nI_lt ha (by omega)⟩
/-! the search, as both sides go through it -/
def foldD {β : Type} (f : Nat → β → β) : Nat → β → β
  | 0, b => b
  | n + 1, b => foldD f n (f (n + 1) b)
def foldU {β : Type} (f : Nat → β → β) : Nat → β → β
  | 0, b => b
  | n + 1, b => f n (foldU f n b)
theorem foldU_ih {β : Type} {Q : β → Prop} {f : Nat → β → β} : ∀ n b, (∀ j b, j < n → Q b → Q (f j b)) → Q b → Q (foldU f n b)
  | 0, _, _, h => h
  | n + 1, b, H, h => H n _ (by omega) (foldU_ih n b (fun j b hj => H j b (by omega)) h)
theorem foldD_ih {β : Type} {Q : β → Prop} {f : Nat → β → β} : ∀ n b, (∀ j b, 1 ≤ j → j ≤ n → Q b → Q (f j b)) → Q b → Q (foldD f n b)
  | 0, _, _, h => h
  | n + 1, b, H, h => foldD_ih n _ (fun j b h1 hj => H j b h1 (by omega)) (H (n + 1) b (by omega) (by omega) h)
/-- the best so far: 0 none, else its lines and one; columns; what is kept -/
abbrev Bst : Type := Nat × (Nat → Nat) × (Nat → Nat)
def upN (f : Nat → Nat) (k v : Nat) : Nat → Nat := fun j => if j = k then v else f j
def kpS (N Lg : Nat) (P : Nat → Nat) (L : Nat → Nat → Nat) (col : Nat → Nat) : Nat → (Nat → Nat) → (Nat → Nat) → Nat → Bst → Bst
  | 0, kp, _, sum, b => if b.1 ≤ sum then (sum + 1, col, kp) else b
  | d + 1, kp, fl, sum, b => foldD (fun n b => if fl (col (N - (d + 1))) + L (N - (d + 1)) n ≤ Lg then kpS N Lg P L col d (upN kp (N - (d + 1)) n) (upN fl (col (N - (d + 1))) (fl (col (N - (d + 1))) + L (N - (d + 1)) n)) (sum + L (N - (d + 1)) n) b else b) (P (N - (d + 1))) b
def colS (N Cc Lg : Nat) (P : Nat → Nat) (L : Nat → Nat → Nat) : Nat → (Nat → Nat) → Bst → Bst
  | 0, col, b => kpS N Lg P L col N (fun _ => 0) (fun _ => 0) 0 b
  | d + 1, col, b => foldU (fun c b => colS N Cc Lg P L d (upN col (N - (d + 1)) c) b) Cc b
/-- lines of the first n stories in column c -/
def clN (L : Nat → Nat → Nat) (col kp : Nat → Nat) (c : Nat) : Nat → Nat
  | 0 => 0
  | n + 1 => clN L col kp c n + (if col n = c then L n (kp n) else 0)
theorem clN_c {L : Nat → Nat → Nat} {col kp kp' : Nat → Nat} {c : Nat} : ∀ n, (∀ j, j < n → kp' j = kp j) → clN L col kp' c n = clN L col kp c n
  | 0, _ => rfl
  | n + 1, H => by
    unfold clN
    rw [clN_c n (fun j hj => H j (by omega)), H n (by omega)]
/-- what holds of a best one -/
def BtQ (N Cc Lg : Nat) (P : Nat → Nat) (L : Nat → Nat → Nat) (b : Bst) : Prop := b.1 ≠ 0 → (∀ j, j < N → b.2.1 j < Cc ∧ 1 ≤ b.2.2 j ∧ b.2.2 j ≤ P j) ∧ ∀ c, clN L b.2.1 b.2.2 c N ≤ Lg
theorem kpS_q {N Cc Lg : Nat} {P : Nat → Nat} {L : Nat → Nat → Nat} {col : Nat → Nat} (hc : ∀ j, j < N → col j < Cc) : ∀ d kp fl sum b, d ≤ N → (∀ j, j < N - d → 1 ≤ kp j ∧ kp j ≤ P j) → (∀ c, fl c = clN L col kp c (N - d) ∧ fl c ≤ Lg) → BtQ N Cc Lg P L b → BtQ N Cc Lg P L (kpS N Lg P L col d kp fl sum b)
  | 0, kp, fl, sum, b, _, h1, h2, hb => by
    unfold kpS
    by_cases z : b.1 ≤ sum
    · rw [if_pos z]
      exact fun _ => ⟨fun j hj => ⟨hc j hj, h1 j (by omega)⟩, fun c => by
        have := h2 c
        rw [Nat.sub_zero] at this
        show clN L col kp c N ≤ Lg
        omega⟩
    · rw [if_neg z]
      exact hb
  | d + 1, kp, fl, sum, b, hd, h1, h2, hb => by
    unfold kpS
    refine foldD_ih (Q := BtQ N Cc Lg P L) _ b (fun n b n1 n2 hb => ?_) hb
    by_cases z : fl (col (N - (d + 1))) + L (N - (d + 1)) n ≤ Lg
    · rw [if_pos z]
      refine kpS_q hc d _ _ _ b (by omega) (fun j hj => ?_) (fun c => ?_) hb
      · unfold upN
        by_cases y : j = N - (d + 1)
        · rw [if_pos y, y]; exact ⟨n1, n2⟩
        · rw [if_neg y]; exact h1 j (by omega)
      · have e : N - d = N - (d + 1) + 1 := by omega
        have k1 : clN L col (upN kp (N - (d + 1)) n) c (N - (d + 1)) = clN L col kp c (N - (d + 1)) := clN_c _ (fun j hj => by unfold upN; rw [if_neg (by omega)])
        rw [e]
        unfold clN
        rw [k1, ← (h2 c).1]
        have hc2 := (h2 c).2
        unfold upN
        rw [if_pos rfl]
        by_cases y : c = col (N - (d + 1))
        · rw [if_pos y, if_pos y.symm, y]
          exact ⟨rfl, z⟩
        · rw [if_neg y, if_neg (fun e => y e.symm)]
          exact ⟨rfl, hc2⟩
    · rw [if_neg z]
      exact hb
theorem colS_q {N Cc Lg : Nat} {P : Nat → Nat} {L : Nat → Nat → Nat} : ∀ d col b, d ≤ N → (∀ j, j < N - d → col j < Cc) → BtQ N Cc Lg P L b → BtQ N Cc Lg P L (colS N Cc Lg P L d col b)
  | 0, col, b, _, h1, hb => by
    unfold colS
    refine kpS_q (fun j hj => h1 j (by omega)) N _ _ _ b (Nat.le_refl _) (fun j hj => by omega) (fun c => ?_) hb
    rw [Nat.sub_self]
    exact ⟨rfl, Nat.zero_le _⟩
  | d + 1, col, b, hd, h1, hb => by
    unfold colS
    refine foldU_ih (Q := BtQ N Cc Lg P L) _ b (fun c b hc hb => ?_) hb
    refine colS_q d _ b (by omega) (fun j hj => ?_) hb
    unfold upN
    by_cases y : j = N - (d + 1)
    · rw [if_pos y]; exact hc
    · rw [if_neg y]; exact h1 j (by omega)
