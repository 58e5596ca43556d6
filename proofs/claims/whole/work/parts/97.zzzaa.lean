/-! the count of all bits: the whole -/
theorem bc_4 {u0 u1 v0 v1 w : Nat} (a0 : u0 ≤ 4) (a1 : u1 ≤ 4) (b0 : v0 ≤ 4) (b1 : v1 ≤ 4) (c : w ≤ 4) : (65536 * w + 256 * (16 * v1 + v0) + (16 * u1 + u0)) / 16 = 4096 * w + 256 * v1 + 16 * v0 + u1 := by omega
theorem bc_5 {u0 u1 v0 v1 w y : Nat} (a0 : u0 ≤ 4) (a1 : u1 ≤ 4) (b0 : v0 ≤ 4) (b1 : v1 ≤ 4) (c : w ≤ 4) (hy : y = 65536 * w + 256 * (16 * v1 + v0) + (16 * u1 + u0) + (4096 * w + 256 * v1 + 16 * v0 + u1)) : y / 16777216 = 0 ∧ y / 65536 % 256 % 16 = w ∧ y / 256 % 256 % 16 = v0 + v1 ∧ y % 256 % 16 = u0 + u1 := by
  refine ⟨by omega, ?_, ?_, ?_⟩
  · have : y / 65536 = w := by omega
    omega
  · have : y / 256 = 256 * w + 16 * w + 17 * v1 + v0 := by omega
    omega
  · have : y % 256 = 16 * (u1 + v0) + u0 + u1 := by omega
    omega
theorem bc_6 {u v w x : Nat} (a : u ≤ 8) (b : v ≤ 8) (c : w ≤ 4) (hx : x = 65536 * w + 256 * v + u) : (x + x / 256 + (x + x / 256) / 65536) % 64 = u + v + w := by
  have e1 : x / 256 = 256 * w + v := by omega
  have e2 : (x + (256 * w + v)) / 65536 = w := by omega
  rw [e1, e2, hx]
  omega
theorem bc_all {h : Hp} {n : Nat} (hn : n < 1048576) : MJ6_bitCount_0f7a4 h (nI n) = some (nI (pcN n 20)) := by
  have q1 := bc_1 hn
  have p20 := pc_20 n
  have z1 := (tB1 (n % 256) (by omega)).1
  have z2 := (tB1 (n / 256 % 256) (by omega)).1
  have z3 := (tB1 (n / 65536) (by omega)).1
  have q2 := bc_2 z1 z2 z3
  obtain ⟨c1, c2, c3⟩ := tC (n % 256) (by omega)
  obtain ⟨d1, d2, d3⟩ := tC (n / 256 % 256) (by omega)
  obtain ⟨e1, e2⟩ := tD (n / 65536) (by omega)
  have L1 := and_le2 n 1431655765
  have bb : n - (n / 2 &&& 1431655765) < 2 ^ 32 := by omega
  revert q1 q2 p20 z1 z2 z3 c1 c2 c3 d1 d2 d3 e1 e2
  generalize t1N (n % 256) = A
  generalize t1N (n / 256 % 256) = B
  generalize t1N (n / 65536) = C
  generalize t2N A = U
  generalize t2N B = V
  generalize t2N C = W
  generalize pcN (n % 256) 8 = pu
  generalize pcN (n / 256 % 256) 8 = pv
  generalize pcN (n / 65536) 4 = pw
  intro q1 p20 z1 z2 z3 q2 c1 c2 c3 d1 d2 d3 e1 e2
  have hu : U = 16 * (U / 16) + U % 16 := by omega
  have hv : V = 16 * (V / 16) + V % 16 := by omega
  have x16 : (65536 * W + 256 * V + U) / 16 = 4096 * W + 256 * (V / 16) + 16 * (V % 16) + U / 16 := by
    have := bc_4 c1 c2 d1 d2 e1
    rw [← hu, ← hv] at this
    exact this
  obtain ⟨s0, s1, s2, s3⟩ := bc_5 (y := 65536 * W + 256 * V + U + (65536 * W + 256 * V + U) / 16) c1 c2 d1 d2 e1 (by rw [x16, ← hu, ← hv])
  have q3 := bc_3 (y := 65536 * W + 256 * V + U + (65536 * W + 256 * V + U) / 16)
  rw [s0, s1, s2, s3, c3, d3, Nat.zero_mod, Nat.mul_zero, Nat.zero_add] at q3
  have pu8 : pu ≤ 8 := by omega
  have pv8 : pv ≤ 8 := by omega
  have q6 := bc_6 (x := 65536 * W + 256 * pv + pu) pu8 pv8 e1 rfl
  have U8 : U < 256 := by omega
  have V8 : V < 256 := by omega
  clear s0 s1 s2 s3 x16 hu hv c3 d3 c1 c2 d1 d2
  have us : ∀ x j, x < 4294967296 → j < 32 → ((nI x).toUInt32 >>> ((nI j).toUInt32 &&& Int32.toUInt32 31)).toInt32 = nI (x / 2 ^ j) := fun x j hx hj => pk_ushrN (show x < 2 ^ 32 by omega) (nI j) j (sh_u j hj)
  have u1 := us n 1 (by omega) (by omega)
  have u2 := us (65536 * C + 256 * B + A) 2 (by omega) (by omega)
  have u3 := us (65536 * W + 256 * V + U) 4 (by omega) (by omega)
  have u4 := us (65536 * W + 256 * pv + pu) 8 (by omega) (by omega)
  have u5 := us (65536 * W + 256 * pv + pu + (65536 * W + 256 * pv + pu) / 256) 16 (by omega) (by omega)
  rw [show (2 : Nat) ^ 1 = 2 from rfl] at u1
  rw [show (2 : Nat) ^ 2 = 4 from rfl] at u2
  rw [show (2 : Nat) ^ 4 = 16 from rfl] at u3
  rw [show (2 : Nat) ^ 8 = 256 from rfl] at u4
  rw [show (2 : Nat) ^ 16 = 65536 from rfl] at u5
  have w1 : nI n - (nI (n / 2) &&& nI 1431655765) = nI (65536 * C + 256 * B + A) := by rw [la_and (by omega) (by omega), nSub L1, q1]
  have w2 : (nI (65536 * C + 256 * B + A) &&& nI 858993459) + (nI ((65536 * C + 256 * B + A) / 4) &&& nI 858993459) = nI (65536 * W + 256 * V + U) := by rw [la_and (by omega) (by omega), la_and (by omega) (by omega), nAdd, q2]
  have w3 : (nI (65536 * W + 256 * V + U) + nI ((65536 * W + 256 * V + U) / 16)) &&& nI 252645135 = nI (65536 * W + 256 * pv + pu) := by rw [nAdd, la_and (by omega) (by omega), q3]
  have w4 : nI (65536 * W + 256 * pv + pu) + nI ((65536 * W + 256 * pv + pu) / 256) = nI (65536 * W + 256 * pv + pu + (65536 * W + 256 * pv + pu) / 256) := nAdd _ _
  have w5 : (nI (65536 * W + 256 * pv + pu + (65536 * W + 256 * pv + pu) / 256) + nI ((65536 * W + 256 * pv + pu + (65536 * W + 256 * pv + pu) / 256) / 65536)) &&& nI 63 = nI (pcN n 20) := by rw [nAdd, la_and (by omega) (by omega), a63, q6, p20, e2]
  unfold MJ6_bitCount_0f7a4
  simp only [ZL] at u1 u2 u3 u4 u5 ⊢
  rw [show (1431655765 : Int32) = nI 1431655765 from rfl, show (858993459 : Int32) = nI 858993459 from rfl, show (252645135 : Int32) = nI 252645135 from rfl, lt_eq, u1, w1, lt_eq, u2, w2, lt_eq, u3, w3, lt_eq, u4, w4, lt_eq, u5, w5]
