/-! PURE: numbers, heaps, loops -/
theorem ZL : (0 : Int32) = nI 0 ∧ (1 : Int32) = nI 1 ∧ (2 : Int32) = nI 2 ∧ (3 : Int32) = nI 3 ∧ (4 : Int32) = nI 4 ∧ (5 : Int32) = nI 5 ∧ (6 : Int32) = nI 6 ∧ (7 : Int32) = nI 7 ∧ (8 : Int32) = nI 8 ∧ (9 : Int32) = nI 9 ∧ (10 : Int32) = nI 10 ∧ (11 : Int32) = nI 11 ∧ (12 : Int32) = nI 12 ∧ (13 : Int32) = nI 13 ∧ (14 : Int32) = nI 14 ∧ (15 : Int32) = nI 15 ∧ (16 : Int32) = nI 16 ∧ (17 : Int32) = nI 17 ∧ (18 : Int32) = nI 18 ∧ (19 : Int32) = nI 19 ∧ (20 : Int32) = nI 20 ∧ (21 : Int32) = nI 21 ∧ (22 : Int32) = nI 22 ∧ (23 : Int32) = nI 23 ∧ (24 : Int32) = nI 24 ∧ (25 : Int32) = nI 25 ∧ (26 : Int32) = nI 26 ∧ (27 : Int32) = nI 27 ∧ (28 : Int32) = nI 28 ∧ (29 : Int32) = nI 29 ∧ (30 : Int32) = nI 30 ∧ (31 : Int32) = nI 31 ∧ (32 : Int32) = nI 32 ∧ (33 : Int32) = nI 33 ∧ (34 : Int32) = nI 34 ∧ (35 : Int32) = nI 35 ∧ (36 : Int32) = nI 36 ∧ (37 : Int32) = nI 37 ∧ (38 : Int32) = nI 38 ∧ (39 : Int32) = nI 39 ∧ (40 : Int32) = nI 40 ∧ (41 : Int32) = nI 41 ∧ (42 : Int32) = nI 42 ∧ (43 : Int32) = nI 43 ∧ (44 : Int32) = nI 44 ∧ (45 : Int32) = nI 45 ∧ (46 : Int32) = nI 46 ∧ (47 : Int32) = nI 47 ∧ (48 : Int32) = nI 48 ∧ (54 : Int32) = nI 54 ∧ (57 : Int32) = nI 57 ∧ (59 : Int32) = nI 59 ∧ (60 : Int32) = nI 60 ∧ (62 : Int32) = nI 62 ∧ (63 : Int32) = nI 63 ∧ (70 : Int32) = nI 70 ∧ (85 : Int32) = nI 85 ∧ (90 : Int32) = nI 90 ∧ (97 : Int32) = nI 97 ∧ (99 : Int32) = nI 99 ∧ (100 : Int32) = nI 100 ∧ (110 : Int32) = nI 110 ∧ (120 : Int32) = nI 120 ∧ (122 : Int32) = nI 122 ∧ (125 : Int32) = nI 125 ∧ (130 : Int32) = nI 130 ∧ (145 : Int32) = nI 145 ∧ (165 : Int32) = nI 165 ∧ (180 : Int32) = nI 180 ∧ (181 : Int32) = nI 181 ∧ (183 : Int32) = nI 183 ∧ (185 : Int32) = nI 185 ∧ (200 : Int32) = nI 200 ∧ (255 : Int32) = nI 255 ∧ (300 : Int32) = nI 300 ∧ (400 : Int32) = nI 400 ∧ (430 : Int32) = nI 430 ∧ (432 : Int32) = nI 432 ∧ (512 : Int32) = nI 512 ∧ (562 : Int32) = nI 562 ∧ (600 : Int32) = nI 600 ∧ (645 : Int32) = nI 645 ∧ (852 : Int32) = nI 852 ∧ (999 : Int32) = nI 999 ∧ (9999 : Int32) = nI 9999 ∧ (64630 : Int32) = nI 64630 ∧ (320230 : Int32) = nI 320230 ∧ (320962 : Int32) = nI 320962 ∧ (326582 : Int32) = nI 326582 ∧ (327382 : Int32) = nI 327382 ∧ (328492 : Int32) = nI 328492 ∧ (337180 : Int32) = nI 337180 ∧ (337220 : Int32) = nI 337220 ∧ (1000000000 : Int32) = nI 1000000000 := ⟨rfl, rfl, rfl, rfl, rfl, rfl, rfl, rfl, rfl, rfl, rfl, rfl, rfl, rfl, rfl, rfl, rfl, rfl, rfl, rfl, rfl, rfl, rfl, rfl, rfl, rfl, rfl, rfl, rfl, rfl, rfl, rfl, rfl, rfl, rfl, rfl, rfl, rfl, rfl, rfl, rfl, rfl, rfl, rfl, rfl, rfl, rfl, rfl, rfl, rfl, rfl, rfl, rfl, rfl, rfl, rfl, rfl, rfl, rfl, rfl, rfl, rfl, rfl, rfl, rfl, rfl, rfl, rfl, rfl, rfl, rfl, rfl, rfl, rfl, rfl, rfl, rfl, rfl, rfl, rfl, rfl, rfl, rfl, rfl, rfl, rfl, rfl, rfl, rfl, rfl, rfl, rfl, rfl, rfl⟩

theorem nLt {a b : Nat} (ha : a < 2147483648) (hb : b < 2147483648) : (nI a < nI b) = (a < b) := propext (nI_ltI ha hb)
theorem nLe {a b : Nat} (ha : a < 2147483648) (hb : b < 2147483648) : (nI a ≤ nI b) = (a ≤ b) := propext (nI_leI ha hb)
theorem nEq {a b : Nat} (ha : a < 2147483648) (hb : b < 2147483648) : (nI a = nI b) = (a = b) := propext (nI_eq ha hb)
theorem nCl {a : Nat} (ha : a < 2147483648) : (nI a).toNatClampNeg = a := nI_clamp ha
theorem nMul (a b : Nat) : nI a * nI b = nI (a * b) := pk_mul a b
theorem nAdd (a b : Nat) : nI a + nI b = nI (a + b) := nI_add a b
theorem nSub {a b : Nat} (h : b ≤ a) : nI a - nI b = nI (a - b) := pk_sub h
theorem nDiv {a d : Nat} (ha : a < 2147483648) (h0 : 0 < d) (hd : d < 2147483648) : nI a / nI d = nI (a / d) := pk_div ha h0 hd
theorem nRem {a d : Nat} (ha : a < 2147483648) (h0 : 0 < d) (hd : d < 2147483648) : nI a - nI (a / d) * nI d = nI (a % d) := by
  rw [← pk_div ha h0 hd]; exact pk_rem ha h0 hd
theorem nRem2 {a d : Nat} : nI a - nI (a / d * d) = nI (a % d) := by
  rw [pk_sub (Nat.div_mul_le_self a d)]
  exact congrArg nI (by have := Nat.div_add_mod' a d; omega)
theorem gg_in {β : Type} {c n : Nat} {A : Option β} (h : c < n) (hn : n < 2147483648) : gg (inB (nI c) n = true) A = A := gg_t (by
  simp only [inB, Bool.and_eq_true, decide_eq_true_eq]
  exact ⟨nI_pos (by omega), by rw [nI_clamp (by omega)]; exact h⟩)
theorem gg_eq {β α : Type} [DecidableEq α] {a b : α} {A : Option β} (h : a = b) : gg (a = b) A = A := gg_t h
theorem gg_rf {β α : Type} [DecidableEq α] {a : α} {A : Option β} : gg (a = a) A = A := gg_t rfl
theorem gg_T {β : Type} {A : Option β} {i : Decidable True} : @gg β True i A = A := gg_t trivial
theorem gn_F {β : Type} {A : Option β} {i : Decidable False} : @gn β False i A = A := gn_f id
theorem gn_ne {β : Type} {a : Nat} {A : Option β} (h : a ≠ 0) : gn (a = 0) A = A := gn_f h
theorem lt_eq {α β : Type} (v : α) (f : α → β) : lt v f = f v := rfl
theorem ob_some {α β : Type} (v : α) (f : α → Option β) : Option.bind (some v) f = f v := rfl
theorem up1_some {σ ρ : Type} (v : ρ) : up1 (σ := σ) (some v) = some (.inr v) := rfl
theorem i0 {α : Type} {c : Prop} [Decidable c] {a b : α} (h : ¬ c) : (if c then a else b) = b := if_neg h
theorem i1 {α : Type} {c : Prop} [Decidable c] {a b : α} (h : c) : (if c then a else b) = a := if_pos h
theorem mI_lt (n : Nat) (h : n < 2147483648) : ((-1 : Int32) < nI n) = True := by
  refine eq_true ?_
  rw [Int32.lt_iff_toInt_lt, nI_toInt h, show (-1 : Int32).toInt = -1 from by decide]
  omega
theorem nI_ltm (n : Nat) (h : n < 2147483648) : (nI n < (-1 : Int32)) = False := by
  refine eq_false ?_
  rw [Int32.lt_iff_toInt_lt, nI_toInt h, show (-1 : Int32).toInt = -1 from by decide]
  omega
theorem mI_le (n : Nat) (h : n < 2147483648) : ((-1 : Int32) ≤ nI n) = True := by
  refine eq_true ?_
  rw [Int32.le_iff_toInt_le, nI_toInt h, show (-1 : Int32).toInt = -1 from by decide]
  omega
theorem nI_lem (n : Nat) (h : n < 2147483648) : (nI n ≤ (-1 : Int32)) = False := by
  refine eq_false ?_
  rw [Int32.le_iff_toInt_le, nI_toInt h, show (-1 : Int32).toInt = -1 from by decide]
  omega
theorem mI_eq (n : Nat) (h : n < 2147483648) : ((-1 : Int32) = nI n) = False := by
  refine eq_false ?_
  rw [← Int32.toInt_inj, nI_toInt h, show (-1 : Int32).toInt = -1 from by decide]
  omega
theorem nI_eqm (n : Nat) (h : n < 2147483648) : (nI n = (-1 : Int32)) = False := by
  refine eq_false ?_
  rw [← Int32.toInt_inj, nI_toInt h, show (-1 : Int32).toInt = -1 from by decide]
  omega
theorem nM1 {n : Nat} (h : n < 2147483648) : (-nI 1 < nI n) = True := mI_lt n h
theorem nM2 {n : Nat} (h : n < 2147483648) : (nI n < -nI 1) = False := nI_ltm n h
theorem nM3 {n : Nat} (h : n < 2147483648) : (-nI 1 ≤ nI n) = True := mI_le n h
theorem nM4 {n : Nat} (h : n < 2147483648) : (nI n ≤ -nI 1) = False := nI_lem n h
theorem nM5 {n : Nat} (h : n < 2147483648) : (-nI 1 = nI n) = False := mI_eq n h
theorem nM6 {n : Nat} (h : n < 2147483648) : (nI n = -nI 1) = False := nI_eqm n h
theorem mI_add (n : Nat) : (-1 : Int32) + nI (n + 1) = nI n := by rw [Int32.add_comm]; exact pk_m1 n
/-- an argument: below 0, too large, or a number -/
theorem arg (v : Int32) (n : Nat) (hn : n < 2147483648) : v < nI 0 ∨ nI n ≤ v ∨ ∃ k, k < n ∧ v = nI k := pk_ix v hn
theorem arg2 (v : Int32) : v < nI 0 ∨ ∃ k, k < 2147483648 ∧ v = nI k := by
  by_cases h : v < 0
  · exact Or.inl h
  · exact Or.inr (nI_of h)
/-! heaps -/
theorem kd_sI (h : Hp) (a i : Nat) (v : Int32) : kd (sI h a i v) = kd h := rfl
theorem ln_sI (h : Hp) (a i : Nat) (v : Int32) : ln (sI h a i v) = ln h := rfl
theorem gP_sI (h : Hp) (a i : Nat) (v : Int32) : gP (sI h a i v) = gP h := rfl
theorem sz_sI (h : Hp) (a i : Nat) (v : Int32) : sz (sI h a i v) = sz h := rfl
theorem nc_sI (h : Hp) (a i : Nat) (v : Int32) : nc (sI h a i v) = nc h := rfl
theorem ns_sI (h : Hp) (a i : Nat) (v : Int32) : ns (sI h a i v) = ns h := rfl
theorem gI_sI (h : Hp) (a i : Nat) (v : Int32) (b : Nat) : gI (sI h a i v) b = if b = a then va_up (gI h a) i v else gI h b := rfl
theorem kd_sP (h : Hp) (a i v : Nat) : kd (sP h a i v) = kd h := rfl
theorem ln_sP (h : Hp) (a i v : Nat) : ln (sP h a i v) = ln h := rfl
theorem gI_sP (h : Hp) (a i v : Nat) : gI (sP h a i v) = gI h := rfl
theorem sz_sP (h : Hp) (a i v : Nat) : sz (sP h a i v) = sz h := rfl
theorem nc_sP (h : Hp) (a i v : Nat) : nc (sP h a i v) = nc h := rfl
theorem ns_sP (h : Hp) (a i v : Nat) : ns (sP h a i v) = ns h := rfl
theorem gP_sP (h : Hp) (a i v b : Nat) : gP (sP h a i v) b = if b = a then va_up (gP h a) i v else gP h b := rfl
theorem sz_rI (h : Hp) (a : Nat) (f : Nat → Int32) : sz (rI h a f) = sz h := rfl
theorem nc_rI (h : Hp) (a : Nat) (f : Nat → Int32) : nc (rI h a f) = nc h := rfl
theorem ns_rI (h : Hp) (a : Nat) (f : Nat → Int32) : ns (rI h a f) = ns h := rfl
theorem kd_bmp (h : Hp) (c n : Nat) : kd (bmp h c n) = kd h := rfl
theorem ln_bmp (h : Hp) (c n : Nat) : ln (bmp h c n) = ln h := rfl
theorem gI_bmp (h : Hp) (c n : Nat) : gI (bmp h c n) = gI h := rfl
theorem gP_bmp (h : Hp) (c n : Nat) : gP (bmp h c n) = gP h := rfl
theorem sz_bmp (h : Hp) (c n : Nat) : sz (bmp h c n) = sz h := rfl
theorem up_at {α : Type} (f : Nat → α) (k : Nat) (v : α) (j : Nat) : va_up f k v j = if j = k then v else f j := rfl
theorem sI_rI (h : Hp) (a i : Nat) (f : Nat → Int32) (v : Int32) : sI (rI h a f) a i v = rI h a (va_up f i v) := by
  simp only [sI, rI, gI]
  congr 1; congr 1; congr 1
  funext b
  simp only [va_up]
  by_cases q : b = a
  · simp [q]
  · simp [q]
theorem rI_rI (h : Hp) (a : Nat) (f g : Nat → Int32) : rI (rI h a f) a g = rI h a g := by
  simp only [rI]
  congr 1; congr 1; congr 1
  funext b
  simp only [va_up]
  by_cases q : b = a <;> simp [q]
theorem sI_eq (h : Hp) (a i : Nat) (v : Int32) : sI h a i v = rI h a (va_up (gI h a) i v) := rfl
theorem rI_self (h : Hp) (a : Nat) : rI h a (gI h a) = h := by
  obtain ⟨h1, h2, h3, h4⟩ := h
  simp only [rI, gI]
  congr 1; congr 1; congr 1
  funext b
  simp only [va_up]
  by_cases q : b = a
  · rw [if_pos q, q]
  · rw [if_neg q]
theorem rI_ext {h : Hp} {a : Nat} {f g : Nat → Int32} (e : ∀ i, f i = g i) : rI h a f = rI h a g := by rw [funext e]
/-- nothing but numbers in the cells of S is changed -/
def Fr (S : Nat → Prop) (h h' : Hp) : Prop := kd h' = kd h ∧ ln h' = ln h ∧ gP h' = gP h ∧ sz h' = sz h ∧ nc h' = nc h ∧ ns h' = ns h ∧ ∀ b, ¬ S b → gI h' b = gI h b
theorem Fr.rfl {S : Nat → Prop} {h : Hp} : Fr S h h := ⟨Eq.refl _, Eq.refl _, Eq.refl _, Eq.refl _, Eq.refl _, Eq.refl _, fun _ _ => Eq.refl _⟩
theorem Fr.trans {S : Nat → Prop} {h h1 h2 : Hp} (a : Fr S h h1) (b : Fr S h1 h2) : Fr S h h2 :=
  ⟨b.1.trans a.1, b.2.1.trans a.2.1, b.2.2.1.trans a.2.2.1, b.2.2.2.1.trans a.2.2.2.1, b.2.2.2.2.1.trans a.2.2.2.2.1, b.2.2.2.2.2.1.trans a.2.2.2.2.2.1, fun c hc => (b.2.2.2.2.2.2 c hc).trans (a.2.2.2.2.2.2 c hc)⟩
theorem Fr.mono {S T : Nat → Prop} {h h1 : Hp} (a : Fr S h h1) (hs : ∀ b, S b → T b) : Fr T h h1 :=
  ⟨a.1, a.2.1, a.2.2.1, a.2.2.2.1, a.2.2.2.2.1, a.2.2.2.2.2.1, fun c hc => a.2.2.2.2.2.2 c (fun z => hc (hs c z))⟩
theorem Fr.rI {S : Nat → Prop} {h : Hp} {a : Nat} {f : Nat → Int32} (hs : S a) : Fr S h (rI h a f) :=
  ⟨Eq.refl _, Eq.refl _, Eq.refl _, Eq.refl _, Eq.refl _, Eq.refl _, fun c hc => by rw [gI_rI, if_neg (fun z : c = a => hc (by rw [z]; exact hs))]⟩
theorem Fr.sI {S : Nat → Prop} {h : Hp} {a i : Nat} {v : Int32} (hs : S a) : Fr S h (sI h a i v) := Fr.rI hs
/-! loops -/
theorem it_seq {σ ρ : Type} {f : σ → Option (σ ⊕ ρ)} (s : Nat → σ) (n : Nat) {r : Option ρ} (hs : ∀ i, i < n → f (s i) = some (.inl (s (i + 1)))) (hr : it f (s n) = r) : it f (s 0) = r := by
  induction n with
  | zero => exact hr
  | succ n ih => exact ih (fun i hi => hs i (by omega)) (by rw [it_next (hs n (by omega))]; exact hr)
theorem it_seq2 {σ ρ : Type} {f : σ → Option (σ ⊕ ρ)} (s : Nat → σ) (n : Nat) {s0 : σ} {r : ρ} (h0 : s0 = s 0) (hs : ∀ i, i < n → f (s i) = some (.inl (s (i + 1)))) (hr : f (s n) = some (.inr r)) : it f s0 = some r := by
  rw [h0]; exact it_seq s n hs (it_done hr)
/-- a loop that counts up and may be left early: by what is left -/
theorem it_up {σ ρ : Type} {f : σ → Option (σ ⊕ ρ)} {P : Nat → σ → Prop} {Q : ρ → Prop} (n : Nat) (hs : ∀ k s, P k s → (∃ r, f s = some (.inr r) ∧ Q r) ∨ ∃ s' k', k' < k ∧ P k' s' ∧ f s = some (.inl s')) : ∀ s, P n s → ∃ r, it f s = some r ∧ Q r := by
  induction n using Nat.strongRecOn with
  | ind n ih =>
    intro s hp
    rcases hs n s hp with ⟨r, e, q⟩ | ⟨s', k', hk, hp2, e⟩
    · exact ⟨r, it_done e, q⟩
    · rw [it_next e]; exact ih k' hk s' hp2
