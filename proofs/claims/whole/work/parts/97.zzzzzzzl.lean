/-! what the constructors leave behind: a run of steps over the empty heap -/
abbrev Ox : Type := (Nat × Nat × Nat) ⊕ ((Nat × Nat × Nat) ⊕ (Nat × Nat × Int32))
abbrev xA (a k n : Nat) : Ox := .inl (a, k, n)
abbrev xP (a i v : Nat) : Ox := .inr (.inl (a, i, v))
abbrev xI (a i : Nat) (v : Int32) : Ox := .inr (.inr (a, i, v))
def ap1 : Ox → Hp → Hp
  | .inl (a, k, n), h => (va_up h.1 a k, va_up h.2.1 a n, va_up h.2.2.1 a (fun _ => 0), va_up h.2.2.2.1 a (fun _ => 0), a, nc h + 1, ns h + n)
  | .inr (.inl (a, i, v)), h => sP h a i v
  | .inr (.inr (a, i, v)), h => sI h a i v
def runO : List Ox → Hp → Hp
  | [], h => h
  | o :: r, h => runO r (ap1 o h)
theorem runO_app : ∀ (l r : List Ox) (h : Hp), runO (l ++ r) h = runO r (runO l h)
  | [], _, _ => Eq.refl _
  | o :: l, r, h => runO_app l r (ap1 o h)
/-- the number of cells behind a run -/
def mkO : List Ox → Nat → Nat
  | [], z => z
  | .inl (a, _, _) :: r, _ => mkO r a
  | .inr (.inl (_, _, _)) :: r, z => mkO r z
  | .inr (.inr (_, _, _)) :: r, z => mkO r z
theorem mkO_sz : ∀ (l : List Ox) (h : Hp), sz (runO l h) = mkO l (sz h)
  | [], _ => Eq.refl _
  | .inl (a, k, n) :: r, h => mkO_sz r (ap1 (xA a k n) h)
  | .inr (.inl (a, i, v)) :: r, h => mkO_sz r (sP h a i v)
  | .inr (.inr (a, i, v)) :: r, h => mkO_sz r (sI h a i v)
theorem mkO_app : ∀ (l r : List Ox) (z : Nat), mkO (l ++ r) z = mkO r (mkO l z)
  | [], _, _ => Eq.refl _
  | .inl (a, _, _) :: l, r, z => mkO_app l r a
  | .inr (.inl (_, _, _)) :: l, r, z => mkO_app l r z
  | .inr (.inr (_, _, _)) :: l, r, z => mkO_app l r z
def obO : Ox → Nat
  | .inl (a, _, _) => a
  | .inr (.inl (a, _, _)) => a
  | .inr (.inr (a, _, _)) => a
/-- a run that touches cells above b alone -/
def upO (b : Nat) : List Ox → Prop
  | [] => True
  | o :: r => b < obO o ∧ upO b r
theorem upO_app {b : Nat} : ∀ (l r : List Ox), upO b (l ++ r) = (upO b l ∧ upO b r)
  | [], r => by
    show upO b r = (True ∧ upO b r)
    rw [true_and]
  | o :: l, r => by
    show (b < obO o ∧ upO b (l ++ r)) = ((b < obO o ∧ upO b l) ∧ upO b r)
    rw [upO_app l r, and_assoc]
theorem ap1_sm : ∀ {o : Ox} {h : Hp} {x : Nat}, x ≠ obO o → sm h (ap1 o h) x
  | .inl (a, k, n), h, x, hx => by
    replace hx : x ≠ a := hx
    refine ⟨?_, ?_, ?_, ?_⟩
    · show va_up (kd h) a k x = kd h x
      rw [up_at, if_neg hx]
    · show va_up (ln h) a n x = ln h x
      rw [up_at, if_neg hx]
    · show va_up (gI h) a (fun _ => 0) x = gI h x
      rw [up_at, if_neg hx]
    · show va_up (gP h) a (fun _ => 0) x = gP h x
      rw [up_at, if_neg hx]
  | .inr (.inl (a, i, v)), h, x, hx => sP_sm hx
  | .inr (.inr (a, i, v)), h, x, hx => sI_sm hx
theorem upO_sm {b x : Nat} (hx : x ≤ b) : ∀ (l : List Ox) (h : Hp), upO b l → sm h (runO l h) x
  | [], h, _ => ⟨Eq.refl _, Eq.refl _, Eq.refl _, Eq.refl _⟩
  | o :: r, h, u => (ap1_sm (by have := u.1; omega)).tr (upO_sm hx r (ap1 o h) u.2)
/-- an object under way: its rows so far -/
def Kx (h : Hp) (p K : Nat) (T : List (Nat × Nat × Nat × Nat)) : Prop := p ≤ sz h ∧ kd h p = K ∧ ∀ t ∈ T, gP h p t.1 = t.2.1 ∧ t.2.1 ≤ sz h ∧ kd h t.2.1 = t.2.2.1 ∧ ln h t.2.1 = t.2.2.2
section
variable {h g : Hp} {p K k n z f i c K1 n1 : Nat} {v : Int32} {ops os : List Ox} {T : List (Nat × Nat × Nat × Nat)}
theorem alc_A (hz : sz h = z) : alc h k n = ap1 (xA (z + 1) k n) h := by
  subst hz
  rfl
theorem Kx.mo (d : Kx h p K T) (hz : sz h ≤ sz g) (hs : ∀ x, x ≤ sz h → sm h g x) : Kx g p K T := by
  obtain ⟨d1, d2, d3⟩ := d
  obtain ⟨s1, s2, s3, s4⟩ := hs p d1
  refine ⟨by omega, by rw [s1]; exact d2, fun t ht => ?_⟩
  obtain ⟨e1, e2, e3, e4⟩ := d3 t ht
  obtain ⟨u1, u2, u3, u4⟩ := hs _ e2
  exact ⟨by rw [s4]; exact e1, by omega, by rw [u1]; exact e3, by rw [u2]; exact e4⟩
theorem kx_A (d : Kx h p K T) (hz : sz h = z) : Kx (ap1 (xA (z + 1) k n) h) p K T := d.mo (by show sz h ≤ z + 1; omega) (fun x hx => ap1_sm (by show x ≠ z + 1; omega))
theorem kx_I (d : Kx h p K T) : Kx (sI h p i v) p K T := d
theorem kx_P {w : Nat} (d : Kx h p K T) (hf : ∀ t ∈ T, t.1 ≠ i) : Kx (sP h p i w) p K T := by
  obtain ⟨d1, d2, d3⟩ := d
  refine ⟨d1, d2, fun t ht => ?_⟩
  obtain ⟨e1, e2⟩ := d3 t ht
  exact ⟨by rw [sP_gP, if_neg (fun q => hf t ht q.2)]; exact e1, e2⟩
theorem rkA {kk : Hp → Option Hp} (d : Kx h p K T) (hz : sz h = z) (hf : ∀ t ∈ T, t.1 ≠ f) (H : ∀ g, Kx g p K ((f, z + 1, k, n) :: T) → sz g = z + 1 → kk g = some (runO ops g)) : (lt (alc h k n) fun (g1 : Hp) => gg (kd g1 p = K) (lt (sP g1 p f (sz h + 1)) fun (g2 : Hp) => kk g2)) = some (runO (xA (z + 1) k n :: xP p f (z + 1) :: ops) h) := by
  have d1 := kx_A (k := k) (n := n) d hz
  rw [alc_A hz, lt_eq, gg_t d1.2.1, lt_eq, hz]
  have d2 := kx_P (w := z + 1) d1 hf
  refine H _ ⟨d2.1, d2.2.1, fun t ht => ?_⟩ (Eq.refl _)
  rcases List.mem_cons.mp ht with rfl | ht
  · refine ⟨by rw [sP_gP, if_pos ⟨Eq.refl _, Eq.refl _⟩], Nat.le_refl _, ?_, ?_⟩
    · show va_up (kd h) (z + 1) k (z + 1) = k
      rw [up_at, if_pos (Eq.refl _)]
    · show va_up (ln h) (z + 1) n (z + 1) = n
      rw [up_at, if_pos (Eq.refl _)]
  · exact d2.2.2 t ht
theorem rkI {kk : Hp → Option Hp} (d : Kx h p K T) (hz : sz h = z) (H : ∀ g, Kx g p K T → sz g = z → kk g = some (runO ops g)) : (lt (sI h p i v) fun (g : Hp) => kk g) = some (runO (xI p i v :: ops) h) := by
  rw [lt_eq]
  exact H _ d hz
theorem rkP {kk : Hp → Option Hp} {w : Nat} (d : Kx h p K T) (hz : sz h = z) (hf : ∀ t ∈ T, t.1 ≠ i) (H : ∀ g, Kx g p K T → sz g = z → kk g = some (runO ops g)) : (lt (sP h p i w) fun (g : Hp) => kk g) = some (runO (xP p i w :: ops) h) := by
  rw [lt_eq]
  exact H _ (kx_P d hf) hz
theorem kx_S (d : Kx h p K T) (hz : sz h = z) (hu : upO z os) (hm : mkO os (z + 1) = z + 1 + c) : Kx (runO os (ap1 (xA (z + 1) K1 n1) h)) p K T ∧ sz (runO os (ap1 (xA (z + 1) K1 n1) h)) = z + (c + 1) := by
  have e : sz (runO os (ap1 (xA (z + 1) K1 n1) h)) = z + (c + 1) := by
    rw [mkO_sz]
    show mkO os (z + 1) = _
    omega
  exact ⟨d.mo (by omega) (fun x hx => (ap1_sm (by show x ≠ z + 1; omega)).tr (upO_sm (b := z) (by omega) os _ hu)), e⟩
theorem kx_N (hz : sz h = z) : Kx (ap1 (xA (z + 1) K1 n1) h) (z + 1) K1 [] := ⟨Nat.le_refl _, by show va_up (kd h) (z + 1) K1 (z + 1) = K1; rw [up_at, if_pos (Eq.refl _)], fun t ht => absurd ht (List.not_mem_nil)⟩
theorem rkS {kk : Hp → Option Hp} {ini : Hp → Nat → Option Hp} (d : Kx h p K T) (hz : sz h = z) (hf : ∀ t ∈ T, t.1 ≠ f) (HI : ∀ g, Kx g (z + 1) K1 [] → sz g = z + 1 → ini g (z + 1) = some (runO os g)) (hu : upO z os) (hm : mkO os (z + 1) = z + 1 + c) (H : ∀ g, Kx g p K T → sz g = z + (c + 1) → kk g = some (runO ops g)) : (lt (alc h K1 n1) fun (g : Hp) => Option.bind (ini g (sz h + 1)) fun (g1 : Hp) => gg (kd g1 p = K) (lt (sP g1 p f (sz h + 1)) fun (g2 : Hp) => kk g2)) = some (runO (xA (z + 1) K1 n1 :: (os ++ (xP p f (z + 1) :: ops))) h) := by
  obtain ⟨d1, e1⟩ := kx_S (K1 := K1) (n1 := n1) d hz hu hm
  rw [alc_A hz, lt_eq, hz, HI _ (kx_N hz) (Eq.refl _), ob_some, gg_t d1.2.1, lt_eq]
  show _ = some (runO (os ++ (xP p f (z + 1) :: ops)) (ap1 (xA (z + 1) K1 n1) h))
  rw [runO_app]
  exact H _ (kx_P d1 hf) e1
theorem rkS2 {kk : Hp → Option Hp} {ini : Hp → Nat → Nat → Option Hp} {w : Nat} (d : Kx h p K T) (hz : sz h = z) (hf : ∀ t ∈ T, t.1 ≠ f) (hv : gP h p 0 = w) (HI : ∀ g, Kx g (z + 1) K1 [] → sz g = z + 1 → ini g (z + 1) w = some (runO os g)) (hu : upO z os) (hm : mkO os (z + 1) = z + 1 + c) (H : ∀ g, Kx g p K T → sz g = z + (c + 1) → kk g = some (runO ops g)) : (lt (alc h K1 n1) fun (g : Hp) => gg (kd g p = K) (Option.bind (ini g (sz h + 1) (gP g p 0)) fun (g1 : Hp) => gg (kd g1 p = K) (lt (sP g1 p f (sz h + 1)) fun (g2 : Hp) => kk g2))) = some (runO (xA (z + 1) K1 n1 :: (os ++ (xP p f (z + 1) :: ops))) h) := by
  obtain ⟨d1, e1⟩ := kx_S (K1 := K1) (n1 := n1) d hz hu hm
  have d0 := kx_A (k := K1) (n := n1) d hz
  have e : gP (ap1 (xA (z + 1) K1 n1) h) p 0 = w := by
    show va_up (gP h) (z + 1) (fun _ => 0) p 0 = w
    rw [up_at, if_neg (by have := d.1; omega)]
    exact hv
  rw [alc_A hz, lt_eq, gg_t d0.2.1, e, hz, HI _ (kx_N hz) (Eq.refl _), ob_some, gg_t d1.2.1, lt_eq]
  show _ = some (runO (os ++ (xP p f (z + 1) :: ops)) (ap1 (xA (z + 1) K1 n1) h))
  rw [runO_app]
  exact H _ (kx_P d1 hf) e1
/-- a run of numbers alone -/
def nuO : List Ox → Prop
  | [] => True
  | .inl (_, _, _) :: _ => False
  | .inr (.inl (_, _, _)) :: _ => False
  | .inr (.inr (_, _, _)) :: r => nuO r
theorem nuO_app : ∀ (l r : List Ox), nuO l → nuO r → nuO (l ++ r)
  | [], _, _, b => b
  | .inr (.inr (_, _, _)) :: l, r, a, b => nuO_app l r a b
  | .inl (_, _, _) :: l, r, a, b => False.elim a
  | .inr (.inl (_, _, _)) :: l, r, a, b => False.elim a
theorem nuO_r : ∀ (l : List Ox) (h : Hp), nuO l → kd (runO l h) = kd h ∧ ln (runO l h) = ln h ∧ gP (runO l h) = gP h ∧ sz (runO l h) = sz h
  | [], h, _ => ⟨Eq.refl _, Eq.refl _, Eq.refl _, Eq.refl _⟩
  | .inr (.inr (a, i, v)) :: l, h, u => nuO_r l (sI h a i v) u
  | .inl (_, _, _) :: _, _, u => False.elim u
  | .inr (.inl (_, _, _)) :: _, _, u => False.elim u
def fiO (r o : Nat) (v : Int32) : Nat → List Ox
  | 0 => []
  | n + 1 => fiO r o v n ++ [xI r (o + n) v]
def deO (a b c : Nat) : Nat → List Ox
  | 0 => []
  | n + 1 => deO a b c n ++ [xI a n 1, xI b n 20, xI c n (-1)]
def edO (r : Nat) : Nat → List Ox
  | 0 => []
  | n + 1 => edO r n ++ [xI r (327382 + 185 * n) 1, xI r (327382 + 185 * n + 1) 20, xI r (327382 + 185 * n + 3) (-1)]
theorem nu_fi {r o : Nat} : ∀ n, nuO (fiO r o v n)
  | 0 => trivial
  | n + 1 => nuO_app _ _ (nu_fi n) trivial
theorem nu_de {a b c : Nat} : ∀ n, nuO (deO a b c n)
  | 0 => trivial
  | n + 1 => nuO_app _ _ (nu_de n) trivial
theorem nu_ed {r : Nat} : ∀ n, nuO (edO r n)
  | 0 => trivial
  | n + 1 => nuO_app _ _ (nu_ed n) trivial
theorem up_fi {b r o : Nat} (hb : b < r) : ∀ n, upO b (fiO r o v n)
  | 0 => trivial
  | n + 1 => by
    show upO b (fiO r o v n ++ [xI r (o + n) v])
    rw [upO_app]
    exact ⟨up_fi hb n, hb, trivial⟩
theorem up_de {b x y w : Nat} (h1 : b < x) (h2 : b < y) (h3 : b < w) : ∀ n, upO b (deO x y w n)
  | 0 => trivial
  | n + 1 => by
    show upO b (deO x y w n ++ [xI x n 1, xI y n 20, xI w n (-1)])
    rw [upO_app]
    exact ⟨up_de h1 h2 h3 n, h1, h2, h3, trivial⟩
theorem mk_nu : ∀ (l : List Ox) (z : Nat), nuO l → mkO l z = z
  | [], _, _ => Eq.refl _
  | .inr (.inr (_, _, _)) :: l, z, u => mk_nu l z u
  | .inl (_, _, _) :: _, _, u => False.elim u
  | .inr (.inl (_, _, _)) :: _, _, u => False.elim u
theorem mk_fi {r o y n : Nat} : mkO (fiO r o v n) y = y := mk_nu _ y (nu_fi n)
theorem mk_de {x y w q n : Nat} : mkO (deO x y w n) q = q := mk_nu _ q (nu_de n)
theorem mk_ed {r y n : Nat} : mkO (edO r n) y = y := mk_nu _ y (nu_ed n)
theorem lp_7 {r n : Nat} (hn : n = 54) (k0 : kd h p = 6) (e : gP h p 1 = r) (k1 : kd h r = 20) (l1 : ln h r = 54) : MX7_init_163 h p 0 = some (runO (fiO r 0 4 n) h) := by
  unfold MX7_init_163
  refine it_seq2 (fun j => (nI j, runO (fiO r 0 4 j) h)) n (by simp only [ZL]; rfl) (fun j hj => ?_) ?_
  · obtain ⟨u1, u2, u3, u4⟩ := nuO_r _ h (nu_fi (v := 4) (r := r) (o := 0) j)
    show BX7_init_163 (runO (fiO r 0 4 j) h) p (nI j) = some (.inl (nI (j + 1), runO (fiO r 0 4 j ++ [xI r (0 + j) 4]) h))
    rw [runO_app]
    generalize runO (fiO r 0 4 j) h = g at u1 u2 u3 u4 ⊢
    unfold BX7_init_163
    simp only [ZL]
    rw [gg_t (by rw [u1]; exact k0), u3, e, gg_t (by rw [u1]; exact k1), u2, l1, if_neg (nI_ge (by omega) (by omega)), gg_in (by omega) (by omega), lt_eq, nCl (by omega), nAdd, Nat.zero_add]
    rfl
  · obtain ⟨u1, u2, u3, u4⟩ := nuO_r _ h (nu_fi (v := 4) (r := r) (o := 0) n)
    show BX7_init_163 (runO (fiO r 0 4 n) h) p (nI n) = some (.inr (runO (fiO r 0 4 n) h))
    generalize runO (fiO r 0 4 n) h = g at u1 u2 u3 u4 ⊢
    unfold BX7_init_163
    rw [gg_t (by rw [u1]; exact k0), u3, e, gg_t (by rw [u1]; exact k1), u2, l1, if_pos (nI_le (by omega) (by omega))]
theorem lp_2 {x y w n : Nat} (hn : n = 6) (k0 : kd h p = 1) (e0 : gP h p 0 = x ∧ kd h x = 20 ∧ ln h x = 6) (e1 : gP h p 1 = y ∧ kd h y = 20 ∧ ln h y = 6) (e2 : gP h p 2 = w ∧ kd h w = 20 ∧ ln h w = 6) : MX2_init_101 h p 0 = some (runO (deO x y w n) h) := by
  unfold MX2_init_101
  refine it_seq2 (fun j => (nI j, runO (deO x y w j) h)) n (by simp only [ZL]; rfl) (fun j hj => ?_) ?_
  · obtain ⟨u1, u2, u3, u4⟩ := nuO_r _ h (nu_de (a := x) (b := y) (c := w) j)
    show BX2_init_101 (runO (deO x y w j) h) p (nI j) = some (.inl (nI (j + 1), runO (deO x y w j ++ [xI x j 1, xI y j 20, xI w j (-1)]) h))
    rw [runO_app]
    generalize runO (deO x y w j) h = g at u1 u2 u3 u4 ⊢
    unfold BX2_init_101
    simp only [ZL]
    rw [if_neg (nI_ge (by omega) (by omega)), gg_t (by rw [u1]; exact k0), u3, e0.1, e1.1, e2.1, gg_t (by rw [u1]; exact e0.2.1), u2, e0.2.2, e1.2.2, e2.2.2, gg_in (by omega) (by omega), lt_eq, gg_t (by rw [u1]; exact e1.2.1), gg_in (by omega) (by omega), lt_eq, gg_t (by rw [u1]; exact e2.2.1), gg_in (by omega) (by omega), lt_eq, nCl (by omega), nAdd]
    rfl
  · show BX2_init_101 (runO (deO x y w n) h) p (nI n) = some (.inr (runO (deO x y w n) h))
    generalize runO (deO x y w n) h = g
    unfold BX2_init_101
    simp only [ZL]
    rw [if_pos (nI_le (by omega) (by omega))]
theorem lp_12b {r n : Nat} (hn : n = 6) (k0 : kd h p = 11) (e : gP h p 1 = r) (k1 : kd h r = 20) (l1 : ln h r = 337220) : MX12_init_312 h p 0 = some (runO (edO r n) h) := by
  unfold MX12_init_312
  refine it_seq2 (fun j => (nI j, runO (edO r j) h)) n (by simp only [ZL]; rfl) (fun j hj => ?_) ?_
  · obtain ⟨u1, u2, u3, u4⟩ := nuO_r _ h (nu_ed (r := r) j)
    show BX12_init_312 (runO (edO r j) h) p (nI j) = some (.inl (nI (j + 1), runO (edO r j ++ [xI r (327382 + 185 * j) 1, xI r (327382 + 185 * j + 1) 20, xI r (327382 + 185 * j + 3) (-1)]) h))
    rw [runO_app]
    generalize runO (edO r j) h = g at u1 u2 u3 u4 ⊢
    unfold BX12_init_312
    simp only [ZL]
    rw [if_neg (nI_ge (by omega) (by omega)), gg_t (by rw [u1]; exact k0), u3, e, gg_t (by rw [u1]; exact k1), u2, l1, nMul, nAdd, nAdd, nAdd, nAdd, gg_in (by omega) (by omega), lt_eq, gg_in (by omega) (by omega), lt_eq, gg_in (by omega) (by omega), lt_eq, nCl (by omega), nCl (by omega), nCl (by omega)]
    rfl
  · show BX12_init_312 (runO (edO r n) h) p (nI n) = some (.inr (runO (edO r n) h))
    generalize runO (edO r n) h = g
    unfold BX12_init_312
    simp only [ZL]
    rw [if_pos (nI_le (by omega) (by omega))]
theorem lp_12 {r n k : Nat} (hn : n = 54) (hk : k = 6) (k0 : kd h p = 11) (e : gP h p 1 = r) (k1 : kd h r = 20) (l1 : ln h r = 337220) : MX12_init_288 h p 0 = some (runO (fiO r 16 4 n ++ edO r k) h) := by
  unfold MX12_init_288
  refine it_seq2 (fun j => (nI j, runO (fiO r 16 4 j) h)) n (by simp only [ZL]; rfl) (fun j hj => ?_) ?_
  · obtain ⟨u1, u2, u3, u4⟩ := nuO_r _ h (nu_fi (v := 4) (r := r) (o := 16) j)
    show BX12_init_288 (runO (fiO r 16 4 j) h) p (nI j) = some (.inl (nI (j + 1), runO (fiO r 16 4 j ++ [xI r (16 + j) 4]) h))
    rw [runO_app]
    generalize runO (fiO r 16 4 j) h = g at u1 u2 u3 u4 ⊢
    unfold BX12_init_288
    simp only [ZL]
    rw [if_neg (nI_ge (by omega) (by omega)), gg_t (by rw [u1]; exact k0), u3, e, gg_t (by rw [u1]; exact k1), u2, l1, nAdd, nAdd, gg_in (by omega) (by omega), lt_eq, nCl (by omega)]
    rfl
  · obtain ⟨u1, u2, u3, u4⟩ := nuO_r _ h (nu_fi (v := 4) (r := r) (o := 16) n)
    show BX12_init_288 (runO (fiO r 16 4 n) h) p (nI n) = some (.inr (runO (fiO r 16 4 n ++ edO r k) h))
    rw [runO_app]
    generalize runO (fiO r 16 4 n) h = g at u1 u2 u3 u4 ⊢
    unfold BX12_init_288 MX12_init_310
    rw [lp_12b (r := r) hk (by rw [u1]; exact k0) (by rw [u3]; exact e) (by rw [u1]; exact k1) (by rw [u2]; exact l1), up1_some]
    generalize runO (edO r k) g = g2
    simp only [ZL]
    rw [if_pos (nI_le (by omega) (by omega))]
end
section
variable {h : Hp} {p z v b : Nat}
def o9 (p z : Nat) : List Ox := xI p 0 (0) :: xI p 1 (0) :: xA (z + 1) 20 12 :: xP p 2 (z + 1) :: xA (z + 2) 20 12 :: xP p 3 (z + 2) :: xA (z + 3) 20 12 :: xP p 4 (z + 3) :: xA (z + 4) 20 12 :: xP p 5 (z + 4) :: xA (z + 5) 20 256 :: xP p 6 (z + 5) :: xA (z + 6) 22 12 :: xP p 7 (z + 6) :: xA (z + 7) 22 64 :: xP p 8 (z + 7) :: []
theorem mk_o9 : mkO (o9 p z) z = z + 7 := by
  unfold o9
  simp only [xA, xP, xI, mkO, mkO_app] <;> omega
theorem rn9 (d0 : p ≠ 0) (d : Kx h p 8 []) (hz : sz h = z) : MX9_init h p = some (runO (o9 p z) h) := by
  unfold MX9_init o9
  rw [gn_ne d0]
  rw [gg_t d.2.1]
  refine rkI d hz fun h d hz => ?_
  refine rkI d hz fun h d hz => ?_
  refine rkA d hz (by simp) fun h d hz => ?_
  refine rkA d hz (by simp) fun h d hz => ?_
  refine rkA d hz (by simp) fun h d hz => ?_
  refine rkA d hz (by simp) fun h d hz => ?_
  refine rkA d hz (by simp) fun h d hz => ?_
  refine rkA d hz (by simp) fun h d hz => ?_
  refine rkA d hz (by simp) fun h d hz => ?_
  rfl
theorem up_o9 (h1 : b < p) (h2 : b ≤ z) : upO b (o9 p z) := by
  unfold o9
  exact ⟨(show b < p by omega), ⟨(show b < p by omega), ⟨(show b < z + 1 by omega), ⟨(show b < p by omega), ⟨(show b < z + 2 by omega), ⟨(show b < p by omega), ⟨(show b < z + 3 by omega), ⟨(show b < p by omega), ⟨(show b < z + 4 by omega), ⟨(show b < p by omega), ⟨(show b < z + 5 by omega), ⟨(show b < p by omega), ⟨(show b < z + 6 by omega), ⟨(show b < p by omega), ⟨(show b < z + 7 by omega), ⟨(show b < p by omega), trivial⟩⟩⟩⟩⟩⟩⟩⟩⟩⟩⟩⟩⟩⟩⟩⟩
def o0 (p z : Nat) : List Ox := xI p 0 (0) :: xI p 1 (-1) :: xI p 2 (0) :: xI p 3 (0) :: xI p 4 (0) :: xI p 5 (0) :: xI p 6 (0) :: xI p 7 (0) :: xA (z + 1) 20 41 :: xP p 8 (z + 1) :: xA (z + 2) 20 41 :: xP p 9 (z + 2) :: xA (z + 3) 20 41 :: xP p 10 (z + 3) :: xA (z + 4) 20 41 :: xP p 11 (z + 4) :: xA (z + 5) 20 41 :: xP p 12 (z + 5) :: xA (z + 6) 22 41 :: xP p 13 (z + 6) :: []
theorem mk_o0 : mkO (o0 p z) z = z + 6 := by
  unfold o0
  simp only [xA, xP, xI, mkO, mkO_app] <;> omega
theorem rn0 (d0 : p ≠ 0) (d : Kx h p 0 []) (hz : sz h = z) : MX0_init h p = some (runO (o0 p z) h) := by
  unfold MX0_init o0
  rw [gn_ne d0]
  rw [gg_t d.2.1]
  refine rkI d hz fun h d hz => ?_
  refine rkI d hz fun h d hz => ?_
  refine rkI d hz fun h d hz => ?_
  refine rkI d hz fun h d hz => ?_
  refine rkI d hz fun h d hz => ?_
  refine rkI d hz fun h d hz => ?_
  refine rkI d hz fun h d hz => ?_
  refine rkI d hz fun h d hz => ?_
  refine rkA d hz (by simp) fun h d hz => ?_
  refine rkA d hz (by simp) fun h d hz => ?_
  refine rkA d hz (by simp) fun h d hz => ?_
  refine rkA d hz (by simp) fun h d hz => ?_
  refine rkA d hz (by simp) fun h d hz => ?_
  refine rkA d hz (by simp) fun h d hz => ?_
  rfl
theorem up_o0 (h1 : b < p) (h2 : b ≤ z) : upO b (o0 p z) := by
  unfold o0
  exact ⟨(show b < p by omega), ⟨(show b < p by omega), ⟨(show b < p by omega), ⟨(show b < p by omega), ⟨(show b < p by omega), ⟨(show b < p by omega), ⟨(show b < p by omega), ⟨(show b < p by omega), ⟨(show b < z + 1 by omega), ⟨(show b < p by omega), ⟨(show b < z + 2 by omega), ⟨(show b < p by omega), ⟨(show b < z + 3 by omega), ⟨(show b < p by omega), ⟨(show b < z + 4 by omega), ⟨(show b < p by omega), ⟨(show b < z + 5 by omega), ⟨(show b < p by omega), ⟨(show b < z + 6 by omega), ⟨(show b < p by omega), trivial⟩⟩⟩⟩⟩⟩⟩⟩⟩⟩⟩⟩⟩⟩⟩⟩⟩⟩⟩⟩
def o5 (p z : Nat) : List Ox := xA (z + 1) 21 480 :: xP p 0 (z + 1) :: xA (z + 2) 20 41 :: xP p 1 (z + 2) :: xA (z + 3) 22 40 :: xP p 2 (z + 3) :: xA (z + 4) 20 40 :: xP p 3 (z + 4) :: xA (z + 5) 20 40 :: xP p 4 (z + 5) :: xI p 5 (0) :: xI p 6 (0) :: xI p 7 (0) :: xI p 8 (0) :: xI p 9 (0) :: xI p 10 (0) :: xI p 11 (0) :: []
theorem mk_o5 : mkO (o5 p z) z = z + 5 := by
  unfold o5
  simp only [xA, xP, xI, mkO, mkO_app] <;> omega
theorem rn5 (d0 : p ≠ 0) (d : Kx h p 4 []) (hz : sz h = z) : MX5_init h p = some (runO (o5 p z) h) := by
  unfold MX5_init o5
  rw [gn_ne d0]
  refine rkA d hz (by simp) fun h d hz => ?_
  refine rkA d hz (by simp) fun h d hz => ?_
  refine rkA d hz (by simp) fun h d hz => ?_
  refine rkA d hz (by simp) fun h d hz => ?_
  refine rkA d hz (by simp) fun h d hz => ?_
  refine rkI d hz fun h d hz => ?_
  refine rkI d hz fun h d hz => ?_
  refine rkI d hz fun h d hz => ?_
  refine rkI d hz fun h d hz => ?_
  refine rkI d hz fun h d hz => ?_
  refine rkI d hz fun h d hz => ?_
  refine rkI d hz fun h d hz => ?_
  rfl
theorem up_o5 (h1 : b < p) (h2 : b ≤ z) : upO b (o5 p z) := by
  unfold o5
  exact ⟨(show b < z + 1 by omega), ⟨(show b < p by omega), ⟨(show b < z + 2 by omega), ⟨(show b < p by omega), ⟨(show b < z + 3 by omega), ⟨(show b < p by omega), ⟨(show b < z + 4 by omega), ⟨(show b < p by omega), ⟨(show b < z + 5 by omega), ⟨(show b < p by omega), ⟨(show b < p by omega), ⟨(show b < p by omega), ⟨(show b < p by omega), ⟨(show b < p by omega), ⟨(show b < p by omega), ⟨(show b < p by omega), ⟨(show b < p by omega), trivial⟩⟩⟩⟩⟩⟩⟩⟩⟩⟩⟩⟩⟩⟩⟩⟩⟩
def o6 (p z : Nat) : List Ox := xI p 0 (0) :: xA (z + 1) 20 5 :: xP p 1 (z + 1) :: xA (z + 2) 20 5 :: xP p 2 (z + 2) :: xA (z + 3) 20 32 :: xP p 3 (z + 3) :: xA (z + 4) 20 32 :: xP p 4 (z + 4) :: []
theorem mk_o6 : mkO (o6 p z) z = z + 4 := by
  unfold o6
  simp only [xA, xP, xI, mkO, mkO_app] <;> omega
theorem rn6 (d0 : p ≠ 0) (d : Kx h p 5 []) (hz : sz h = z) : MX6_init h p = some (runO (o6 p z) h) := by
  unfold MX6_init o6
  rw [gn_ne d0]
  rw [gg_t d.2.1]
  refine rkI d hz fun h d hz => ?_
  refine rkA d hz (by simp) fun h d hz => ?_
  refine rkA d hz (by simp) fun h d hz => ?_
  refine rkA d hz (by simp) fun h d hz => ?_
  refine rkA d hz (by simp) fun h d hz => ?_
  rfl
theorem up_o6 (h1 : b < p) (h2 : b ≤ z) : upO b (o6 p z) := by
  unfold o6
  exact ⟨(show b < p by omega), ⟨(show b < z + 1 by omega), ⟨(show b < p by omega), ⟨(show b < z + 2 by omega), ⟨(show b < p by omega), ⟨(show b < z + 3 by omega), ⟨(show b < p by omega), ⟨(show b < z + 4 by omega), ⟨(show b < p by omega), trivial⟩⟩⟩⟩⟩⟩⟩⟩⟩
def o3 (p z : Nat) : List Ox := xI p 0 (0) :: xI p 1 (-1) :: xA (z + 1) 20 4 :: xP p 2 (z + 1) :: xA (z + 2) 20 4 :: xP p 3 (z + 2) :: xA (z + 3) 20 4 :: xP p 4 (z + 3) :: xA (z + 4) 20 4 :: xP p 5 (z + 4) :: xA (z + 5) 20 4 :: xP p 6 (z + 5) :: xA (z + 6) 20 4 :: xP p 7 (z + 6) :: xA (z + 7) 20 24 :: xP p 8 (z + 7) :: xA (z + 8) 20 4 :: xP p 9 (z + 8) :: xI p 10 (1) :: []
theorem mk_o3 : mkO (o3 p z) z = z + 8 := by
  unfold o3
  simp only [xA, xP, xI, mkO, mkO_app] <;> omega
theorem rn3 (d0 : p ≠ 0) (d : Kx h p 2 []) (hz : sz h = z) : MX3_init h p = some (runO (o3 p z) h) := by
  unfold MX3_init o3
  rw [gn_ne d0]
  rw [gg_t d.2.1]
  refine rkI d hz fun h d hz => ?_
  refine rkI d hz fun h d hz => ?_
  refine rkA d hz (by simp) fun h d hz => ?_
  refine rkA d hz (by simp) fun h d hz => ?_
  refine rkA d hz (by simp) fun h d hz => ?_
  refine rkA d hz (by simp) fun h d hz => ?_
  refine rkA d hz (by simp) fun h d hz => ?_
  refine rkA d hz (by simp) fun h d hz => ?_
  refine rkA d hz (by simp) fun h d hz => ?_
  refine rkA d hz (by simp) fun h d hz => ?_
  refine rkI d hz fun h d hz => ?_
  rfl
theorem up_o3 (h1 : b < p) (h2 : b ≤ z) : upO b (o3 p z) := by
  unfold o3
  exact ⟨(show b < p by omega), ⟨(show b < p by omega), ⟨(show b < z + 1 by omega), ⟨(show b < p by omega), ⟨(show b < z + 2 by omega), ⟨(show b < p by omega), ⟨(show b < z + 3 by omega), ⟨(show b < p by omega), ⟨(show b < z + 4 by omega), ⟨(show b < p by omega), ⟨(show b < z + 5 by omega), ⟨(show b < p by omega), ⟨(show b < z + 6 by omega), ⟨(show b < p by omega), ⟨(show b < z + 7 by omega), ⟨(show b < p by omega), ⟨(show b < z + 8 by omega), ⟨(show b < p by omega), ⟨(show b < p by omega), trivial⟩⟩⟩⟩⟩⟩⟩⟩⟩⟩⟩⟩⟩⟩⟩⟩⟩⟩⟩
def o10 (p z : Nat) (v : Nat) : List Ox := xI p 1 (0) :: xI p 2 (0) :: xI p 3 (-1) :: xA (z + 1) 20 401 :: xP p 4 (z + 1) :: xA (z + 2) 8 9 :: (o9 (z + 2) (z + 2) ++ (xP p 5 (z + 2) :: xP p 0 v :: []))
theorem mk_o10 : mkO (o10 p z v) z = z + 9 := by
  unfold o10
  simp only [xA, xP, xI, mkO, mkO_app, mk_o9] <;> omega
theorem rn10 (d0 : p ≠ 0) (d : Kx h p 9 []) (hz : sz h = z) : MX10_init h p v = some (runO (o10 p z v) h) := by
  unfold MX10_init o10
  rw [gn_ne d0]
  rw [gg_t d.2.1]
  refine rkI d hz fun h d hz => ?_
  refine rkI d hz fun h d hz => ?_
  refine rkI d hz fun h d hz => ?_
  refine rkA d hz (by simp) fun h d hz => ?_
  refine rkS (ini := MX9_init) (K1 := 8) (c := 7) d hz (by simp) (fun g e ez => rn9 (by omega) e ez) (up_o9 (by omega) (by omega)) (mk_o9) fun h d hz => ?_
  refine rkP d hz (by simp) fun h d hz => ?_
  rfl
theorem up_o10 (h1 : b < p) (h2 : b ≤ z) : upO b (o10 p z v) := by
  unfold o10
  exact ⟨(show b < p by omega), ⟨(show b < p by omega), ⟨(show b < p by omega), ⟨(show b < z + 1 by omega), ⟨(show b < p by omega), ⟨(show b < z + 2 by omega), Eq.mpr (upO_app _ _) ⟨up_o9 (by omega) (by omega), ⟨(show b < p by omega), ⟨(show b < p by omega), trivial⟩⟩⟩⟩⟩⟩⟩⟩⟩
def o7 (p z : Nat) : List Ox := xI p 0 (0) :: xA (z + 1) 20 54 :: xP p 1 (z + 1) :: xA (z + 2) 25 10 :: xP p 2 (z + 2) :: xI p 3 (0) :: xA (z + 3) 8 9 :: (o9 (z + 3) (z + 3) ++ (xP p 4 (z + 3) :: xA (z + 11) 26 100 :: xP p 5 (z + 11) :: xA (z + 12) 20 20 :: xP p 6 (z + 12) :: xI p 7 (0) :: xA (z + 13) 27 4 :: xP p 8 (z + 13) :: xI p 9 (0) :: xA (z + 14) 28 300 :: xP p 10 (z + 14) :: xI p 11 (0) :: xA (z + 15) 20 32 :: xP p 12 (z + 15) :: xA (z + 16) 20 32 :: xP p 13 (z + 16) :: xA (z + 17) 0 14 :: (o0 (z + 17) (z + 17) ++ (xP p 14 (z + 17) :: xA (z + 24) 20 9 :: xP p 15 (z + 24) :: xA (z + 25) 20 27 :: xP p 16 (z + 25) :: xA (z + 26) 20 27 :: xP p 17 (z + 26) :: xA (z + 27) 21 512 :: xP p 18 (z + 27) :: xA (z + 28) 21 512 :: xP p 19 (z + 28) :: fiO (z + 1) 0 4 54))))
theorem mk_o7 : mkO (o7 p z) z = z + 28 := by
  unfold o7
  simp only [xA, xP, xI, mkO, mkO_app, mk_o0, mk_o9, mk_fi, mk_de, mk_ed] <;> omega
theorem rn7 (d0 : p ≠ 0) (d : Kx h p 6 []) (hz : sz h = z) : MX7_init h p = some (runO (o7 p z) h) := by
  unfold MX7_init o7
  rw [gn_ne d0]
  rw [gg_t d.2.1]
  refine rkI d hz fun h d hz => ?_
  refine rkA d hz (by simp) fun h d hz => ?_
  refine rkA d hz (by simp) fun h d hz => ?_
  refine rkI d hz fun h d hz => ?_
  refine rkS (ini := MX9_init) (K1 := 8) (c := 7) d hz (by simp) (fun g e ez => rn9 (by omega) e ez) (up_o9 (by omega) (by omega)) (mk_o9) fun h d hz => ?_
  refine rkA d hz (by simp) fun h d hz => ?_
  refine rkA d hz (by simp) fun h d hz => ?_
  refine rkI d hz fun h d hz => ?_
  refine rkA d hz (by simp) fun h d hz => ?_
  refine rkI d hz fun h d hz => ?_
  refine rkA d hz (by simp) fun h d hz => ?_
  refine rkI d hz fun h d hz => ?_
  refine rkA d hz (by simp) fun h d hz => ?_
  refine rkA d hz (by simp) fun h d hz => ?_
  refine rkS (ini := MX0_init) (K1 := 0) (c := 6) d hz (by simp) (fun g e ez => rn0 (by omega) e ez) (up_o0 (by omega) (by omega)) (mk_o0) fun h d hz => ?_
  refine rkA d hz (by simp) fun h d hz => ?_
  refine rkA d hz (by simp) fun h d hz => ?_
  refine rkA d hz (by simp) fun h d hz => ?_
  refine rkA d hz (by simp) fun h d hz => ?_
  refine rkA d hz (by simp) fun h d hz => ?_
  obtain ⟨e1, -, e2, e3⟩ := d.2.2 (1, z + 1, 20, 54) (by simp)
  exact lp_7 rfl d.2.1 e1 e2 e3
theorem up_o7 (h1 : b < p) (h2 : b ≤ z) : upO b (o7 p z) := by
  unfold o7
  generalize (54 : Nat) = n
  exact ⟨(show b < p by omega), ⟨(show b < z + 1 by omega), ⟨(show b < p by omega), ⟨(show b < z + 2 by omega), ⟨(show b < p by omega), ⟨(show b < p by omega), ⟨(show b < z + 3 by omega), Eq.mpr (upO_app _ _) ⟨up_o9 (by omega) (by omega), ⟨(show b < p by omega), ⟨(show b < z + 11 by omega), ⟨(show b < p by omega), ⟨(show b < z + 12 by omega), ⟨(show b < p by omega), ⟨(show b < p by omega), ⟨(show b < z + 13 by omega), ⟨(show b < p by omega), ⟨(show b < p by omega), ⟨(show b < z + 14 by omega), ⟨(show b < p by omega), ⟨(show b < p by omega), ⟨(show b < z + 15 by omega), ⟨(show b < p by omega), ⟨(show b < z + 16 by omega), ⟨(show b < p by omega), ⟨(show b < z + 17 by omega), Eq.mpr (upO_app _ _) ⟨up_o0 (by omega) (by omega), ⟨(show b < p by omega), ⟨(show b < z + 24 by omega), ⟨(show b < p by omega), ⟨(show b < z + 25 by omega), ⟨(show b < p by omega), ⟨(show b < z + 26 by omega), ⟨(show b < p by omega), ⟨(show b < z + 27 by omega), ⟨(show b < p by omega), ⟨(show b < z + 28 by omega), ⟨(show b < p by omega), up_fi (by omega) n⟩⟩⟩⟩⟩⟩⟩⟩⟩⟩⟩⟩⟩⟩⟩⟩⟩⟩⟩⟩⟩⟩⟩⟩⟩⟩⟩⟩⟩⟩⟩⟩⟩⟩⟩⟩⟩
def o2 (p z : Nat) : List Ox := xA (z + 1) 20 6 :: xP p 0 (z + 1) :: xA (z + 2) 20 6 :: xP p 1 (z + 2) :: xA (z + 3) 20 6 :: xP p 2 (z + 3) :: xA (z + 4) 20 6 :: xP p 3 (z + 4) :: xA (z + 5) 24 54 :: xP p 4 (z + 5) :: xA (z + 6) 20 54 :: xP p 5 (z + 6) :: xI p 6 (0) :: xA (z + 7) 20 200 :: xP p 7 (z + 7) :: xA (z + 8) 20 200 :: xP p 8 (z + 8) :: xA (z + 9) 20 200 :: xP p 9 (z + 9) :: xA (z + 10) 20 200 :: xP p 10 (z + 10) :: xI p 11 (0) :: deO (z + 1) (z + 2) (z + 3) 6
theorem mk_o2 : mkO (o2 p z) z = z + 10 := by
  unfold o2
  simp only [xA, xP, xI, mkO, mkO_app, mk_fi, mk_de, mk_ed] <;> omega
theorem rn2 (d0 : p ≠ 0) (d : Kx h p 1 []) (hz : sz h = z) : MX2_init h p = some (runO (o2 p z) h) := by
  unfold MX2_init o2
  rw [gn_ne d0]
  refine rkA d hz (by simp) fun h d hz => ?_
  refine rkA d hz (by simp) fun h d hz => ?_
  refine rkA d hz (by simp) fun h d hz => ?_
  refine rkA d hz (by simp) fun h d hz => ?_
  refine rkA d hz (by simp) fun h d hz => ?_
  refine rkA d hz (by simp) fun h d hz => ?_
  refine rkI d hz fun h d hz => ?_
  refine rkA d hz (by simp) fun h d hz => ?_
  refine rkA d hz (by simp) fun h d hz => ?_
  refine rkA d hz (by simp) fun h d hz => ?_
  refine rkA d hz (by simp) fun h d hz => ?_
  refine rkI d hz fun h d hz => ?_
  obtain ⟨e1, -, e2, e3⟩ := d.2.2 (0, z + 1, 20, 6) (by simp)
  obtain ⟨f1, -, f2, f3⟩ := d.2.2 (1, z + 2, 20, 6) (by simp)
  obtain ⟨g1, -, g2, g3⟩ := d.2.2 (2, z + 3, 20, 6) (by simp)
  exact lp_2 rfl d.2.1 ⟨e1, e2, e3⟩ ⟨f1, f2, f3⟩ ⟨g1, g2, g3⟩
theorem up_o2 (h1 : b < p) (h2 : b ≤ z) : upO b (o2 p z) := by
  unfold o2
  have q := up_de (show b < z + 1 by omega) (show b < z + 2 by omega) (show b < z + 3 by omega) 6
  generalize deO (z + 1) (z + 2) (z + 3) 6 = l at q ⊢
  exact ⟨(show b < z + 1 by omega), ⟨(show b < p by omega), ⟨(show b < z + 2 by omega), ⟨(show b < p by omega), ⟨(show b < z + 3 by omega), ⟨(show b < p by omega), ⟨(show b < z + 4 by omega), ⟨(show b < p by omega), ⟨(show b < z + 5 by omega), ⟨(show b < p by omega), ⟨(show b < z + 6 by omega), ⟨(show b < p by omega), ⟨(show b < p by omega), ⟨(show b < z + 7 by omega), ⟨(show b < p by omega), ⟨(show b < z + 8 by omega), ⟨(show b < p by omega), ⟨(show b < z + 9 by omega), ⟨(show b < p by omega), ⟨(show b < z + 10 by omega), ⟨(show b < p by omega), ⟨(show b < p by omega), q⟩⟩⟩⟩⟩⟩⟩⟩⟩⟩⟩⟩⟩⟩⟩⟩⟩⟩⟩⟩⟩⟩
def o11 (p z : Nat) : List Ox := xA (z + 1) 21 400 :: xP p 0 (z + 1) :: xI p 1 (0) :: xI p 2 (-1) :: xA (z + 2) 9 6 :: (o10 (z + 2) (z + 2) (z + 1) ++ (xP p 3 (z + 2) :: xA (z + 12) 4 12 :: (o5 (z + 12) (z + 12) ++ (xP p 4 (z + 12) :: xA (z + 18) 6 20 :: (o7 (z + 18) (z + 18) ++ (xP p 5 (z + 18) :: xA (z + 47) 1 12 :: (o2 (z + 47) (z + 47) ++ (xP p 6 (z + 47) :: xA (z + 58) 2 11 :: (o3 (z + 58) (z + 58) ++ (xP p 7 (z + 58) :: xA (z + 67) 5 5 :: (o6 (z + 67) (z + 67) ++ (xP p 8 (z + 67) :: xP p 9 0 :: xP p 10 0 :: xP p 11 0 :: []))))))))))))
theorem mk_o11 : mkO (o11 p z) z = z + 71 := by
  unfold o11
  simp only [xA, xP, xI, mkO, mkO_app, mk_o10, mk_o2, mk_o3, mk_o5, mk_o6, mk_o7] <;> omega
theorem rn11 (d0 : p ≠ 0) (d : Kx h p 10 []) (hz : sz h = z) : MX11_init h p = some (runO (o11 p z) h) := by
  unfold MX11_init o11
  rw [gn_ne d0]
  refine rkA d hz (by simp) fun h d hz => ?_
  refine rkI d hz fun h d hz => ?_
  refine rkI d hz fun h d hz => ?_
  refine rkS2 (ini := MX10_init) (K1 := 9) (c := 9) (w := z + 1) d hz (by simp) (d.2.2 (0, z + 1, 21, 400) (by simp)).1 (fun g e ez => rn10 (by omega) e ez) (up_o10 (by omega) (by omega)) (mk_o10) fun h d hz => ?_
  refine rkS (ini := MX5_init) (K1 := 4) (c := 5) d hz (by simp) (fun g e ez => rn5 (by omega) e ez) (up_o5 (by omega) (by omega)) (mk_o5) fun h d hz => ?_
  refine rkS (ini := MX7_init) (K1 := 6) (c := 28) d hz (by simp) (fun g e ez => rn7 (by omega) e ez) (up_o7 (by omega) (by omega)) (mk_o7) fun h d hz => ?_
  refine rkS (ini := MX2_init) (K1 := 1) (c := 10) d hz (by simp) (fun g e ez => rn2 (by omega) e ez) (up_o2 (by omega) (by omega)) (mk_o2) fun h d hz => ?_
  refine rkS (ini := MX3_init) (K1 := 2) (c := 8) d hz (by simp) (fun g e ez => rn3 (by omega) e ez) (up_o3 (by omega) (by omega)) (mk_o3) fun h d hz => ?_
  refine rkS (ini := MX6_init) (K1 := 5) (c := 4) d hz (by simp) (fun g e ez => rn6 (by omega) e ez) (up_o6 (by omega) (by omega)) (mk_o6) fun h d hz => ?_
  refine rkP d hz (by simp) fun h d hz => ?_
  refine rkP d hz (by simp) fun h d hz => ?_
  refine rkP d hz (by simp) fun h d hz => ?_
  rfl
def o12 (p z : Nat) : List Ox := xA (z + 1) 20 337220 :: xP p 1 (z + 1) :: xA (z + 2) 20 337220 :: xP p 2 (z + 2) :: xA (z + 3) 20 337220 :: xP p 3 (z + 3) :: xA (z + 4) 20 400 :: xP p 5 (z + 4) :: xI p 9 (-1) :: xA (z + 5) 20 200 :: xP p 12 (z + 5) :: xA (z + 6) 20 200 :: xP p 13 (z + 6) :: xA (z + 7) 20 2400 :: xP p 14 (z + 7) :: xA (z + 8) 20 5 :: xP p 15 (z + 8) :: xA (z + 9) 20 5 :: xP p 16 (z + 9) :: xA (z + 10) 20 562 :: xP p 18 (z + 10) :: xA (z + 11) 22 3 :: xP p 21 (z + 11) :: xA (z + 12) 20 6 :: xP p 22 (z + 12) :: xA (z + 13) 22 100 :: xP p 23 (z + 13) :: xA (z + 14) 20 41 :: xP p 31 (z + 14) :: xA (z + 15) 20 41 :: xP p 32 (z + 15) :: xA (z + 16) 20 41 :: xP p 33 (z + 16) :: xA (z + 17) 20 430 :: xP p 34 (z + 17) :: xA (z + 18) 20 27 :: xP p 36 (z + 18) :: xA (z + 19) 22 41 :: xP p 37 (z + 19) :: xA (z + 20) 20 17200 :: xP p 38 (z + 20) :: xA (z + 21) 20 40 :: xP p 39 (z + 21) :: xA (z + 22) 20 40 :: xP p 40 (z + 22) :: xA (z + 23) 20 645 :: xP p 41 (z + 23) :: xA (z + 24) 20 40 :: xP p 42 (z + 24) :: xA (z + 25) 20 40 :: xP p 43 (z + 25) :: xA (z + 26) 20 480 :: xP p 44 (z + 26) :: xA (z + 27) 20 4 :: xP p 45 (z + 27) :: xA (z + 28) 20 4 :: xP p 46 (z + 28) :: xA (z + 29) 20 4 :: xP p 47 (z + 29) :: xA (z + 30) 20 4 :: xP p 48 (z + 30) :: xA (z + 31) 20 4 :: xP p 49 (z + 31) :: xA (z + 32) 20 3 :: xP p 50 (z + 32) :: xA (z + 33) 20 5 :: xP p 53 (z + 33) :: xA (z + 34) 20 5 :: xP p 54 (z + 34) :: xA (z + 35) 20 4 :: xP p 55 (z + 35) :: (fiO (z + 1) 16 4 54 ++ edO (z + 1) 6)
theorem mk_o12 : mkO (o12 p z) z = z + 35 := by
  unfold o12
  simp only [xA, xP, xI, mkO, mkO_app, mk_fi, mk_de, mk_ed] <;> omega
theorem rn12 (d0 : p ≠ 0) (d : Kx h p 11 []) (hz : sz h = z) : MX12_init h p = some (runO (o12 p z) h) := by
  unfold MX12_init o12
  rw [gn_ne d0]
  refine rkA d hz (by simp) fun h d hz => ?_
  refine rkA d hz (by simp) fun h d hz => ?_
  refine rkA d hz (by simp) fun h d hz => ?_
  refine rkA d hz (by simp) fun h d hz => ?_
  refine rkI d hz fun h d hz => ?_
  refine rkA d hz (by simp) fun h d hz => ?_
  refine rkA d hz (by simp) fun h d hz => ?_
  refine rkA d hz (by simp) fun h d hz => ?_
  refine rkA d hz (by simp) fun h d hz => ?_
  refine rkA d hz (by simp) fun h d hz => ?_
  refine rkA d hz (by simp) fun h d hz => ?_
  refine rkA d hz (by simp) fun h d hz => ?_
  refine rkA d hz (by simp) fun h d hz => ?_
  refine rkA d hz (by simp) fun h d hz => ?_
  refine rkA d hz (by simp) fun h d hz => ?_
  refine rkA d hz (by simp) fun h d hz => ?_
  refine rkA d hz (by simp) fun h d hz => ?_
  refine rkA d hz (by simp) fun h d hz => ?_
  refine rkA d hz (by simp) fun h d hz => ?_
  refine rkA d hz (by simp) fun h d hz => ?_
  refine rkA d hz (by simp) fun h d hz => ?_
  refine rkA d hz (by simp) fun h d hz => ?_
  refine rkA d hz (by simp) fun h d hz => ?_
  refine rkA d hz (by simp) fun h d hz => ?_
  refine rkA d hz (by simp) fun h d hz => ?_
  refine rkA d hz (by simp) fun h d hz => ?_
  refine rkA d hz (by simp) fun h d hz => ?_
  refine rkA d hz (by simp) fun h d hz => ?_
  refine rkA d hz (by simp) fun h d hz => ?_
  refine rkA d hz (by simp) fun h d hz => ?_
  refine rkA d hz (by simp) fun h d hz => ?_
  refine rkA d hz (by simp) fun h d hz => ?_
  refine rkA d hz (by simp) fun h d hz => ?_
  refine rkA d hz (by simp) fun h d hz => ?_
  refine rkA d hz (by simp) fun h d hz => ?_
  refine rkA d hz (by simp) fun h d hz => ?_
  obtain ⟨e1, -, e2, e3⟩ := d.2.2 (1, z + 1, 20, 337220) (by simp)
  exact lp_12 rfl rfl d.2.1 e1 e2 e3
end
