/-! style: rules, the reference reads them -/
/-- a piece of the reference's reading of a rule does what f says -/
def DRn (g0 : Hp) (b : Nat → Nat) (e : Nat) (rs : List Rl) (F : Hp → Option (Int32 × Hp)) (f : Nat → RuR) : Prop := ∀ g a, KP g0 g a rs (fun _ => 0) → a ≤ e → poL rs rs.length ≤ 62 + a → (∀ p, f a = .inl p → ∃ g', F g = some (nI 0, g') ∧ RFl g0 g' p) ∧ ∀ q, f a = .inr q → ∃ g' a', F g = some (nI 1, g') ∧ RPs g0 g' a' (rs ++ [q.2]) rs.length (rs.length + 1) ∧ a' ≤ e ∧ ik b e a' = ik b e q.1
/-- behind the first number -/
noncomputable def r223t (h61 : Hp) (v1 v2 : Int32) : Option (Int32 × Hp) := if v2 = nI 0 then MX12_readRule_258 h61 73 else if v2 = nI 4 then MX12_readRule_258 h61 73 else if v2 = nI 6 then b2 (MX12_takes h61 73 1) fun (t96 : Int32) (h95 : Hp) => if t96 = nI 0 then gg (kd h95 73 = 11) <| b2 (MX12_fails h95 73) fun (t101 : Int32) (h100 : Hp) => gg (zOk t101 = true) <| some (t101, h100) else MX12_readRule_285 h95 73 v1 v2 else MX12_readRule_285 h61 73 v1 v2
section
variable {g0 g g1 g9 : Hp} {b : Nat → Nat} {e a a' k n m j p i lo hi v r w : Nat} {rs : List Rl} {t : Rl} {c c' : Nat → Nat} {l : List Op} {f : Nat → RuR} {F : Hp → Option (Int32 × Hp)}
theorem rtk_t (T : TR g b e) (ha : gI g 73 8 = nI a) (ae : a ≤ e) (hk : k < 21) (w : wdB b e k (ik b e a) = true) : MX12_takes g 73 k = some (nI 1, sI g 73 8 (nI (ik b e a + sN k))) := by
  have := r_tkW T ha ae hk
  rw [if_pos w, w] at this
  exact this
theorem rtk_f (T : TR g b e) (ha : gI g 73 8 = nI a) (ae : a ≤ e) (hk : k < 21) (w : ¬ wdB b e k (ik b e a) = true) : MX12_takes g 73 k = some (nI 0, sI g 73 8 (nI (ik b e a))) := by
  have := r_tkW T ha ae hk
  have wf : wdB b e k (ik b e a) = false := by
    cases x : wdB b e k (ik b e a) with
    | true => exact absurd x w
    | false => rfl
  rw [if_neg w, wf] at this
  exact this
theorem KP.cg (K : KP g0 g a rs c) (h : ∀ k, k < 5 → c k = c' k) : KP g0 g a rs c' := ⟨K.1, fun k hk => by rw [← h k hk]; exact K.2 k hk⟩
theorem RPs.d (K : RPs g0 g a rs n (rs.length + 1)) (hn : rs.length < 12) (hk : k < 5) {v : Int32} : RPs g0 (sI g 83 (2 + 5 * rs.length + k) v) a rs n (rs.length + 1) := by
  obtain ⟨F, k1, k2, k3, k4, k5, k6, k8⟩ := K
  have p62 := poL_62 (rs := rs) rs.length
  have o : ∀ j, gI (sI g 83 (2 + 5 * rs.length + k) v) 73 j = gI g 73 j := fun j => by rw [gI_sI, if_neg (by decide)]
  refine ⟨F.trans (Fr.sI (Or.inr rfl)), fun j h1 h2 h3 h4 h5 h6 => by rw [o]; exact k1 j h1 h2 h3 h4 h5 h6, by rw [o]; exact k2, by rw [o]; exact k3, by rw [o]; exact k4, by rw [o]; exact k5, fun r hr => (k6 r hr).cg hr (by omega) (fun j hj => ?_) (fun j h1 h2 => ?_), fun j y1 y2 => ?_⟩
  · rw [gI_sI, if_pos rfl, up_at, if_neg (by omega)]
  · rw [gI_sI, if_pos rfl, up_at, if_neg (by omega)]
  · rw [gI_sI, if_pos rfl, up_at, if_neg (by omega)]; exact k8 j y1 y2
/-- more may be written -/
theorem RPs.wk (K : RPs g0 g a rs n w) {w' : Nat} (h : w ≤ w') : RPs g0 g a rs n w' := by
  obtain ⟨F, k1, k2, k3, k4, k5, k6, k8⟩ := K
  exact ⟨F, k1, k2, k3, k4, k5, k6, fun j y1 y2 => k8 j (by omega) y2⟩
/-- the draft's five cells are emptied -/
theorem r_zero (T : TR g0 b e) (hn : rs.length < 12) : ∀ d j g, j + d = 5 → RPs g0 g a rs rs.length (rs.length + 1) → (∀ k, k < j → gI g 83 (2 + 5 * rs.length + k) = nI 0) → ∃ g', it (fun q : Int32 × Hp => BX12_readRule_11 q.2 73 (nI (2 + 5 * rs.length)) q.1) (nI j, g) = MX12_readRule_31 g' 73 (nI (2 + 5 * rs.length)) ∧ KP g0 g' a rs (fun _ => 0)
  | 0, j, g, hd, K, hz => by
    have hd : j = 5 := hd
    subst hd
    refine ⟨g, it_u1 (X := MX12_readRule_31 g 73 (nI (2 + 5 * rs.length))) ?_, K, hz⟩
    show BX12_readRule_11 g 73 (nI (2 + 5 * rs.length)) (nI 5) = _
    unfold BX12_readRule_11
    simp only [ZL]
    rw [if_pos (nI_le (Nat.le_refl _) (by omega))]
  | d + 1, j, g, hd, K, hz => by
    have R := RS.f (K.tr T).1
    have st : BX12_readRule_11 g 73 (nI (2 + 5 * rs.length)) (nI j) = some (.inl (nI (j + 1), sI g 83 (2 + 5 * rs.length + j) (nI 0))) := by
      unfold BX12_readRule_11
      simp only [ZL, R]
      rw [if_neg (nI_ge (by omega) (by omega)), gg_T, gg_T, nAdd, gg_in (by omega) (by omega), nCl (by omega), lt_eq, nAdd]
    obtain ⟨g', k1, k2⟩ := r_zero T hn d (j + 1) (sI g 83 (2 + 5 * rs.length + j) (nI 0)) (by omega) (K.d hn (by omega)) (fun k hk => by
      rw [gI_sI, if_pos rfl, up_at]
      by_cases z : k = j
      · rw [if_pos (by omega)]
      · rw [if_neg (by omega)]; exact hz k (by omega))
    exact ⟨g', by rw [it_next (s' := (nI (j + 1), sI g 83 (2 + 5 * rs.length + j) (nI 0))) st]; exact k1, k2⟩
theorem r_223 (T : TR g0 b e) (K : KP g0 g a rs c) (hn : rs.length < 12) (ae : a ≤ e) (hlo : lo < 10000) (hhi : hi < 10000) : (∀ p, nmP b e lo hi a = .inl p → ∃ g', MX12_readRule_223 g 73 (nI (2 + 5 * rs.length)) (nI k) (nI lo) (nI hi) = some (nI 0, g') ∧ RFl g0 g' p) ∧ ∀ q, nmP b e lo hi a = .inr q → ∃ g', MX12_readRule_223 g 73 (nI (2 + 5 * rs.length)) (nI k) (nI lo) (nI hi) = r223t g' (nI (2 + 5 * rs.length)) (nI k) ∧ KP g0 g' q.1 rs (fun j => if j = 1 then q.2 else c j) := by
  obtain ⟨n1, n2⟩ := K.num T ae rfl hlo hhi
  refine ⟨fun p hp => ?_, fun q hq => ?_⟩
  · obtain ⟨g', y1, y2⟩ := n1 p hp
    refine ⟨g', ?_, y2⟩
    unfold MX12_readRule_223
    simp only [ZL]
    rw [gg_t (RS.f (K.1.tr T).1).1, y1, b2_some, if_pos rfl]
  · obtain ⟨g', y1, y2, y3⟩ := n2 q hq
    refine ⟨_, ?_, y2.set (k := 1) hn (by omega)⟩
    have R := RS.f (y2.1.tr T).1
    unfold MX12_readRule_223 r223t
    simp only [ZL]
    rw [gg_t (RS.f (K.1.tr T).1).1, y1, b2_some, if_neg (show ¬ nI 1 = nI 0 by decide)]
    simp only [R]
    rw [gg_T, gg_T, nAdd, gg_in (by omega) (by omega), nCl (by omega), y3, lt_eq]
theorem r_329 (T : TR g0 b e) (K : KP g0 g a rs c) (hn : rs.length < 12) (ae : a ≤ e) (hlo : lo < 10000) (hhi : hi < 10000) : (∀ p, nmP b e lo hi a = .inl p → ∃ g', MX12_readRule_329 g 73 (nI (2 + 5 * rs.length)) 73 (nI lo) (nI hi) = some (nI 0, g') ∧ RFl g0 g' p) ∧ ∀ q, nmP b e lo hi a = .inr q → ∃ g', MX12_readRule_329 g 73 (nI (2 + 5 * rs.length)) 73 (nI lo) (nI hi) = some (nI 1, g') ∧ KP g0 g' q.1 rs (fun j => if j = 2 then q.2 else c j) := by
  obtain ⟨n1, n2⟩ := K.num T ae rfl hlo hhi
  refine ⟨fun p hp => ?_, fun q hq => ?_⟩
  · obtain ⟨g', y1, y2⟩ := n1 p hp
    refine ⟨g', ?_, y2⟩
    unfold MX12_readRule_329
    simp only [ZL]
    rw [gg_t (RS.f (K.1.tr T).1).1, y1, b2_some, if_pos rfl]
  · obtain ⟨g', y1, y2, y3⟩ := n2 q hq
    refine ⟨_, ?_, y2.set (k := 2) hn (by omega)⟩
    have R := RS.f (y2.1.tr T).1
    unfold MX12_readRule_329
    simp only [ZL]
    rw [gg_t (RS.f (K.1.tr T).1).1, y1, b2_some, if_neg (show ¬ nI 1 = nI 0 by decide)]
    simp only [R]
    rw [gg_T, gg_T, nAdd, gg_in (by omega) (by omega), nCl (by omega), y3, lt_eq]
theorem r_127 (T : TR g0 b e) (K : KP g0 g a rs c) (hn : rs.length < 12) (hk : k < 7) : MX12_readRule_127 g 73 (nI (2 + 5 * rs.length)) (nI k) = (if nI k = nI 5 then b2 (MX12_readIf (sI g 83 (2 + 5 * rs.length + 0) (nI k)) 73 (nI 1)) fun (t107 : Int32) (h106 : Hp) => gg (zOk t107 = true) <| some (t107, h106) else if nI k = nI 0 then MX12_readRule_175 (sI g 83 (2 + 5 * rs.length + 0) (nI k)) 73 (nI (2 + 5 * rs.length)) (nI k) (nI 10) else if nI k = nI 1 then MX12_readRule_175 (sI g 83 (2 + 5 * rs.length + 0) (nI k)) 73 (nI (2 + 5 * rs.length)) (nI k) (nI 1) else MX12_readRule_175 (sI g 83 (2 + 5 * rs.length + 0) (nI k)) 73 (nI (2 + 5 * rs.length)) (nI k) (nI 0)) := by
  have R := RS.f (K.1.tr T).1
  unfold MX12_readRule_127
  simp only [ZL]
  rw [if_neg (show ¬ nI k = -nI 1 by rw [nM6 (by omega)]; exact id)]
  simp only [R]
  rw [gg_T, gg_T, gg_in (by omega) (by omega), nCl (by omega), lt_eq]
  rfl
/-- the kinds whose reading begins with a number -/
theorem r_nk (T : TR g0 b e) (K : KP g0 g a rs (fun _ => 0)) (hn : rs.length < 12) (hk : k < 7) (ae : a ≤ e) (hlo : lo < 10000) (hhi : hi < 10000) (h5 : ¬ nI k = nI 5) (hx : ∀ g', (if nI k = nI 0 then MX12_readRule_175 g' 73 (nI (2 + 5 * rs.length)) (nI k) (nI 10) else if nI k = nI 1 then MX12_readRule_175 g' 73 (nI (2 + 5 * rs.length)) (nI k) (nI 1) else MX12_readRule_175 g' 73 (nI (2 + 5 * rs.length)) (nI k) (nI 0)) = MX12_readRule_223 g' 73 (nI (2 + 5 * rs.length)) (nI k) (nI lo) (nI hi)) : (∀ p, nmP b e lo hi a = .inl p → ∃ g', MX12_readRule_127 g 73 (nI (2 + 5 * rs.length)) (nI k) = some (nI 0, g') ∧ RFl g0 g' p) ∧ ∀ q, nmP b e lo hi a = .inr q → ∃ g', MX12_readRule_127 g 73 (nI (2 + 5 * rs.length)) (nI k) = r223t g' (nI (2 + 5 * rs.length)) (nI k) ∧ KP g0 g' q.1 rs (fun j => if j = 1 then q.2 else if j = 0 then k else 0) := by
  rw [r_127 T K hn hk, if_neg h5, hx]
  exact r_223 T (K.set (k := 0) (v := k) hn (by omega)) hn ae hlo hhi
theorem r_nm (T : TR g0 b e) (hn : rs.length < 12) (hk : k < 7) (h2 : k = 2 ∨ k = 3) (hlo : lo < 10000) (hhi : hi < 10000) (hx : ∀ g', (if nI k = nI 0 then MX12_readRule_175 g' 73 (nI (2 + 5 * rs.length)) (nI k) (nI 10) else if nI k = nI 1 then MX12_readRule_175 g' 73 (nI (2 + 5 * rs.length)) (nI k) (nI 1) else MX12_readRule_175 g' 73 (nI (2 + 5 * rs.length)) (nI k) (nI 0)) = MX12_readRule_223 g' 73 (nI (2 + 5 * rs.length)) (nI k) (nI lo) (nI hi)) : DRn g0 b e rs (fun g => MX12_readRule_127 g 73 (nI (2 + 5 * rs.length)) (nI k)) (nmR b e k lo hi) := fun g a K ae hp => by
  obtain ⟨n1, n2⟩ := r_nk T K hn hk ae hlo hhi (by rcases h2 with rfl | rfl <;> decide) hx
  obtain ⟨g1, g2⟩ := nm_g (b := b) (lo := lo) (hi' := hi) ae
  unfold nmR
  cases q : nmP b e lo hi a with
  | inl p =>
    refine ⟨fun p' hp => ?_, fun q' hq => (nomatch hq)⟩
    have hp : p = p' := by cases hp; rfl
    subst hp
    exact n1 p q
  | inr r =>
    obtain ⟨g', y1, y2⟩ := n2 r q
    refine ⟨fun p' hp => (nomatch hp), fun q' hq => ?_⟩
    have hq : q' = (r.1, ((k, r.2, 0), [])) := by cases hq; rfl
    subst hq
    refine ⟨g', r.1, y1.trans ?_, KP.done T y2 hn rfl rfl, (g2 r q).2.1, rfl⟩
    unfold r223t MX12_readRule_285
    simp only [ZL]
    rcases h2 with rfl | rfl
    · rw [if_neg (by decide), if_neg (by decide), if_neg (by decide), if_neg (by decide), if_neg (by decide)]
    · rw [if_neg (by decide), if_neg (by decide), if_neg (by decide), if_neg (by decide), if_neg (by decide)]
theorem r_nf (T : TR g0 b e) (hn : rs.length < 12) (hk : k < 7) (h2 : k = 0 ∨ k = 4) (hlo : lo < 10000) (hhi : hi < 10000) (hx : ∀ g', (if nI k = nI 0 then MX12_readRule_175 g' 73 (nI (2 + 5 * rs.length)) (nI k) (nI 10) else if nI k = nI 1 then MX12_readRule_175 g' 73 (nI (2 + 5 * rs.length)) (nI k) (nI 1) else MX12_readRule_175 g' 73 (nI (2 + 5 * rs.length)) (nI k) (nI 0)) = MX12_readRule_223 g' 73 (nI (2 + 5 * rs.length)) (nI k) (nI lo) (nI hi)) : DRn g0 b e rs (fun g => MX12_readRule_127 g 73 (nI (2 + 5 * rs.length)) (nI k)) (nfR b e k lo hi) := fun g a K ae hp => by
  obtain ⟨n1, n2⟩ := r_nk T K hn hk ae hlo hhi (by rcases h2 with rfl | rfl <;> decide) hx
  obtain ⟨g1, g2⟩ := nm_g (b := b) (lo := lo) (hi' := hi) ae
  unfold nfR
  cases q : nmP b e lo hi a with
  | inl p =>
    refine ⟨fun p' hp => ?_, fun q' hq => (nomatch hq)⟩
    have hp : p = p' := by cases hp; rfl
    subst hp
    exact n1 p q
  | inr r =>
    obtain ⟨g', y1, y2⟩ := n2 r q
    obtain ⟨r1, r2, -⟩ := g2 r q
    obtain ⟨j1, j2⟩ := ik_le (b := b) r2
    have e1 : r223t g' (nI (2 + 5 * rs.length)) (nI k) = b2 (MX12_readIf g' 73 (nI 0)) fun (t70 : Int32) (h69 : Hp) => gg (zOk t70 = true) <| some (t70, h69) := by
      unfold r223t MX12_readRule_258
      simp only [ZL]
      rw [gg_t (RS.f (y2.1.tr T).1).1]
      rcases h2 with rfl | rfl
      · rw [if_pos rfl]
      · rw [if_neg (by decide), if_pos rfl]
    obtain ⟨c1, c2⟩ := r_if T y2 hn r2 (by omega) rfl rfl false
    show (∀ p, ifR b e false (k, r.2, 0) r.1 = .inl p → ∃ g', MX12_readRule_127 g 73 (nI (2 + 5 * rs.length)) (nI k) = some (nI 0, g') ∧ RFl g0 g' p) ∧ ∀ q, ifR b e false (k, r.2, 0) r.1 = .inr q → ∃ g' a', MX12_readRule_127 g 73 (nI (2 + 5 * rs.length)) (nI k) = some (nI 1, g') ∧ RPs g0 g' a' (rs ++ [q.2]) rs.length (rs.length + 1) ∧ a' ≤ e ∧ ik b e a' = ik b e q.1
    rw [y1, e1]
    refine ⟨fun p' hp => ?_, fun q' hq => ?_⟩
    · obtain ⟨z, z1, z2⟩ := c1 p' hp
      replace z1 : MX12_readIf g' 73 (nI 0) = _ := z1
      exact ⟨z, by rw [z1, b2_some, gg_t (of_eq_true zk0)], z2⟩
    · obtain ⟨z, a', z1, z2⟩ := c2 q' hq
      replace z1 : MX12_readIf g' 73 (nI 0) = _ := z1
      exact ⟨z, a', by rw [z1, b2_some, gg_t (of_eq_true zk1)], z2⟩
theorem r_k5 (T : TR g0 b e) (hn : rs.length < 12) : DRn g0 b e rs (fun g => MX12_readRule_127 g 73 (nI (2 + 5 * rs.length)) (nI 5)) (ifR b e true (5, 0, 0)) := fun g a K ae hp => by
  obtain ⟨j1, j2⟩ := ik_le (b := b) ae
  have K1 := K.set (k := 0) (v := 5) hn (by omega)
  obtain ⟨c1, c2⟩ := r_if T K1 hn ae (by omega) rfl rfl true
  show (∀ p, ifR b e true (5, 0, 0) a = .inl p → ∃ g', MX12_readRule_127 g 73 (nI (2 + 5 * rs.length)) (nI 5) = some (nI 0, g') ∧ RFl g0 g' p) ∧ ∀ q, ifR b e true (5, 0, 0) a = .inr q → ∃ g' a', MX12_readRule_127 g 73 (nI (2 + 5 * rs.length)) (nI 5) = some (nI 1, g') ∧ RPs g0 g' a' (rs ++ [q.2]) rs.length (rs.length + 1) ∧ a' ≤ e ∧ ik b e a' = ik b e q.1
  rw [r_127 T K hn (by omega), if_pos rfl]
  refine ⟨fun p' hp => ?_, fun q' hq => ?_⟩
  · obtain ⟨z, z1, z2⟩ := c1 p' hp
    replace z1 : MX12_readIf (sI g 83 (2 + 5 * rs.length + 0) (nI 5)) 73 (nI 1) = _ := z1
    exact ⟨z, by rw [z1, b2_some, gg_t (of_eq_true zk0)], z2⟩
  · obtain ⟨z, a', z1, z2⟩ := c2 q' hq
    replace z1 : MX12_readIf (sI g 83 (2 + 5 * rs.length + 0) (nI 5)) 73 (nI 1) = _ := z1
    exact ⟨z, a', by rw [z1, b2_some, gg_t (of_eq_true zk1)], z2⟩
end
