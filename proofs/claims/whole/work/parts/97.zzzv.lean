/-! copy is read: the pure picture -/
/-- part, run, behind a hyphen; words and pieces of the parts; words, lengths, letters of the pieces -/
abbrev TX : Type := Nat × Nat × Bool × (Nat → Int32) × (Nat → Int32) × (Nat → Int32) × (Nat → Int32) × (Nat → Int32)
def lB (c : Nat) : Bool := decide (97 ≤ c) && decide (c ≤ 122)
theorem lB_t {c : Nat} : (lB c = true) = (97 ≤ c ∧ c ≤ 122) := by
  unfold lB
  rw [Bool.and_eq_true, decide_eq_true_iff, decide_eq_true_iff]
theorem lB_f {c : Nat} (h : lB c = false) : c < 97 ∨ 122 < c := by
  by_cases z : 97 ≤ c ∧ c ≤ 122
  · rw [lB_t.mpr z] at h
    exact Bool.noConfusion h
  · omega
/-- the words of the part read, its pieces -/
def tw (s : TX) : Nat := Nn s.2.2.2.1 s.1
def tp (s : TX) : Nat := Nn s.2.2.2.2.1 s.1
/-- the words once a piece begins -/
def tw1 (s : TX) : Nat := tw s + (if s.2.2.1 = true then 0 else 1)
/-- a piece begins with letter c -/
def tNew (s : TX) (c : Nat) : TX := (s.1, 1, false, va_up s.2.2.2.1 s.1 (nI (tw1 s)), va_up s.2.2.2.2.1 s.1 (nI (tp s + 1)), va_up s.2.2.2.2.2.1 (40 * s.1 + tp s) (nI (tw1 s - 1)), va_up s.2.2.2.2.2.2.1 (40 * s.1 + tp s) (nI 1), va_up s.2.2.2.2.2.2.2 (12 * (40 * s.1 + tp s)) (nI (c - 97)))
/-- a piece goes on -/
def tOn (s : TX) (c : Nat) : TX := (s.1, s.2.1 + 1, false, s.2.2.2.1, s.2.2.2.2.1, s.2.2.2.2.2.1, va_up s.2.2.2.2.2.2.1 (40 * s.1 + tp s - 1) (nI (s.2.1 + 1)), va_up s.2.2.2.2.2.2.2 (12 * (40 * s.1 + tp s - 1) + s.2.1) (nI (c - 97)))
def tHy (s : TX) : TX := (s.1, 0, true, s.2.2.2.1, s.2.2.2.2.1, s.2.2.2.2.2.1, s.2.2.2.2.2.2.1, s.2.2.2.2.2.2.2)
def tBl (s : TX) : TX := (s.1, 0, false, s.2.2.2.1, s.2.2.2.2.1, s.2.2.2.2.2.1, s.2.2.2.2.2.2.1, s.2.2.2.2.2.2.2)
def tPt (s : TX) : TX := (s.1 + 1, 0, false, va_up s.2.2.2.1 (s.1 + 1) (nI 0), va_up s.2.2.2.2.1 (s.1 + 1) (nI 0), s.2.2.2.2.2.1, s.2.2.2.2.2.2.1, s.2.2.2.2.2.2.2)
def stT (mp mw ba : Nat) (s : TX) (c n : Nat) : Nat ⊕ TX :=
  if lB c = true then (if s.2.1 = 0 then (if mw < tw1 s ∨ 40 < tp s + 1 + ba then .inl n else .inr (tNew s c)) else (if 12 < s.2.1 + 1 then .inl n else .inr (tOn s c)))
  else if s.2.2.1 = true then .inl n
  else if c = 45 ∧ 0 < s.2.1 then .inr (tHy s)
  else if c = 47 ∧ 0 < tw s ∧ s.1 + 1 < mp then .inr (tPt s)
  else if c = 32 then .inr (tBl s)
  else .inl n
/-- what is known when the first n bytes are read -/
def ruT (mp mw ba : Nat) (b : Nat → Nat) (s0 : TX) : Nat → Nat ⊕ TX
  | 0 => .inr s0
  | n + 1 => match ruT mp mw ba b s0 n with
    | .inl p => .inl p
    | .inr s => stT mp mw ba s (b n) n
/-- the first wrong byte, and one; 0 none -/
def enT (e : Nat) : Nat ⊕ TX → Nat
  | .inl p => p + 1
  | .inr s => if s.2.2.1 = true ∨ tw s = 0 then e + 1 else 0
section
variable {mp mw ba e n p : Nat} {b : Nat → Nat} {s0 s : TX}
theorem ruT_s (h : ruT mp mw ba b s0 n = .inr s) : ruT mp mw ba b s0 (n + 1) = stT mp mw ba s (b n) n := by
  show (match ruT mp mw ba b s0 n with | .inl p => _ | .inr s => _) = _
  rw [h]
theorem ruT_e (h : ruT mp mw ba b s0 n = .inl p) : ∀ d, ruT mp mw ba b s0 (n + d) = .inl p
  | 0 => h
  | d + 1 => by
    show (match ruT mp mw ba b s0 (n + d) with | .inl p => _ | .inr s => _) = _
    rw [ruT_e h d]
/-- what the states keep -/
def TI (mp mw ba : Nat) (s : TX) : Prop := s.1 < mp ∧ s.2.1 ≤ 12 ∧ (∀ j, j ≤ s.1 → oN s.2.2.2.1 j mw ∧ oN s.2.2.2.2.1 j 40) ∧ tp s + ba ≤ 40 ∧ (0 < s.2.1 → s.2.2.1 = false ∧ s.2.2.2.2.2.2.1 (40 * s.1 + tp s - 1) = nI s.2.1) ∧ (0 < s.2.1 ∨ s.2.2.1 = true → 1 ≤ tp s) ∧ (∀ j, j < s.1 → 1 ≤ Nn s.2.2.2.1 j) ∧
  ∀ j, j ≤ s.1 → (Nn s.2.2.2.2.1 j = 0 ↔ Nn s.2.2.2.1 j = 0) ∧ ∀ x, x < Nn s.2.2.2.2.1 j → (oN s.2.2.2.2.2.1 (40 * j + x) (mw - 1) ∧ (x = 0 → Nn s.2.2.2.2.2.1 (40 * j + x) = 0) ∧ (x + 1 = Nn s.2.2.2.2.1 j → Nn s.2.2.2.2.2.1 (40 * j + x) + 1 = Nn s.2.2.2.1 j) ∧ (x + 1 < Nn s.2.2.2.2.1 j → Nn s.2.2.2.2.2.1 (40 * j + (x + 1)) = Nn s.2.2.2.2.2.1 (40 * j + x) ∨ Nn s.2.2.2.2.2.1 (40 * j + (x + 1)) = Nn s.2.2.2.2.2.1 (40 * j + x) + 1)) ∧ (oN s.2.2.2.2.2.2.1 (40 * j + x) 12 ∧ 1 ≤ Nn s.2.2.2.2.2.2.1 (40 * j + x)) ∧ ∀ l, l < Nn s.2.2.2.2.2.2.1 (40 * j + x) → oN s.2.2.2.2.2.2.2 (12 * (40 * j + x) + l) 25
theorem nnU {f : Nat → Int32} {a v y : Nat} (hv : v < 2147483648) : Nn (va_up f a (nI v)) y = if y = a then v else Nn f y := by
  unfold Nn
  rw [up_at]
  by_cases z : y = a
  · rw [if_pos z, if_pos z, nCl hv]
  · rw [if_neg z, if_neg z]
theorem onU {f : Nat → Int32} {a v y B : Nat} (h1 : y = a → v ≤ B) (h2 : y ≠ a → oN f y B) : oN (va_up f a (nI v)) y B := by
  by_cases z : y = a
  · exact ⟨v, h1 z, by rw [up_at, if_pos z]⟩
  · obtain ⟨x, hx, e⟩ := h2 z
    exact ⟨x, hx, by rw [up_at, if_neg z]; exact e⟩
theorem ti_new {c : Nat} (T : TI mp mw ba s) (hm : mw ≤ 40) (r0 : s.2.1 = 0) (h1 : tw1 s ≤ mw) (h2 : tp s + 1 + ba ≤ 40) (hc : lB c = true) : TI mp mw ba (tNew s c) := by
  obtain ⟨k, run, bh, wd, pc, W, Ln, Lt⟩ := s
  obtain ⟨a1, a2, a3, a4, a5, a6, a7, a8⟩ := T
  obtain ⟨c1, c2⟩ := lB_t.mp hc
  have r0 : run = 0 := r0
  have a1 : k < mp := a1
  have a3 : ∀ j, j ≤ k → oN wd j mw ∧ oN pc j 40 := a3
  have a4 : Nn pc k + ba ≤ 40 := a4
  have a6 : 0 < run ∨ bh = true → 1 ≤ Nn pc k := a6
  have a7 : ∀ j, j < k → 1 ≤ Nn wd j := a7
  have h2 : Nn pc k + 1 + ba ≤ 40 := h2
  obtain ⟨w, hw⟩ : ∃ w, w = Nn wd k + (if bh = true then 0 else 1) := ⟨_, rfl⟩
  have h1 : Nn wd k + (if bh = true then 0 else 1) ≤ mw := h1
  have e8 := a8 k (Nat.le_refl _)
  have w1 : 1 ≤ w := by
    rw [hw]
    cases bh with
    | false => rw [if_neg (by decide)]; omega
    | true =>
      have p1 := a6 (Or.inr rfl)
      have := e8.1
      rw [if_pos rfl]
      show 1 ≤ Nn wd k + 0
      have e8' : (Nn pc k = 0 ↔ Nn wd k = 0) := e8.1
      omega
  have es : tNew (k, run, bh, wd, pc, W, Ln, Lt) c = (k, 1, false, va_up wd k (nI w), va_up pc k (nI (Nn pc k + 1)), va_up W (40 * k + Nn pc k) (nI (w - 1)), va_up Ln (40 * k + Nn pc k) (nI 1), va_up Lt (12 * (40 * k + Nn pc k)) (nI (c - 97))) := by rw [hw]; rfl
  rw [es]
  obtain ⟨p, hp⟩ : ∃ p, p = Nn pc k := ⟨_, rfl⟩
  rw [← hp] at a4 a6 h2 ⊢
  have k40 : ∀ j, j < k → Nn pc j ≤ 40 := fun j hj => ((a3 j (by omega)).2.eq (by omega)).2
  refine ⟨a1, by show 1 ≤ 12; omega, fun j hj => ⟨onU (fun _ => by omega) (fun _ => (a3 j hj).1), onU (fun _ => by omega) (fun _ => (a3 j hj).2)⟩, ?_, fun _ => ⟨rfl, ?_⟩, fun _ => ?_, fun j hj => ?_, fun j hj => ?_⟩
  · show Nn (va_up pc k (nI (p + 1))) k + ba ≤ 40
    rw [nnU (by omega), if_pos rfl]
    exact h2
  · show va_up Ln (40 * k + p) (nI 1) (40 * k + Nn (va_up pc k (nI (p + 1))) k - 1) = nI 1
    rw [nnU (by omega), if_pos rfl, show 40 * k + (p + 1) - 1 = 40 * k + p by omega, up_at, if_pos rfl]
  · show 1 ≤ Nn (va_up pc k (nI (p + 1))) k
    rw [nnU (by omega), if_pos rfl]
    omega
  · have hj : j < k := hj
    show 1 ≤ Nn (va_up wd k (nI w)) j
    rw [nnU (by omega), if_neg (by omega)]
    exact a7 j hj
  · have hj : j ≤ k := hj
    show (Nn (va_up pc k (nI (p + 1))) j = 0 ↔ Nn (va_up wd k (nI w)) j = 0) ∧ ∀ x, x < Nn (va_up pc k (nI (p + 1))) j → (oN (va_up W (40 * k + p) (nI (w - 1))) (40 * j + x) (mw - 1) ∧ (x = 0 → Nn (va_up W (40 * k + p) (nI (w - 1))) (40 * j + x) = 0) ∧ (x + 1 = Nn (va_up pc k (nI (p + 1))) j → Nn (va_up W (40 * k + p) (nI (w - 1))) (40 * j + x) + 1 = Nn (va_up wd k (nI w)) j) ∧ (x + 1 < Nn (va_up pc k (nI (p + 1))) j → Nn (va_up W (40 * k + p) (nI (w - 1))) (40 * j + (x + 1)) = Nn (va_up W (40 * k + p) (nI (w - 1))) (40 * j + x) ∨ Nn (va_up W (40 * k + p) (nI (w - 1))) (40 * j + (x + 1)) = Nn (va_up W (40 * k + p) (nI (w - 1))) (40 * j + x) + 1)) ∧ (oN (va_up Ln (40 * k + p) (nI 1)) (40 * j + x) 12 ∧ 1 ≤ Nn (va_up Ln (40 * k + p) (nI 1)) (40 * j + x)) ∧ ∀ l, l < Nn (va_up Ln (40 * k + p) (nI 1)) (40 * j + x) → oN (va_up Lt (12 * (40 * k + p)) (nI (c - 97))) (12 * (40 * j + x) + l) 25
    simp only [nnU (show p + 1 < 2147483648 by omega), nnU (show w < 2147483648 by omega), nnU (show w - 1 < 2147483648 by omega), nnU (show 1 < 2147483648 by omega)]
    by_cases z : j = k
    · subst z
      obtain ⟨f1, f2⟩ := a8 j (Nat.le_refl _)
      have f1 : Nn pc j = 0 ↔ Nn wd j = 0 := f1
      rw [← hp] at f1
      rw [if_pos rfl, if_pos rfl]
      refine ⟨by omega, fun x hx => ?_⟩
      by_cases y : x = p
      · subst y
        rw [if_pos rfl, if_pos rfl]
        refine ⟨⟨onU (fun _ => by omega) (fun n => absurd rfl n), fun x0 => ?_, fun _ => by omega, fun e => by omega⟩, ⟨onU (fun _ => by omega) (fun n => absurd rfl n), by omega⟩, fun l hl => onU (fun _ => by omega) (fun n => by omega)⟩
        have wz : Nn wd j = 0 := f1.mp x0
        cases bh with
        | false => rw [if_neg (by decide)] at hw; omega
        | true => have := a6 (Or.inr rfl); omega
      · obtain ⟨⟨g1, g2, g3, g4⟩, ⟨g5, g6⟩, g7⟩ := f2 x (show x < Nn pc j by omega)
        have g3 : x + 1 = Nn pc j → Nn W (40 * j + x) + 1 = Nn wd j := g3
        have g4 : x + 1 < Nn pc j → Nn W (40 * j + (x + 1)) = Nn W (40 * j + x) ∨ Nn W (40 * j + (x + 1)) = Nn W (40 * j + x) + 1 := g4
        rw [← hp] at g3 g4
        rw [if_neg (show ¬ 40 * j + x = 40 * j + p by omega), if_neg (show ¬ 40 * j + x = 40 * j + p by omega)]
        refine ⟨⟨onU (fun e => by omega) (fun _ => g1), g2, fun e => by omega, fun e => ?_⟩, ⟨onU (fun e => by omega) (fun _ => g5), g6⟩, fun l hl => onU (fun e => by have := (g5.eq (by omega)).2; omega) (fun _ => g7 l hl)⟩
        by_cases u : x + 1 = p
        · rw [if_pos (by omega)]
          have := g3 u
          cases bh with
          | false => rw [if_neg (by decide)] at hw; exact Or.inr (by omega)
          | true => rw [if_pos rfl] at hw; exact Or.inl (by omega)
        · rw [if_neg (by omega)]
          exact g4 (by omega)
    · have hj' : j < k := by omega
      obtain ⟨f1, f2⟩ := a8 j hj
      have q40 := k40 j hj'
      rw [if_neg z, if_neg z]
      refine ⟨f1, fun x hx => ?_⟩
      obtain ⟨⟨g1, g2, g3, g4⟩, ⟨g5, g6⟩, g7⟩ := f2 x hx
      rw [if_neg (show ¬ 40 * j + x = 40 * k + p by omega), if_neg (show ¬ 40 * j + x = 40 * k + p by omega)]
      refine ⟨⟨onU (fun e => by omega) (fun _ => g1), g2, g3, fun e => ?_⟩, ⟨onU (fun e => by omega) (fun _ => g5), g6⟩, fun l hl => onU (fun e => by have := (g5.eq (by omega)).2; omega) (fun _ => g7 l hl)⟩
      rw [if_neg (by omega)]
      exact g4 e
theorem ti_on {c : Nat} (T : TI mp mw ba s) (r0 : s.2.1 ≠ 0) (h1 : s.2.1 + 1 ≤ 12) (hc : lB c = true) : TI mp mw ba (tOn s c) := by
  obtain ⟨k, run, bh, wd, pc, W, Ln, Lt⟩ := s
  obtain ⟨a1, a2, a3, a4, a5, a6, a7, a8⟩ := T
  obtain ⟨c1, c2⟩ := lB_t.mp hc
  have r0 : run ≠ 0 := r0
  have h1 : run + 1 ≤ 12 := h1
  obtain ⟨b1, b2⟩ := a5 (show 0 < run by omega)
  have b2 : Ln (40 * k + Nn pc k - 1) = nI run := b2
  have a6' : 1 ≤ Nn pc k := a6 (Or.inl (show 0 < run by omega))
  have a3 : ∀ j, j ≤ k → oN wd j mw ∧ oN pc j 40 := a3
  obtain ⟨p, hp⟩ : ∃ p, p = Nn pc k := ⟨_, rfl⟩
  have es : tOn (k, run, bh, wd, pc, W, Ln, Lt) c = (k, run + 1, false, wd, pc, W, va_up Ln (40 * k + p - 1) (nI (run + 1)), va_up Lt (12 * (40 * k + p - 1) + run) (nI (c - 97))) := by rw [hp]; rfl
  rw [es]
  rw [← hp] at b2 a6'
  refine ⟨a1, h1, a3, a4, fun _ => ⟨rfl, ?_⟩, fun _ => by show 1 ≤ Nn pc k; omega, a7, fun j hj => ?_⟩
  · show va_up Ln (40 * k + p - 1) (nI (run + 1)) (40 * k + Nn pc k - 1) = nI (run + 1)
    rw [← hp, up_at, if_pos rfl]
  · have hj : j ≤ k := hj
    obtain ⟨f1, f2⟩ := a8 j hj
    refine ⟨f1, fun x hx => ?_⟩
    have hx : x < Nn pc j := hx
    obtain ⟨g1, ⟨g5, g6⟩, g7⟩ := f2 x hx
    have p40 := ((a3 j hj).2.eq (by omega)).2
    refine ⟨g1, ?_, ?_⟩
    · show oN (va_up Ln (40 * k + p - 1) (nI (run + 1))) (40 * j + x) 12 ∧ 1 ≤ Nn (va_up Ln (40 * k + p - 1) (nI (run + 1))) (40 * j + x)
      refine ⟨onU (fun _ => by omega) (fun _ => g5), ?_⟩
      rw [nnU (by omega)]
      by_cases z : 40 * j + x = 40 * k + p - 1
      · rw [if_pos z]; omega
      · rw [if_neg z]; exact g6
    · intro l hl
      have hl : l < Nn (va_up Ln (40 * k + p - 1) (nI (run + 1))) (40 * j + x) := hl
      show oN (va_up Lt (12 * (40 * k + p - 1) + run) (nI (c - 97))) (12 * (40 * j + x) + l) 25
      rw [nnU (by omega)] at hl
      refine onU (fun _ => by omega) (fun ne => ?_)
      by_cases z : 40 * j + x = 40 * k + p - 1
      · rw [if_pos z] at hl
        refine g7 l ?_
        show l < Nn Ln (40 * j + x)
        have : Nn Ln (40 * j + x) = run := by unfold Nn; rw [z, b2, nCl (by omega)]
        omega
      · rw [if_neg z] at hl
        exact g7 l hl
theorem ti_b {x : Bool} (T : TI mp mw ba s) (h : x = true → 1 ≤ tp s) : TI mp mw ba (s.1, 0, x, s.2.2.2.1, s.2.2.2.2.1, s.2.2.2.2.2.1, s.2.2.2.2.2.2.1, s.2.2.2.2.2.2.2) := by
  obtain ⟨a1, a2, a3, a4, a5, a6, a7, a8⟩ := T
  exact ⟨a1, Nat.zero_le _, a3, a4, fun e => absurd e (Nat.lt_irrefl 0), fun e => e.elim (fun e => absurd e (Nat.lt_irrefl 0)) h, a7, a8⟩
theorem ti_pt (T : TI mp mw ba s) (hk : s.1 + 1 < mp) (hw : 0 < tw s) (hb : ba ≤ 40) : TI mp mw ba (tPt s) := by
  obtain ⟨k, run, bh, wd, pc, W, Ln, Lt⟩ := s
  obtain ⟨a1, a2, a3, a4, a5, a6, a7, a8⟩ := T
  have a3 : ∀ j, j ≤ k → oN wd j mw ∧ oN pc j 40 := a3
  have a7 : ∀ j, j < k → 1 ≤ Nn wd j := a7
  have hw : 0 < Nn wd k := hw
  refine ⟨hk, Nat.zero_le _, fun j hj => ⟨onU (fun _ => Nat.zero_le _) (fun ne => (a3 j (by have hj : j ≤ k + 1 := hj; have ne : j ≠ k + 1 := ne; omega)).1), onU (fun _ => Nat.zero_le _) (fun ne => (a3 j (by have hj : j ≤ k + 1 := hj; have ne : j ≠ k + 1 := ne; omega)).2)⟩, ?_, fun e => absurd e (Nat.lt_irrefl 0), fun e => e.elim (fun e => absurd e (Nat.lt_irrefl 0)) (fun e => Bool.noConfusion (show false = true from e)), fun j hj => ?_, fun j hj => ?_⟩
  · show Nn (va_up pc (k + 1) (nI 0)) (k + 1) + ba ≤ 40
    rw [nnU (by omega), if_pos rfl]
    omega
  · have hj : j < k + 1 := hj
    show 1 ≤ Nn (va_up wd (k + 1) (nI 0)) j
    rw [nnU (by omega), if_neg (by omega)]
    by_cases z : j = k
    · rw [z]; omega
    · exact a7 j (by omega)
  · have hj : j ≤ k + 1 := hj
    show (Nn (va_up pc (k + 1) (nI 0)) j = 0 ↔ Nn (va_up wd (k + 1) (nI 0)) j = 0) ∧ ∀ x, x < Nn (va_up pc (k + 1) (nI 0)) j → (oN W (40 * j + x) (mw - 1) ∧ (x = 0 → Nn W (40 * j + x) = 0) ∧ (x + 1 = Nn (va_up pc (k + 1) (nI 0)) j → Nn W (40 * j + x) + 1 = Nn (va_up wd (k + 1) (nI 0)) j) ∧ (x + 1 < Nn (va_up pc (k + 1) (nI 0)) j → Nn W (40 * j + (x + 1)) = Nn W (40 * j + x) ∨ Nn W (40 * j + (x + 1)) = Nn W (40 * j + x) + 1)) ∧ (oN Ln (40 * j + x) 12 ∧ 1 ≤ Nn Ln (40 * j + x)) ∧ ∀ l, l < Nn Ln (40 * j + x) → oN Lt (12 * (40 * j + x) + l) 25
    simp only [nnU (show 0 < 2147483648 by omega)]
    by_cases z : j = k + 1
    · rw [if_pos z, if_pos z]
      exact ⟨Iff.rfl, fun x hx => absurd hx (Nat.not_lt_zero x)⟩
    · rw [if_neg z, if_neg z]
      exact a8 j (by omega)
/-- one byte keeps it -/
theorem ti_st {s' : TX} {c : Nat} (T : TI mp mw ba s) (hm : mw ≤ 40) (hb : ba ≤ 40) (h : stT mp mw ba s c n = .inr s') : TI mp mw ba s' := by
  unfold stT at h
  cases lc : lB c with
  | true =>
    rw [lc, if_pos rfl] at h
    by_cases r0 : s.2.1 = 0
    · rw [if_pos r0] at h
      by_cases z : mw < tw1 s ∨ 40 < tp s + 1 + ba
      · rw [if_pos z] at h; cases h
      · rw [if_neg z] at h
        cases h
        exact ti_new T hm r0 (by omega) (by omega) lc
    · rw [if_neg r0] at h
      by_cases z : 12 < s.2.1 + 1
      · rw [if_pos z] at h; cases h
      · rw [if_neg z] at h
        cases h
        exact ti_on T r0 (by omega) lc
  | false =>
    rw [lc, if_neg (by decide)] at h
    by_cases b1 : s.2.2.1 = true
    · rw [if_pos b1] at h; cases h
    · rw [if_neg b1] at h
      by_cases z1 : c = 45 ∧ 0 < s.2.1
      · rw [if_pos z1] at h
        cases h
        exact ti_b T (fun _ => T.2.2.2.2.2.1 (Or.inl z1.2))
      · rw [if_neg z1] at h
        by_cases z2 : c = 47 ∧ 0 < tw s ∧ s.1 + 1 < mp
        · rw [if_pos z2] at h
          cases h
          exact ti_pt T z2.2.2 z2.2.1 hb
        · rw [if_neg z2] at h
          by_cases z3 : c = 32
          · rw [if_pos z3] at h
            cases h
            exact ti_b T (fun e => Bool.noConfusion e)
          · rw [if_neg z3] at h; cases h
theorem ti_ru (T : TI mp mw ba s0) (hm : mw ≤ 40) (hb : ba ≤ 40) : ∀ n s, ruT mp mw ba b s0 n = .inr s → TI mp mw ba s
  | 0, s, h => by cases h; exact T
  | n + 1, s, h => by
    cases e : ruT mp mw ba b s0 n with
    | inl p =>
      have : ruT mp mw ba b s0 (n + 1) = .inl p := ruT_e e 1
      rw [this] at h
      cases h
    | inr s1 =>
      rw [ruT_s e] at h
      exact ti_st (ti_ru T hm hb n s1 e) hm hb h
end
/-- where the reading begins -/
def tB0 (wd pc W Ln Lt : Nat → Int32) : TX := (0, 0, false, va_up wd 0 (nI 0), va_up pc 0 (nI 0), W, Ln, Lt)
theorem ti_0 {mp mw ba : Nat} {wd pc W Ln Lt : Nat → Int32} (hp : 0 < mp) (hb : ba ≤ 40) : TI mp mw ba (tB0 wd pc W Ln Lt) := by
  refine ⟨hp, Nat.zero_le _, fun j hj => ?_, ?_, fun e => absurd e (Nat.lt_irrefl 0), fun e => e.elim (fun e => absurd e (Nat.lt_irrefl 0)) (fun e => Bool.noConfusion (show false = true from e)), fun j hj => absurd hj (Nat.not_lt_zero j), fun j hj => ?_⟩
  · have hj : j ≤ 0 := hj
    exact ⟨onU (fun _ => Nat.zero_le _) (fun ne => by omega), onU (fun _ => Nat.zero_le _) (fun ne => by omega)⟩
  · show Nn (va_up pc 0 (nI 0)) 0 + ba ≤ 40
    rw [nnU (by omega), if_pos rfl]
    omega
  · have hj : j ≤ 0 := hj
    have j0 : j = 0 := by omega
    subst j0
    show (Nn (va_up pc 0 (nI 0)) 0 = 0 ↔ Nn (va_up wd 0 (nI 0)) 0 = 0) ∧ ∀ x, x < Nn (va_up pc 0 (nI 0)) 0 → _
    rw [nnU (by omega), nnU (by omega), if_pos rfl, if_pos rfl]
    exact ⟨Iff.rfl, fun x hx => absurd hx (Nat.not_lt_zero x)⟩
