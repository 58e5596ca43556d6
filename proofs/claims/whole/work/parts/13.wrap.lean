theorem blt_ok {a b : Nat} (h : a.blt b = true) : a < b := Nat.le_of_ble_eq_true h
/-! PROGRAMS AS FUNCTIONS: the words in which the printed functions are written, and the rules in the form in which their proofs use them -/
def lt {α β : Type} (v : α) (f : α → β) : β := f v
theorem lt_el {α β : Type} {v : α} {f : α → Option β} {r : β} (H : lt v f = some r) : ∃ x, v = x ∧ f x = some r := ⟨v, rfl, H⟩
theorem gd0 {c : Prop} [Decidable c] {β : Type} {A : Option β} {r : β} (H : (if c then A else none) = some r) : c ∧ A = some r := by
  by_cases q : c
  · rw [if_pos q] at H; exact ⟨q, H⟩
  · rw [if_neg q] at H; cases H
theorem gdn0 {c : Prop} [Decidable c] {β : Type} {A : Option β} {r : β} (H : (if c then none else A) = some r) : ¬ c ∧ A = some r := by
  by_cases q : c
  · rw [if_pos q] at H; cases H
  · rw [if_neg q] at H; exact ⟨q, H⟩
theorem br1 {c : Prop} [Decidable c] {β : Type} {A B : Option β} {r : β} (q : c) (H : (if c then A else B) = some r) : A = some r := by rwa [if_pos q] at H
theorem br0 {c : Prop} [Decidable c] {β : Type} {A B : Option β} {r : β} (q : ¬ c) (H : (if c then A else B) = some r) : B = some r := by rwa [if_neg q] at H
theorem bd {α β : Type} {x : Option α} {f : α → Option β} {r : β} (H : x.bind f = some r) : ∃ v, x = some v ∧ f v = some r := by
  cases x with
  | none => cases H
  | some v => exact ⟨v, rfl, H⟩
def b2 {α β γ : Type} (x : Option (α × β)) (f : α → β → Option γ) : Option γ := match x with
  | some q => f q.1 q.2
  | none => none
theorem b2_el {α β γ : Type} {x : Option (α × β)} {f : α → β → Option γ} {r : γ} (H : b2 x f = some r) : ∃ v w, x = some (v, w) ∧ f v w = some r := by
  cases x with
  | none => cases H
  | some v => exact ⟨v.1, v.2, rfl, H⟩
theorem b2_some {α β γ : Type} (v : α) (w : β) (f : α → β → Option γ) : b2 (some (v, w)) f = f v w := rfl
def bT {α β : Type} (x : Option ((α ⊕ Nat) × Hp)) (f : α → Hp → Option ((β ⊕ Nat) × Hp)) : Option ((β ⊕ Nat) × Hp) := match x with
  | some (.inl v, h) => f v h
  | some (.inr k, h) => some (.inr k, h)
  | none => none
theorem bT_el {α β : Type} {x : Option ((α ⊕ Nat) × Hp)} {f : α → Hp → Option ((β ⊕ Nat) × Hp)} {r : (β ⊕ Nat) × Hp} (H : bT x f = some r) : (∃ v w, x = some (.inl v, w) ∧ f v w = some r) ∨ ∃ k w, x = some (.inr k, w) ∧ r = (.inr k, w) := by
  cases x with
  | none => cases H
  | some v =>
    obtain ⟨v, w⟩ := v
    cases v with
    | inl v => exact Or.inl ⟨v, w, rfl, H⟩
    | inr k => cases H; exact Or.inr ⟨k, w, rfl, rfl⟩
def gg {β : Type} (c : Prop) [Decidable c] (A : Option β) : Option β := if c then A else none
def gn {β : Type} (c : Prop) [Decidable c] (A : Option β) : Option β := if c then none else A
theorem gg_t {β : Type} {c : Prop} [Decidable c] {A : Option β} (h : c) : gg c A = A := by unfold gg; rw [if_pos h]
theorem gn_f {β : Type} {c : Prop} [Decidable c] {A : Option β} (h : ¬ c) : gn c A = A := by unfold gn; rw [if_neg h]
def up1 {σ ρ : Type} (x : Option ρ) : Option (σ ⊕ ρ) := match x with
  | some y => some (.inr y)
  | none => none
theorem up1_el {σ ρ : Type} {x : Option ρ} {y : σ ⊕ ρ} (H : up1 x = some y) : ∃ z, x = some z ∧ y = .inr z := by
  cases x with
  | none => cases H
  | some v => cases H; exact ⟨v, rfl, rfl⟩
def itN {σ ρ : Type} (f : σ → Option (σ ⊕ ρ)) : Nat → σ → Option ρ
  | 0, _ => none
  | n + 1, s => match f s with
    | none => none
    | some (.inl s') => itN f n s'
    | some (.inr r) => some r
noncomputable def it {σ ρ : Type} (f : σ → Option (σ ⊕ ρ)) (s : σ) : Option ρ := @dite _ (∃ n r, itN f n s = some r) (Classical.propDecidable _) (fun h => itN f (Classical.choose h) s) (fun _ => none)
theorem itN_mono {σ ρ : Type} {f : σ → Option (σ ⊕ ρ)} : ∀ (n k : Nat) (s : σ) (r : ρ), itN f n s = some r → itN f (n + k) s = some r := by
  intro n
  induction n with
  | zero => intro k s r h; cases h
  | succ n ih =>
    intro k s r h
    rw [show n + 1 + k = (n + k) + 1 by omega]
    simp only [itN] at h ⊢
    cases hf : f s with
    | none => rw [hf] at h; cases h
    | some x =>
      rw [hf] at h
      cases x with
      | inl s' => exact ih k s' r h
      | inr y => exact h
theorem it_el {σ ρ : Type} {f : σ → Option (σ ⊕ ρ)} {s : σ} {r : ρ} (H : it f s = some r) : ∃ n, itN f n s = some r := by
  unfold it at H
  split at H
  · exact ⟨_, H⟩
  · cases H
theorem it_of {σ ρ : Type} {f : σ → Option (σ ⊕ ρ)} {s : σ} {r : ρ} {n : Nat} (H : itN f n s = some r) : it f s = some r := by
  have hx : ∃ n r, itN f n s = some r := ⟨n, r, H⟩
  have h2 : it f s = itN f (Classical.choose hx) s := by
    unfold it
    rw [dif_pos hx]
  obtain ⟨r2, hr2⟩ := Classical.choose_spec hx
  rw [h2, hr2]
  have e1 := itN_mono _ (Classical.choose hx) s r H
  have e2 := itN_mono _ n s r2 hr2
  rw [Nat.add_comm] at e2
  rw [e1] at e2
  exact e2.symm
theorem it_eq {σ ρ : Type} (f : σ → Option (σ ⊕ ρ)) (s : σ) : it f s = match f s with
    | none => none
    | some (.inl s') => it f s'
    | some (.inr r) => some r := by
  cases hf : f s with
  | none =>
    simp only
    cases hi : it f s with
    | none => rfl
    | some r =>
      obtain ⟨n, hn⟩ := it_el hi
      cases n with
      | zero => cases hn
      | succ n => simp only [itN, hf] at hn; cases hn
  | some x =>
    cases x with
    | inr r => exact it_of (n := 1) (by simp only [itN, hf])
    | inl s' =>
      simp only
      cases hi : it f s' with
      | some r =>
        obtain ⟨n, hn⟩ := it_el hi
        exact it_of (n := n + 1) (by simp only [itN, hf]; exact hn)
      | none =>
        cases hj : it f s with
        | none => rfl
        | some r =>
          obtain ⟨n, hn⟩ := it_el hj
          cases n with
          | zero => cases hn
          | succ n =>
            simp only [itN, hf] at hn
            rw [it_of hn] at hi
            cases hi
theorem it_next {σ ρ : Type} {f : σ → Option (σ ⊕ ρ)} {s s' : σ} (h : f s = some (.inl s')) : it f s = it f s' := by rw [it_eq, h]
theorem it_done {σ ρ : Type} {f : σ → Option (σ ⊕ ρ)} {s : σ} {r : ρ} (h : f s = some (.inr r)) : it f s = some r := by rw [it_eq, h]
theorem it_exit {σ ρ : Type} {f : σ → Option (σ ⊕ ρ)} {s : σ} {x : Option ρ} (h : f s = up1 x) : it f s = x := by
  rw [it_eq, h]
  cases x <;> rfl
theorem it_J {σ ρ : Type} {f : σ → Option (σ ⊕ ρ)} {G : σ → Prop} {Q : ρ → Prop} (hb : ∀ (s : σ) (x : σ ⊕ ρ), f s = some x → (match x with
    | .inl s' => G s'
    | .inr y => Q y) → G s) {s : σ} {y : ρ} (H : it f s = some y) (hq : Q y) : G s := by
  obtain ⟨n, hn⟩ := it_el H
  clear H
  revert s
  induction n with
  | zero => intro s hn; cases hn
  | succ n ih =>
    intro s hn
    simp only [itN] at hn
    cases hf : f s with
    | none => rw [hf] at hn; cases hn
    | some x =>
      rw [hf] at hn
      cases x with
      | inl s' => exact hb s _ hf (ih hn)
      | inr z => cases hn; exact hb s _ hf hq
theorem gd {c : Prop} [Decidable c] {β : Type} {A : Option β} {r : β} (H : gg c A = some r) : c ∧ A = some r := gd0 H
theorem gdn {c : Prop} [Decidable c] {β : Type} {A : Option β} {r : β} (H : gn c A = some r) : ¬ c ∧ A = some r := gdn0 H
def inB (i : Int32) (n : Nat) : Bool := decide (¬ i < 0) && decide (i.toNatClampNeg < n)
theorem inB_ok {i : Int32} {n : Nat} (h : inB i n = true) : vp_in i n := by
  simp only [inB, Bool.and_eq_true, decide_eq_true_eq] at h
  rintro (q | q)
  · exact h.1 q
  · omega
def zOk (v : Int32) : Bool := decide (v = 0) || decide (v = 1)
theorem zOk_ok {v : Int32} (h : zOk v = true) : narrow .boolean (.int v) = .int v ∧ fits .boolean (.int v) = true := by
  simp only [zOk, Bool.or_eq_true, decide_eq_true_eq] at h
  rcases h with rfl | rfl <;> decide
def nOk (n : Int32) : Bool := decide (¬ n < 0) && decide (n.toNatClampNeg ≤ 10000000)
theorem nOk_ok {n : Int32} (h : nOk n = true) : ¬ n < 0 ∧ n.toNatClampNeg ≤ 10000000 := by simpa [nOk] using h
def cpB (sp dp n : Int32) (l1 l2 : Nat) : Bool := decide (¬ sp < 0) && decide (¬ dp < 0) && decide (¬ n < 0) && decide (sp.toNatClampNeg + n.toNatClampNeg ≤ l1) && decide (dp.toNatClampNeg + n.toNatClampNeg ≤ l2)
theorem cpB_ok {sp dp n : Int32} {l1 l2 : Nat} (h : cpB sp dp n l1 l2 = true) : (¬ sp < 0 ∧ ¬ dp < 0 ∧ ¬ n < 0) ∧ sp.toNatClampNeg + n.toNatClampNeg ≤ l1 ∧ dp.toNatClampNeg + n.toNatClampNeg ≤ l2 := by
  simp only [cpB, Bool.and_eq_true, decide_eq_true_eq] at h
  exact ⟨⟨h.1.1.1.1, h.1.1.1.2, h.1.1.2⟩, h.1.2, h.2⟩
abbrev oI (v : Int32) : Oc := .inl (some (.int v))
abbrev oA (r : Nat) : Oc := .inl (some (.ref r))
abbrev oV : Oc := .inl none
def oT (x : Int32 ⊕ Nat) : Oc := match x with
  | .inl v => oI v
  | .inr k => .inr k
def oU (x : Unit ⊕ Nat) : Oc := match x with
  | .inl _ => oV
  | .inr k => .inr k
def catOk (l : List Value) : Bool := l.all (fun v => v.category == 1)
theorem catOk_ok {l : List Value} (h : catOk l = true) : ∀ v ∈ l, v.category = 1 := fun v hv => by
  have := List.all_eq_true.mp h v hv
  simpa using this
theorem kq {h h1 : Hp} {r c : Nat} (e : kd h1 = kd h) (g : kd h r = c) : kd h1 r = c := by rw [e]; exact g
theorem lq {h h1 : Hp} {r : Nat} {i : Int32} (e : ln h1 = ln h) (g : inB i (ln h r) = true) : vp_in i (ln h1 r) := by rw [e]; exact inB_ok g
theorem ekI {h h1 : Hp} {r k : Nat} {v : Int32} (e : sI h r k v = h1) : kd h1 = kd h := by rw [← e]; rfl
theorem elI {h h1 : Hp} {r k : Nat} {v : Int32} (e : sI h r k v = h1) : ln h1 = ln h := by rw [← e]; rfl
theorem ekP {h h1 : Hp} {r k v : Nat} (e : sP h r k v = h1) : kd h1 = kd h := by rw [← e]; rfl
theorem elP {h h1 : Hp} {r k v : Nat} (e : sP h r k v = h1) : ln h1 = ln h := by rw [← e]; rfl
theorem ekR {h h1 : Hp} {r : Nat} {f : Nat → Int32} (e : rI h r f = h1) : kd h1 = kd h := by rw [← e]; rfl
theorem elR {h h1 : Hp} {r : Nat} {f : Nat → Int32} (e : rI h r f = h1) : ln h1 = ln h := by rw [← e]; rfl
theorem ekN {h h1 : Hp} {k n : Nat} (e : alc h k n = h1) : kd h1 (sz h + 1) = k := by rw [← e, kd_alc, if_pos rfl]
theorem elN {h h1 : Hp} {k n : Nat} (e : alc h k n = h1) : ln h1 (sz h + 1) = n := by rw [← e, ln_alc, if_pos rfl]
theorem epI {h h1 : Hp} {r k : Nat} {v : Int32} (e : sI h r k v = h1) : gP h1 = gP h := by rw [← e]; rfl
theorem epR {h h1 : Hp} {r : Nat} {f : Nat → Int32} (e : rI h r f = h1) : gP h1 = gP h := by rw [← e]; rfl
theorem kn99 {h : Hp} {r c : Nat} (g : kd h r = c) (hc : c.blt 99 = true) : kd h r ≠ 99 := by
  have := blt_ok hc
  omega
def jmax (x y : Int32) : Int32 := if x < y then y else x
def jmin (x y : Int32) : Int32 := if y < x then y else x
def sN (k : Nat) : Nat := (sTx.getD k []).length
def sLen (k : Nat) : Int32 := nI (sN k)
def sAt (k : Nat) (i : Int32) : Int32 := (sTx.getD k []).getD i.toNatClampNeg 0
/-- locals that are dead may be forgotten -/
def dropOk : List Value → List Value → Prop
  | [], _ => True
  | Value.null :: r, _ :: r2 => dropOk r r2
  | v :: r, w :: r2 => v = w ∧ dropOk r r2
  | _ :: _, [] => False
theorem dropOk_ok : ∀ {l l2 : List Value}, dropOk l l2 → ∀ (i : Nat) (v : Value), l[i]? = some v → v ≠ Value.null → l2[i]? = some v := by
  intro l
  induction l with
  | nil => intro l2 _ i v h _; simp at h
  | cons a r ih =>
    intro l2 hd i v h hn
    cases l2 with
    | nil => cases a <;> cases hd
    | cons b r2 =>
      cases i with
      | zero =>
        simp at h
        subst h
        cases a <;> first | exact absurd rfl hn | (simp only [dropOk] at hd; simp [hd.1])
      | succ i =>
        simp only [List.getElem?_cons_succ] at h ⊢
        refine ih ?_ i v h hn
        cases a <;> simp only [dropOk] at hd <;> first | exact hd | exact hd.2
section
variable {Φ : Kc → State → Code → Prop} {d pc : Nat} {Y : Mt} {ls st : List Value} {h h' : Hp} {o : Oc}
theorem J_drop {ls' : List Value} (hd : dropOk ls' ls) (k : JP Φ d Y pc ls' st h o h') : JP Φ d Y pc ls st h o h' := by
  refine ⟨k.1, k.2.1, fun K g0 h0 p l e R s m args below meth c G r1 r2 g H locs LS a1 a2 a3 a4 a5 a6 => ?_⟩
  refine k.2.2 K g0 h0 p l e R s m args below meth c G r1 r2 g H locs LS a1 a2 a3 (kn_sub a4 (dropOk_ok hd)) (fun v hv => ?_) a6
  by_cases q : v = Value.null
  · rw [q]; exact ⟨trivial, rfl⟩
  · obtain ⟨i, hi⟩ := List.getElem?_of_mem hv
    exact a5 v (List.mem_of_getElem? (dropOk_ok hd i v hi q))
theorem J_dr {ls' : List Value} (k : JP Φ d Y pc ls' st h o h') (hd : dropOk ls' ls) : JP Φ d Y pc ls st h o h' := J_drop hd k
theorem J_cS {st0 st2 : List Value} {idx : Nat} {as : List Value} {v : Option Value} {h1 : Hp} (Y1 : Mt) (n : Nat) (hd : decode Y.2.1 pc = .ok (.invokestatic idx, 3)) (hm : MO Y1 n) (hs : Cond.static Y1.1 ∈ lw_tbl) (hl : Cond.methodLink Y.1.cls idx Y1.1 ∈ lw_tbl) (hc : CT d Y1 as h (.inl v) h1) (hn : as.length = n) (hcat : catOk as = true) (st : List Value) (he : as.reverse ++ st = st0) (hw : ((st.map Value.category).sum).ble 8 = true) (h2 : v.toList ++ st = st2) (k : JP Φ (d + 1) Y (pc + 3) ls st2 h1 o h') : JP Φ (d + 1) Y pc ls st0 h o h' :=
  J_callS (as := as) (st := st) Y1 n hd hm hs hl hn (catOk_ok hcat) he (Nat.le_of_ble_eq_true hw) hc (fun w hw => by cases hw; rw [h2]; exact k) (fun E hE => by cases hE)
theorem J_cSN {st0 st2 : List Value} {idx : Nat} {as : List Value} {v : Option Value} {h1 : Hp} (Y1 : Mt) (host : String) (n : Nat) (hd : decode Y.2.1 pc = .ok (.invokestatic idx, 3)) (hm : MO Y1 n) (hs : Cond.static Y1.1 ∈ lw_tbl) (hl : Cond.methodLinkNest Y.1.cls idx Y1.1 host ∈ lw_tbl) (hc : CT d Y1 as h (.inl v) h1) (hn : as.length = n) (hcat : catOk as = true) (st : List Value) (he : as.reverse ++ st = st0) (hw : ((st.map Value.category).sum).ble 8 = true) (h2 : v.toList ++ st = st2) (k : JP Φ (d + 1) Y (pc + 3) ls st2 h1 o h') : JP Φ (d + 1) Y pc ls st0 h o h' :=
  J_callSN (as := as) (st := st) Y1 host n hd hm hs hl hn (catOk_ok hcat) he (Nat.le_of_ble_eq_true hw) hc (fun w hw => by cases hw; rw [h2]; exact k) (fun E hE => by cases hE)
theorem J_cV {st0 st2 : List Value} {idx r : Nat} {as : List Value} {v : Option Value} {h1 : Hp} (c1 : Nat) (Y1 : Mt) (n : Nat) (hd : decode Y.2.1 pc = .ok (.invokevirtual idx, 3)) (hm : MO Y1 n) (hs : MV Y1) (hl : Cond.methodLink Y.1.cls idx Y1.1 ∈ lw_tbl) (hk : kd h r = c1) (hcl : FC c1 = Y1.1.cls) (h12 : c1.blt 12 = true) (hc : CT d Y1 (.ref r :: as) h (.inl v) h1) (hn : as.length = n) (hcat : catOk as = true) (st : List Value) (he : as.reverse ++ .ref r :: st = st0) (hw : ((st.map Value.category).sum).ble 8 = true) (h2 : v.toList ++ st = st2) (k : JP Φ (d + 1) Y (pc + 3) ls st2 h1 o h') : JP Φ (d + 1) Y pc ls st0 h o h' :=
  J_callV (as := as) (st := st) Y1 n hd hm hs hl hk (blt_ok h12) hcl hn (catOk_ok hcat) he (Nat.le_of_ble_eq_true hw) hc (fun w hw => by cases hw; rw [h2]; exact k) (fun E hE => by cases hE)
theorem J_cI {st0 : List Value} {idx r : Nat} {as : List Value} {h1 : Hp} (Y1 : Mt) (n : Nat) (hd : decode Y.2.1 pc = .ok (.invokespecial idx, 3)) (hm : MO Y1 n) (hs : Cond.instanceMethod Y1.1 ∈ lw_tbl) (hl : Cond.methodLink Y.1.cls idx Y1.1 ∈ lw_tbl) (hi : Y1.1.name = "<init>") (hr : Y1.2.2.2 = none) (hk : kd h r ≠ 99) (hc : CT d Y1 (.ref r :: as) h oV h1) (hn : as.length = n) (hcat : catOk as = true) (st : List Value) (he : as.reverse ++ .ref r :: st = st0) (hw : ((st.map Value.category).sum).ble 8 = true) (k : JP Φ (d + 1) Y (pc + 3) ls st h1 o h') : JP Φ (d + 1) Y pc ls st0 h o h' :=
  J_callI (as := as) (st := st) Y1 n hd hm hs hl hi hr hk hn (catOk_ok hcat) he (Nat.le_of_ble_eq_true hw) hc k
theorem J_cIN {st0 : List Value} {idx r : Nat} {as : List Value} {h1 : Hp} (Y1 : Mt) (host : String) (n : Nat) (hd : decode Y.2.1 pc = .ok (.invokespecial idx, 3)) (hm : MO Y1 n) (hs : Cond.instanceMethod Y1.1 ∈ lw_tbl) (hl : Cond.methodLinkNest Y.1.cls idx Y1.1 host ∈ lw_tbl) (hi : Y1.1.name = "<init>") (hr : Y1.2.2.2 = none) (hk : kd h r ≠ 99) (hc : CT d Y1 (.ref r :: as) h oV h1) (hn : as.length = n) (hcat : catOk as = true) (st : List Value) (he : as.reverse ++ .ref r :: st = st0) (hw : ((st.map Value.category).sum).ble 8 = true) (k : JP Φ (d + 1) Y (pc + 3) ls st h1 o h') : JP Φ (d + 1) Y pc ls st0 h o h' :=
  J_callIN (as := as) (st := st) Y1 host n hd hm hs hl hi hr hk hn (catOk_ok hcat) he (Nat.le_of_ble_eq_true hw) hc k
/-- a call that throws on -/
theorem J_cVX {st0 : List Value} {idx r : Nat} {as : List Value} {E : Nat} {h1 : Hp} (c1 : Nat) (Y1 : Mt) (n : Nat) (hd : decode Y.2.1 pc = .ok (.invokevirtual idx, 3)) (hm : MO Y1 n) (hs : MV Y1) (hl : Cond.methodLink Y.1.cls idx Y1.1 ∈ lw_tbl) (hk : kd h r = c1) (hcl : FC c1 = Y1.1.cls) (h12 : c1.blt 12 = true) (hc : CT d Y1 (.ref r :: as) h (.inr E) h1) (hn : as.length = n) (hcat : catOk as = true) (st : List Value) (he : as.reverse ++ .ref r :: st = st0) (hw : ((st.map Value.category).sum).ble 8 = true) : JP PN (d + 1) Y pc ls st0 h (.inr E) h1 :=
  J_callV (as := as) (st := st) Y1 n hd hm hs hl hk (blt_ok h12) hcl hn (catOk_ok hcat) he (Nat.le_of_ble_eq_true hw) hc (fun w hw => by cases hw) (fun E hE => by cases hE; exact JX_out)
theorem J_pI {idx r : Nat} {v : Int32} {hh : Hp} (c k : Nat) (hd : decode Y.2.1 pc = .ok (.putfield idx, 3)) (hk : kd h r = c) (hf : FLs Y.1.cls c k idx) (hr : tyF c k = .int) (hn : (FT c k).2.2.2 = false) (he : sI h r k v = hh) (kk : JP Φ d Y (pc + 3) ls st hh o h') : JP Φ d Y pc ls (.int v :: .ref r :: st) h o h' := by
  subst he
  exact J_putI c k hd hk hf (by simp only [refF, hr]; rfl) hn (by rw [hr]; exact ⟨rfl, rfl⟩) kk
theorem J_pZ {idx r : Nat} {v : Int32} {hh : Hp} (c k : Nat) (hd : decode Y.2.1 pc = .ok (.putfield idx, 3)) (hk : kd h r = c) (hf : FLs Y.1.cls c k idx) (hr : tyF c k = .boolean) (hn : (FT c k).2.2.2 = false) (hz : zOk v = true) (he : sI h r k v = hh) (kk : JP Φ d Y (pc + 3) ls st hh o h') : JP Φ d Y pc ls (.int v :: .ref r :: st) h o h' := by
  subst he
  exact J_putI c k hd hk hf (by simp only [refF, hr]; rfl) hn (by rw [hr]; exact zOk_ok hz) kk
theorem J_pP {idx r v : Nat} {hh : Hp} (c k : Nat) (hd : decode Y.2.1 pc = .ok (.putfield idx, 3)) (hk : kd h r = c) (hf : FLs Y.1.cls c k idx) (hr : refF c k = true) (hn : (FT c k).2.2.2 = false) (he : sP h r k v = hh) (kk : JP Φ d Y (pc + 3) ls st hh o h') : JP Φ d Y pc ls (.ref v :: .ref r :: st) h o h' := by
  subst he
  exact J_putP c k hd hk hf hr hn kk
theorem J_pF {idx r v : Nat} {hh : Hp} (c k : Nat) (hd : decode Y.2.1 pc = .ok (.putfield idx, 3)) (hk : kd h r = c) (hf : FLs Y.1.cls c k idx) (hr : refF c k = true) (hn : (FT c k).2.2.2 = true) (hi : Y.1.name = "<init>") (ho : (FT c k).1 = Y.1.cls) (he : sP h r k v = hh) (kk : JP Φ d Y (pc + 3) ls st hh o h') : JP Φ d Y pc ls (.ref v :: .ref r :: st) h o h' := by
  subst he
  exact J_putPF c k hd hk hf hr hn hi ho kk
theorem J_sI {r : Nat} {i x : Int32} {hh : Hp} (hd : decode Y.2.1 pc = .ok (.iastore, 1)) (hk : kd h r = 20) (hi : vp_in i (ln h r)) (he : sI h r i.toNatClampNeg x = hh) (kk : JP Φ d Y (pc + 1) ls st hh o h') : JP Φ d Y pc ls (.int x :: .int i :: .ref r :: st) h o h' := by
  subst he
  exact J_iast hd hk hi kk
theorem J_sB {r : Nat} {i x : Int32} {hh : Hp} (hd : decode Y.2.1 pc = .ok (.bastore, 1)) (hk : kd h r = 21) (hi : vp_in i (ln h r)) (he : sI h r i.toNatClampNeg (vp_nar .byte x) = hh) (kk : JP Φ d Y (pc + 1) ls st hh o h') : JP Φ d Y pc ls (.int x :: .int i :: .ref r :: st) h o h' := by
  subst he
  exact J_bast hd hk hi kk
theorem J_sZ {r : Nat} {i x : Int32} {hh : Hp} (hd : decode Y.2.1 pc = .ok (.bastore, 1)) (hk : kd h r = 22) (hi : vp_in i (ln h r)) (he : sI h r i.toNatClampNeg (vp_nar .boolean x) = hh) (kk : JP Φ d Y (pc + 1) ls st hh o h') : JP Φ d Y pc ls (.int x :: .int i :: .ref r :: st) h o h' := by
  subst he
  exact J_zast hd hk hi kk
theorem J_sA {r v : Nat} {i : Int32} {hh : Hp} (k : Nat) (hd : decode Y.2.1 pc = .ok (.aastore, 1)) (hk : kd h r = k) (hk2 : (Nat.ble 25 k && Nat.ble k 28) = true) (hv : kd h v = elK k) (hi : vp_in i (ln h r)) (he : sP h r i.toNatClampNeg v = hh) (kk : JP Φ d Y (pc + 1) ls st hh o h') : JP Φ d Y pc ls (.ref v :: .int i :: .ref r :: st) h o h' := by
  subst he
  subst hk
  simp only [Bool.and_eq_true] at hk2
  exact J_aast hd (Nat.le_of_ble_eq_true hk2.1) (Nat.le_of_ble_eq_true hk2.2) hv hi kk
theorem J_sAA {r v : Nat} {i : Int32} {hh : Hp} (hd : decode Y.2.1 pc = .ok (.aastore, 1)) (hk : kd h r = 24) (hv : kd h v = 20) (hi : vp_in i (ln h r)) (he : sP h r i.toNatClampNeg v = hh) (kk : JP Φ d Y (pc + 1) ls st hh o h') : JP Φ d Y pc ls (.ref v :: .int i :: .ref r :: st) h o h' := by
  subst he
  exact J_aastA hd hk hv hi kk
theorem J_gP {idx r x : Nat} (c k : Nat) (hd : decode Y.2.1 pc = .ok (.getfield idx, 3)) (hk : kd h r = c) (hf : FLs Y.1.cls c k idx) (hr : refF c k = true) (he : gP h r k = x) (kk : JP Φ d Y (pc + 3) ls (.ref x :: st) h o h') : JP Φ d Y pc ls (.ref r :: st) h o h' := by
  subst he
  exact J_getP c k hd hk hf hr kk
theorem J_nmI {x w : Int32} (he : x = w) (k : JP Φ d Y pc ls (.int w :: st) h o h') : JP Φ d Y pc ls (.int x :: st) h o h' := by rw [he]; exact k
theorem J_nmA {x w : Nat} (he : x = w) (k : JP Φ d Y pc ls (.ref w :: st) h o h') : JP Φ d Y pc ls (.ref x :: st) h o h' := by rw [he]; exact k
theorem rp_inj {g : Gh} {A : Nat → Prop} (hD : va_D A (wsOf g h)) {x y : Nat} (hx : x ≤ sz h) (hy : y ≤ sz h) (he : rp g x = rp g y) : x = y := by
  simp only [rp] at he
  by_cases q1 : x = 0
  · by_cases q2 : y = 0
    · omega
    · rw [if_pos q1, if_neg q2] at he; cases he
  · by_cases q2 : y = 0
    · rw [if_neg q1, if_pos q2] at he; cases he
    · rw [if_neg q1, if_neg q2] at he
      have := hD.1 (x - 1) (y - 1) _ _ (wsOf_get (by omega) hx) (wsOf_get (by omega) hy) (Option.some.inj he)
      omega
theorem J_acmp_eq {x y : Nat} {off : Int} (tgt : Nat) (hd : decode Y.2.1 pc = .ok (.if_acmp .eq off, 3)) (ht : (pc : Int) + off = (tgt : Int)) (kt : x = y → JP Φ d Y tgt ls st h o h') (kf : ¬ x = y → JP Φ d Y (pc + 3) ls st h o h') : JP Φ d Y pc ls (.ref y :: .ref x :: st) h o h' := by
  refine ⟨(Classical.em (x = y)).elim (fun q => (kt q).1) (fun q => (kf q).1), (Classical.em (x = y)).elim (fun q => (kt q).2.1) (fun q => (kf q).2.1), fun K g0 h0 p l e R s m args below meth c G r1 r2 g H locs LS a1 a2 a3 a4 a5 a6 => ?_⟩
  exact lv_acmp_eq (rx := rp g x) (ry := rp g y) G.1 G.2.1 hd ht (fun q => (kt (rp_inj a2.2.1 a6.2.1 a6.1 q)).2.2 K g0 h0 p l e R s m args below meth c G r1 r2 g H locs LS a1 a2 a3 a4 a5 a6.2.2) (fun q => (kf (fun z => q (by rw [z]))).2.2 K g0 h0 p l e R s m args below meth c G r1 r2 g H locs LS a1 a2 a3 a4 a5 a6.2.2)
theorem J_lP {r x : Nat} {i : Int32} (k : Nat) (hd : decode Y.2.1 pc = .ok (.aaload, 1)) (hk : kd h r = k) (hk2 : (Nat.ble 24 k && Nat.ble k 28) = true) (hi : vp_in i (ln h r)) (he : gP h r i.toNatClampNeg = x) (kk : JP Φ d Y (pc + 1) ls (.ref x :: st) h o h') : JP Φ d Y pc ls (.int i :: .ref r :: st) h o h' := by
  subst he
  subst hk
  simp only [Bool.and_eq_true] at hk2
  exact J_aald hd (Nat.le_of_ble_eq_true hk2.1) (Nat.le_of_ble_eq_true hk2.2) hi kk
theorem J_lA {r : Nat} {i : Int32} (k : Nat) (hd : decode Y.2.1 pc = .ok (.aaload, 1)) (hk : kd h r = k) (hk2 : (Nat.ble 24 k && Nat.ble k 28) = true) (hi : vp_in i (ln h r)) (kk : JP Φ d Y (pc + 1) ls (.ref (gP h r i.toNatClampNeg) :: st) h o h') : JP Φ d Y pc ls (.int i :: .ref r :: st) h o h' := by
  subst hk
  simp only [Bool.and_eq_true] at hk2
  exact J_aald hd (Nat.le_of_ble_eq_true hk2.1) (Nat.le_of_ble_eq_true hk2.2) hi kk
theorem J_len {r : Nat} (k : Nat) (hd : decode Y.2.1 pc = .ok (.arraylength, 1)) (hk : kd h r = k) (hk2 : (Nat.ble 20 k && Nat.ble k 28) = true) (kk : JP Φ d Y (pc + 1) ls (.int (nI (ln h r)) :: st) h o h') : JP Φ d Y pc ls (.ref r :: st) h o h' := by
  subst hk
  simp only [Bool.and_eq_true] at hk2
  exact J_alen hd (Nat.le_of_ble_eq_true hk2.1) (Nat.le_of_ble_eq_true hk2.2) kk
theorem J_nI {n : Int32} {hh : Hp} (N : Nat) (hd : decode Y.2.1 pc = .ok (.newarray .int, 2)) (hn : ¬ n < 0) (hN : n.toNatClampNeg = N) (hb : N ≤ 10000000) (he : alc h 20 N = hh) (kk : JP Φ d Y (pc + 2) ls (.ref (sz h + 1) :: st) hh o h') : JP Φ d Y pc ls (.int n :: st) h o h' := by
  subst he
  exact J_newI N hd ac_int hn hN hb kk
theorem J_nB {n : Int32} {hh : Hp} (N : Nat) (hd : decode Y.2.1 pc = .ok (.newarray .byte, 2)) (hn : ¬ n < 0) (hN : n.toNatClampNeg = N) (hb : N ≤ 10000000) (he : alc h 21 N = hh) (kk : JP Φ d Y (pc + 2) ls (.ref (sz h + 1) :: st) hh o h') : JP Φ d Y pc ls (.int n :: st) h o h' := by
  subst he
  exact J_newB N hd ac_byte hn hN hb kk
theorem J_nZ {n : Int32} {hh : Hp} (N : Nat) (hd : decode Y.2.1 pc = .ok (.newarray .boolean, 2)) (hn : ¬ n < 0) (hN : n.toNatClampNeg = N) (hb : N ≤ 10000000) (he : alc h 22 N = hh) (kk : JP Φ d Y (pc + 2) ls (.ref (sz h + 1) :: st) hh o h') : JP Φ d Y pc ls (.int n :: st) h o h' := by
  subst he
  exact J_newZ N hd ac_boolean hn hN hb kk
theorem J_nL {n : Int32} {hh : Hp} (N : Nat) (hd : decode Y.2.1 pc = .ok (.newarray .long, 2)) (hn : ¬ n < 0) (hN : n.toNatClampNeg = N) (hb : N ≤ 10000000) (he : alc h 23 N = hh) (kk : JP Φ d Y (pc + 2) ls (.ref (sz h + 1) :: st) hh o h') : JP Φ d Y pc ls (.int n :: st) h o h' := by
  subst he
  exact J_newL N hd ac_long hn hN hb kk
theorem J_nO {idx : Nat} {hh : Hp} (c n : Nat) (hd : decode Y.2.1 pc = .ok (.new idx, 3)) (hc : c.blt 12 = true) (hn : nF c = n) (hw1 : Cond.classLink Y.1.cls idx (FC c) ∈ lw_tbl) (hw2 : Cond.instantiable (FC c) (nF c) ∈ lw_tbl) (hw3 : Cond.initialized (FC c) ∈ lw_tbl) (he : alc h c n = hh) (kk : JP Φ d Y (pc + 3) ls (.ref (sz h + 1) :: st) hh o h') : JP Φ d Y pc ls st h o h' := by
  subst he
  exact J_new c n hd (blt_ok hc) hn hw1 hw2 hw3 kk
theorem J_nA {idx : Nat} {n : Int32} {hh : Hp} (k N : Nat) (hd : decode Y.2.1 pc = .ok (.anewarray idx, 3)) (hk : (Nat.ble 25 k && Nat.ble k 28) = true) (hw1 : Cond.classLink Y.1.cls idx (FC (elK k)) ∈ lw_tbl) (hn : ¬ n < 0) (hN : n.toNatClampNeg = N) (hb : N ≤ 10000000) (he : alc h k N = hh) (kk : JP Φ d Y (pc + 3) ls (.ref (sz h + 1) :: st) hh o h') : JP Φ d Y pc ls (.int n :: st) h o h' := by
  subst he
  simp only [Bool.and_eq_true] at hk
  exact J_anew k N hd (Nat.le_of_ble_eq_true hk.1) (Nat.le_of_ble_eq_true hk.2) hw1 hn hN hb kk
theorem J_nAA {idx : Nat} {n : Int32} {hh : Hp} (N : Nat) (hd : decode Y.2.1 pc = .ok (.anewarray idx, 3)) (hw1 : Cond.classLink Y.1.cls idx "[I" ∈ lw_tbl) (hn : ¬ n < 0) (hN : n.toNatClampNeg = N) (hb : N ≤ 10000000) (he : alc h 24 N = hh) (kk : JP Φ d Y (pc + 3) ls (.ref (sz h + 1) :: st) hh o h') : JP Φ d Y pc ls (.int n :: st) h o h' := by
  subst he
  exact J_newA N hd hw1 hn hN hb kk
theorem J_cp {idx r1 r2 : Nat} {sp dp n : Int32} {hh : Hp} (k : Nat) (hd : decode Y.2.1 pc = .ok (.invokestatic idx, 3)) (hl : Cond.methodLink Y.1.cls idx arraycopyName ∈ lw_tbl) (hk : k = 20 ∨ k = 21) (h1 : kd h r1 = k) (h2 : kd h r2 = k) (hb : cpB sp dp n (ln h r1) (ln h r2) = true) (hc : ((st.map Value.category).sum).ble 8 = true)
    (he : rI h r2 (va_cpy (gI h r1) (gI h r2) sp.toNatClampNeg dp.toNatClampNeg n.toNatClampNeg) = hh) (kk : JP Φ d Y (pc + 3) ls st hh o h') : JP Φ d Y pc ls (.int n :: .int dp :: .ref r2 :: .int sp :: .ref r1 :: st) h o h' := by
  subst he
  obtain ⟨b1, b2, b3⟩ := cpB_ok hb
  exact J_copy k hd hl cp_w hk h1 h2 b1 b2 b3 (Nat.le_of_ble_eq_true hc) kk
theorem J_mx {idx : Nat} {x y : Int32} (hd : decode Y.2.1 pc = .ok (.invokestatic idx, 3)) (hl : Cond.methodLink Y.1.cls idx Lib.Math.max.name ∈ lw_tbl) (hc : ((st.map Value.category).sum).ble 8 = true) (k : JP Φ d Y (pc + 3) ls (.int (jmax x y) :: st) h o h') : JP Φ d Y pc ls (.int y :: .int x :: st) h o h' := J_max hd hl ma_max (Nat.le_of_ble_eq_true hc) k
theorem J_mn {idx : Nat} {x y : Int32} (hd : decode Y.2.1 pc = .ok (.invokestatic idx, 3)) (hl : Cond.methodLink Y.1.cls idx Lib.Math.min.name ∈ lw_tbl) (hc : ((st.map Value.category).sum).ble 8 = true) (k : JP Φ d Y (pc + 3) ls (.int (jmin x y) :: st) h o h') : JP Φ d Y pc ls (.int y :: .int x :: st) h o h' := J_min hd hl ma_min (Nat.le_of_ble_eq_true hc) k
theorem J_rZ {v : Int32} (hd : decode Y.2.1 pc = .ok (.ireturn, 1)) (ht : Y.2.2.2 = some .boolean) (hz : zOk v = true) : JP Φ d Y pc ls [.int v] h (oI v) h := J_iretZ hd ht (zOk_ok hz).1
theorem J_tab {dflt lo hi : Int} {offs : Array Int} {len : Nat} {x v : Int32} {off : Int} (tgt : Nat) (hd : decode Y.2.1 pc = .ok (.tableswitch dflt lo hi offs, len)) (hx : x = v) (h1 : decide (¬ v.toInt < lo ∧ ¬ hi < v.toInt) = true) (ho : offs[(v.toInt - lo).toNat]? = some off) (ht : (pc : Int) + off = (tgt : Int)) (k : JP Φ d Y tgt ls st h o h') : JP Φ d Y pc ls (.int x :: st) h o h' := by
  subst hx
  have := of_decide_eq_true h1
  exact J_tabIn tgt hd this.1 this.2 ho ht k
theorem J_tab0 {dflt hi : Int} {offs : Array Int} {len : Nat} {x : Int32} (n : Nat) (tgt : Nat) (hd : decode Y.2.1 pc = .ok (.tableswitch dflt 0 hi offs, len)) (hh : hi + 1 = (n : Int)) (hx : ∀ k, k < n → ¬ x = nI k) (hn : n.ble 1000000 = true) (ht : (pc : Int) + dflt = (tgt : Int)) (k : JP Φ d Y tgt ls st h o h') : JP Φ d Y pc ls (.int x :: st) h o h' := by
  refine J_tabOut tgt hd ?_ ht k
  by_cases q : x.toInt < 0
  · exact Or.inl q
  · refine Or.inr ?_
    have hn := Nat.le_of_ble_eq_true hn
    obtain ⟨j, j1, j2⟩ := nI_of (x := x) (fun z => q (by have := Int32.lt_iff_toInt_lt.mp z; simpa using this))
    subst j2
    rw [nI_toInt j1]
    by_cases z : j < n
    · exact absurd rfl (hx j z)
    · omega
end
