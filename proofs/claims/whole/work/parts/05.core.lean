/-! THE WORLD AS NUMBERED CELLS. A cell has a number (1, 2 ..; 0 is null), a kind, a length, whole numbers (gI) and references (gP: numbers of cells). -/
-- kinds: 0..11 objects of the classes of vwCl; 20 int[], 21 byte[], 22 boolean[], 23 long[], 24 int[][], 25 Style[], 26 Part[], 27 Machine[], 28 Slug[]; 99 none
abbrev Hp : Type := (Nat → Nat) × (Nat → Nat) × (Nat → Nat → Int32) × (Nat → Nat → Nat) × Nat × Nat × Nat
def kd (h : Hp) : Nat → Nat := h.1
def ln (h : Hp) : Nat → Nat := h.2.1
def gI (h : Hp) : Nat → Nat → Int32 := h.2.2.1
def gP (h : Hp) : Nat → Nat → Nat := h.2.2.2.1
def sz (h : Hp) : Nat := h.2.2.2.2.1
def nc (h : Hp) : Nat := h.2.2.2.2.2.1
def ns (h : Hp) : Nat := h.2.2.2.2.2.2
/-- a whole row of numbers -/
def rI (h : Hp) (a : Nat) (f : Nat → Int32) : Hp := (h.1, h.2.1, va_up h.2.2.1 a f, h.2.2.2)
def rP (h : Hp) (a : Nat) (f : Nat → Nat) : Hp := (h.1, h.2.1, h.2.2.1, va_up h.2.2.2.1 a f, h.2.2.2.2)
/-- one number -/
def sI (h : Hp) (a i : Nat) (v : Int32) : Hp := rI h a (va_up (gI h a) i v)
def sP (h : Hp) (a i : Nat) (v : Nat) : Hp := rP h a (va_up (gP h a) i v)
/-- a new cell: of kind k, with n fields or elements -/
def alc (h : Hp) (k n : Nat) : Hp := (va_up h.1 (sz h + 1) k, va_up h.2.1 (sz h + 1) n, va_up h.2.2.1 (sz h + 1) (fun _ => 0), va_up h.2.2.2.1 (sz h + 1) (fun _ => 0), sz h + 1, nc h + 1, ns h + n)
/-- room that is used up by what the world doesn't show -/
def bmp (h : Hp) (c n : Nat) : Hp := (h.1, h.2.1, h.2.2.1, h.2.2.2.1, h.2.2.2.2.1, nc h + c, ns h + n)
abbrev Gh : Type := Nat → Nat × ClassId
def rp (g : Gh) (r : Nat) : Option Nat := if r = 0 then none else some (g r).1
def rel (sa : Nat → Nat) (g : Gh) : Value → Value
  | .ref r => va_rf (rp g r)
  | .retAddr k => if k = 2000 then (if sa 2001 = 0 then .null else .ref (sa 2000)) else .ref (sa k)
  | v => v
def nF (c : Nat) : Nat := match vwCl[c]? with
  | some r => r.2.2
  | none => 0
def FT (c k : Nat) : String × String × String × Bool := match vwCl[c]? with
  | some r => r.2.1 k
  | none => ("", "", "", false)
def FC (c : Nat) : String := match vwCl[c]? with
  | some r => r.1
  | none => ""
def tyF (c : Nat) : Nat → FieldType := match c with
  | 0 => tyX0
  | 1 => tyX2
  | 2 => tyX3
  | 3 => tyX4
  | 4 => tyX5
  | 5 => tyX6
  | 6 => tyX7
  | 7 => tyX8
  | 8 => tyX9
  | 9 => tyX10
  | 10 => tyX11
  | _ => tyX12
/-- is field k of an object of kind c a reference? -/
def refF (c k : Nat) : Bool := (tyF c k).isReference
def kty (k : Nat) : FieldType := match k with
  | 20 => .int
  | 21 => .byte
  | 22 => .boolean
  | 23 => .long
  | 24 => .array .int
  | 25 => .object RX9
  | 26 => .object RX5
  | 27 => .object RX4
  | _ => .object RX8
def fldV (g : Gh) (h : Hp) (c a k : Nat) : Value := if refF c k then va_rf (rp g (gP h a k)) else .int (gI h a k)
def cellE (g : Gh) (h : Hp) (a : Nat) : va_E :=
  if kd h a < 12 then .inr (kd h a, (List.range (nF (kd h a))).map (fldV g h (kd h a) a))
  else if kd h a = 23 then .inl ((g a).2, ln h a, .inr (.inl (fun i => (gI h a i).toInt64)))
  else if kd h a < 24 then .inl ((g a).2, ln h a, .inl (gI h a))
  else .inl ((g a).2, ln h a, .inr (.inr (.inr (.inr (fun i => rp g (gP h a i))))))
def wsOf (g : Gh) (h : Hp) : va_W := (List.range (sz h)).map (fun k => ((g (k + 1)).1, cellE g h (k + 1)))
def Wf (h : Hp) : Prop := (∀ a, kd h a ≠ 99 → 1 ≤ a ∧ a ≤ sz h) ∧ (∀ a i, gP h a i ≤ sz h) ∧ ∀ a i, kd h a = 21 → fits .byte (.int (gI h a i)) = true
def ArO (g : Gh) (h : Hp) (U : State) : Prop := ∀ a, 20 ≤ kd h a → kd h a ≤ 28 → ArrOfT U (g a).2 (kty (kd h a)) ∧ va_RA U (g a).2 (kty (kd h a))
/-- the world h, its cells at the addresses that g tells, lies in the heap H -/
def Wd (D : va_G) (g : Gh) (A : Nat → Prop) (h : Hp) (U : State) (H : Heap) : Prop := va_P D vwCl (wsOf g h) H ∧ va_D A (wsOf g h) ∧ Wf h ∧ ArO g h U
def okV (n : Nat) : Value → Prop
  | .ref r => r ≤ n
  | _ => True
theorem wsOf_get {g : Gh} {h : Hp} {a : Nat} (h1 : 1 ≤ a) (h2 : a ≤ sz h) : (wsOf g h)[a - 1]? = some ((g a).1, cellE g h a) := by
  have e : a - 1 + 1 = a := by omega
  simp only [wsOf, List.getElem?_map]
  rw [List.getElem?_range (by omega)]
  simp [e]
theorem wsOf_len (g : Gh) (h : Hp) : (wsOf g h).length = sz h := by simp [wsOf]
theorem wsOf_set {g : Gh} {h h' : Hp} {a : Nat} {e : va_E} (h1 : 1 ≤ a) (hz : sz h' = sz h) (he : cellE g h' a = e) (ho : ∀ b, b ≠ a → cellE g h' b = cellE g h b) : (wsOf g h).set (a - 1) ((g a).1, e) = wsOf g h' := by
  apply List.ext_getElem?
  intro j
  simp only [wsOf, hz]
  rw [List.getElem?_set]
  by_cases hj : j < sz h
  · by_cases q : a - 1 = j
    · subst q
      have e2 : a - 1 + 1 = a := by omega
      simp [hj, e2, he]
    · have q2 : j + 1 ≠ a := by omega
      simp [q, hj, ho _ q2]
  · by_cases q : a - 1 = j
    · subst q
      simp [hj]
    · simp [q, hj]
theorem wsOf_push {g g' : Gh} {h h' : Hp} {q : Nat} {e : va_E} (hz : sz h' = sz h + 1) (hq : (g' (sz h + 1)).1 = q) (he : cellE g' h' (sz h + 1) = e) (ho : ∀ b, 1 ≤ b → b ≤ sz h → (g' b).1 = (g b).1 ∧ cellE g' h' b = cellE g h b) : wsOf g h ++ [(q, e)] = wsOf g' h' := by
  simp only [wsOf, hz, List.range_succ, List.map_append, List.map_cons, List.map_nil, hq, he]
  congr 1
  apply List.map_congr_left
  intro k hk
  have hk := List.mem_range.mp hk
  obtain ⟨e1, e2⟩ := ho (k + 1) (by omega) (by omega)
  rw [e1, e2]
