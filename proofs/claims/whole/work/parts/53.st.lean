/-! THE STATE: what the class's cells hold, told by the reference's memory -/
def Own (tg : Nat → List Nat) (h : Hp) : Prop := tg 1 = [] ∧ tg 73 = [1000] ∧ tg 109 = [1001] ∧ (∀ k, gP h 0 k = 0) ∧ (∀ a k, gP h a k ≠ 0 → (a = 3 → k ≠ 0) → tg (gP h a k) = k :: tg a) ∧ (∀ a k, gP h a k ≤ sz h)
def ar (h : Hp) (a k c l : Nat) : Prop := gP h a k ≠ 0 ∧ kd h (gP h a k) = c ∧ ln h (gP h a k) = l
def zO (v : Int32) : Prop := v = nI 0 ∨ v = nI 1
def PtS (h : Hp) (p : Nat) : Prop := kd h p = 4 ∧ ar h p 0 21 480 ∧ ar h p 1 20 41 ∧ ar h p 2 22 40 ∧ ar h p 3 20 40 ∧ ar h p 4 20 40 ∧ gI h (gP h p 1) 0 = nI 0 ∧ zO (gI h p 10) ∧ zO (gI h p 11) ∧ ∀ b, zO (gI h (gP h p 2) b)
def StyS (h : Hp) (y : Nat) : Prop := kd h y = 8 ∧ ar h y 2 20 12 ∧ ar h y 3 20 12 ∧ ar h y 4 20 12 ∧ ar h y 5 20 12 ∧ ar h y 6 20 256 ∧ ar h y 7 22 12 ∧ ar h y 8 22 64
def MaS (h : Hp) (c : Nat) : Prop := kd h c = 3 ∧ ar h c 0 20 27 ∧ ar h c 7 20 30 ∧ ar h c 8 20 30 ∧ ar h c 9 20 30 ∧ ar h c 10 22 30 ∧ zO (gI h c 2) ∧ ∀ j, zO (gI h (gP h c 10) j)
def slz (n : Nat) : Prop := n = 32 ∨ n = 64 ∨ n = 128 ∨ n = 256 ∨ n = 512
def SlS (h : Hp) (s : Nat) : Prop := kd h s = 7 ∧ (gP h s 0 ≠ 0 ∧ kd h (gP h s 0) = 21) ∧ (gP h s 1 ≠ 0 ∧ kd h (gP h s 1) = 21) ∧ ln h (gP h s 0) = ln h (gP h s 1) ∧ slz (ln h (gP h s 0)) ∧ zO (gI h s 14)
def BrS (h : Hp) (b : Nat) : Prop := kd h b = 0 ∧ ar h b 8 20 41 ∧ ar h b 9 20 41 ∧ ar h b 10 20 41 ∧ ar h b 11 20 41 ∧ ar h b 12 20 41 ∧ ar h b 13 22 41 ∧ gI h (gP h b 8) 0 = nI 0 ∧ gI h (gP h b 9) 0 = nI 0
def RmS (h : Hp) (r : Nat) : Prop := kd h r = 6 ∧ ar h r 1 20 54 ∧ ar h r 2 25 10 ∧ ar h r 5 26 100 ∧ ar h r 6 20 20 ∧ ar h r 8 27 4 ∧ ar h r 10 28 300 ∧ ar h r 12 20 32 ∧ ar h r 13 20 32 ∧ ar h r 15 20 9 ∧ ar h r 16 20 27 ∧ ar h r 17 20 27 ∧ ar h r 18 21 512 ∧ ar h r 19 21 512 ∧
  (gP h r 4 ≠ 0 ∧ StyS h (gP h r 4) ∧ gI h (gP h r 4) 1 = nI 0 ∧ gI h (gP h r 4) 0 = nI 0) ∧ (gP h r 14 ≠ 0 ∧ BrS h (gP h r 14)) ∧
  (∀ q, gP h (gP h r 5) q ≠ 0 → PtS h (gP h (gP h r 5) q)) ∧ (∀ y, gP h (gP h r 2) y ≠ 0 → StyS h (gP h (gP h r 2) y)) ∧ (∀ k, gP h (gP h r 8) k ≠ 0 → MaS h (gP h (gP h r 8) k)) ∧ (∀ s, gP h (gP h r 10) s ≠ 0 → SlS h (gP h (gP h r 10) s))
def DkS (h : Hp) (d : Nat) : Prop := kd h d = 1 ∧ ar h d 0 20 6 ∧ ar h d 1 20 6 ∧ ar h d 2 20 6 ∧ ar h d 3 20 6 ∧ ar h d 4 24 54 ∧ ar h d 5 20 54 ∧ ar h d 7 20 200 ∧ ar h d 8 20 200 ∧ ar h d 9 20 200 ∧ ar h d 10 20 200 ∧ ∀ r, gP h (gP h d 4) r ≠ 0 → kd h (gP h (gP h d 4) r) = 20 ∧ ln h (gP h (gP h d 4) r) = 180
/-- the cells of the object that do not change their place -/
def XS (h : Hp) : Prop := kd h 1 = 10 ∧ gP h 1 0 = 2 ∧ kd h 2 = 21 ∧ ln h 2 = 400 ∧ gP h 1 3 = 3 ∧ kd h 3 = 9 ∧ gP h 3 0 = 2 ∧ gP h 3 4 = 4 ∧ kd h 4 = 20 ∧ ln h 4 = 401 ∧ gP h 3 5 = 5 ∧ gP h 1 4 = 13 ∧ gP h 1 5 = 19 ∧ gP h 1 6 = 48 ∧ gP h 1 7 = 59 ∧ kd h 59 = 2 ∧ gP h 1 8 = 68 ∧ kd h 68 = 5 ∧ kd h 109 = 23 ∧ ln h 109 = 1
theorem XS.f {h : Hp} (X : XS h) : kd h 1 = 10 ∧ gP h 1 0 = 2 ∧ kd h 2 = 21 ∧ ln h 2 = 400 ∧ gP h 1 3 = 3 ∧ kd h 3 = 9 ∧ gP h 3 0 = 2 ∧ gP h 3 4 = 4 ∧ kd h 4 = 20 ∧ ln h 4 = 401 ∧ gP h 3 5 = 5 ∧ gP h 1 4 = 13 ∧ gP h 1 5 = 19 ∧ gP h 1 6 = 48 ∧ gP h 1 7 = 59 ∧ kd h 59 = 2 ∧ gP h 1 8 = 68 ∧ kd h 68 = 5 ∧ kd h 109 = 23 ∧ ln h 109 = 1 := X
/-- fitter, planner, the reader's own style, the spare part -/
def XS2 (h : Hp) : Prop := ar h 59 2 20 4 ∧ ar h 59 3 20 4 ∧ ar h 59 4 20 4 ∧ ar h 59 5 20 4 ∧ ar h 59 6 20 4 ∧ ar h 59 7 20 4 ∧ ar h 59 8 20 24 ∧ ar h 59 9 20 4 ∧ ar h 68 1 20 5 ∧ ar h 68 2 20 5 ∧ ar h 68 3 20 32 ∧ ar h 68 4 20 32 ∧ StyS h 5 ∧ PtS h 13
/-! the values -/
def PtV (h : Hp) (p : Nat) (m : Nat → Int32) (q : Nat) : Prop := gI h p 5 = m (130 + 645 * q + 1) ∧ gI h p 6 = m (130 + 645 * q) ∧ gI h p 7 = m (70 + q / 5) ∧ gI h p 8 = m (90 + q / 5) ∧ gI h p 10 = m (130 + 645 * q + 2) ∧ gI h p 11 = m (130 + 645 * q + 3) ∧
  (∀ b, b < Nn m (130 + 645 * q + 1) → gI h (gP h p 1) (b + 1) = gI h (gP h p 1) b + m (130 + 645 * q + 125 + b) ∧ gI h (gP h p 2) b = (if b + 1 = Nn m (130 + 645 * q + 1) ∨ m (130 + 645 * q + 85 + b) ≠ m (130 + 645 * q + 85 + (b + 1)) then nI 1 else nI 0) ∧
    ∀ i, i < Nn m (130 + 645 * q + 125 + b) → gI h (gP h p 0) ((gI h (gP h p 1) b).toNatClampNeg + i) = m (130 + 645 * q + 165 + 12 * b + i)) ∧
  gI h p 9 = (if m (130 + 645 * q + 3) = nI 1 then m (130 + 645 * q + 4) else nI 0) ∧
  (m (130 + 645 * q + 3) = nI 1 → ∀ l, l < Nn m (130 + 645 * q + 4) → gI h (gP h p 3) l = m (130 + 645 * q + 5 + l) ∧ gI h (gP h p 4) l = m (130 + 645 * q + 45 + l) - nI 1)
def MaV (h : Hp) (c : Nat) (m : Nat → Int32) (k : Nat) : Prop := (∀ i, i < 27 → gI h (gP h c 0) i = m (320230 + 183 * k + i)) ∧ gI h c 1 = m (320230 + 183 * k + 27) ∧ gI h c 2 = m (320230 + 183 * k + 28) ∧ gI h c 3 = m (320230 + 183 * k + 29) ∧ gI h c 4 = m (320230 + 183 * k + 30) ∧ gI h c 5 = m (320230 + 183 * k + 31) ∧ gI h c 6 = m (320230 + 183 * k + 32) ∧
  ∀ j, j < Nn m (320230 + 183 * k + 29) → gI h (gP h c 7) j = m (320230 + 183 * k + 33 + 5 * j) ∧ gI h (gP h c 8) j = m (320230 + 183 * k + 33 + 5 * j + 1) ∧ gI h (gP h c 10) j = m (320230 + 183 * k + 33 + 5 * j + 3) ∧
    gI h (gP h c 9) j = (if m (320230 + 183 * k + 33 + 5 * j + 4) = nI 1 then (if m (130 + 645 * Nn m (320230 + 183 * k + 33 + 5 * j) + 3) = nI 1 then m (130 + 645 * Nn m (320230 + 183 * k + 33 + 5 * j) + 4) else -1) else m (320230 + 183 * k + 33 + 5 * j + 2))
/-- how many of the first n bytes of slug g are not as cast -/
def wrN (m : Nat → Int32) (g : Nat) : Nat → Nat
  | 0 => 0
  | n + 1 => wrN m g n + (if m (g + 12 + n) = m (g + 432 + n) then 0 else 1)
def SlV (h : Hp) (s : Nat) (m : Nat → Int32) (g : Nat) : Prop := gI h s 5 = m g ∧ gI h s 8 = m (g + 1) ∧ gI h s 9 = m (g + 2) ∧ gI h s 3 = m (g + 3) ∧ gI h s 10 = m (g + 4) ∧ gI h s 11 = m (g + 5) ∧ gI h s 12 = m (g + 6) ∧ gI h s 14 = m (g + 7) ∧ gI h s 7 = m (g + 8) ∧ gI h s 2 = m (g + 9) ∧ gI h s 13 = m (g + 10) + nI 2 * m (g + 11) ∧ gI h s 6 = m (70 + Nn m g / 5) ∧ Nn m (g + 9) ≤ ln h (gP h s 0) ∧
  (∀ i, i < Nn m (g + 9) → gI h (gP h s 0) i = m (g + 12 + i) ∧ gI h (gP h s 1) i = m (g + 432 + i)) ∧ gI h s 4 = nI (wrN m g (Nn m (g + 9)))
/-! conditions of rules: (1, tag, _), (2, fact, n): below, (3, fact, n): above, (4,_,_) not, (5,_,_) and, (6,_,_) or -/
abbrev Op : Type := Nat × Nat × Nat
def encC (o : Op) : Nat := if o.1 = 1 then o.2.1 else if o.1 = 2 then 32 * o.2.2 + 12 + o.2.1 else if o.1 = 3 then 32 * o.2.2 + 21 + o.2.1 else if o.1 = 4 then 29 else if o.1 = 5 then 27 else 28
def encR (o : Op) : List Nat := if o.1 = 1 then [1, o.2.1] else if o.1 = 2 then [2, o.2.1, o.2.2] else if o.1 = 3 then [3, o.2.1, o.2.2] else [o.1]
def okOp (o : Op) : Prop := (o.1 = 1 ∧ o.2.1 < 3) ∨ ((o.1 = 2 ∨ o.1 = 3) ∧ o.2.1 < 6 ∧ o.2.2 ≤ 9999) ∨ o.1 = 4 ∨ o.1 = 5 ∨ o.1 = 6
/-- the depth behind the ops, none where they reach below the ground or above 50 -/
def dpO : List Op → Nat → Option Nat
  | [], d => some d
  | o :: r, d => if o.1 ≤ 3 then (if d < 50 then dpO r (d + 1) else none) else if o.1 = 4 then (if 1 ≤ d then dpO r d else none) else (if 2 ≤ d then dpO r (d - 1) else none)
def StyV (h : Hp) (y : Nat) (m : Nat → Int32) (Y : Nat) : Prop := gI h y 0 = m Y ∧ gI h y 1 = m (Y + 1) ∧ ∃ cd : Nat → List Op, ∃ ce : Nat → Nat, ce 0 = 0 ∧
  ∀ r, r < Nn m (Y + 1) → gI h (gP h y 2) r = m (Y + 2 + 5 * r) ∧ gI h (gP h y 3) r = m (Y + 2 + 5 * r + 1) ∧ gI h (gP h y 4) r = m (Y + 2 + 5 * r + 2) ∧ gI h (gP h y 5) r = nI (ce (r + 1)) ∧ ce (r + 1) = ce r + (cd r).length ∧ ce (r + 1) ≤ 256 ∧
    (∀ i, i < (cd r).length → gI h (gP h y 6) (ce r + i) = nI (encC ((cd r).getD i (0, 0, 0)))) ∧
    (∀ o ∈ cd r, okOp o) ∧ (cd r = [] ∨ dpO (cd r) 0 = some 1) ∧
    ∃ fr, fr + ((cd r).flatMap encR).length ≤ 562 ∧ m (Y + 2 + 5 * r + 3) = nI fr ∧ m (Y + 2 + 5 * r + 4) = nI ((cd r).flatMap encR).length ∧ ∀ j, j < ((cd r).flatMap encR).length → m (Y + fr + j) = nI (((cd r).flatMap encR).getD j 0)
/-- the last slug below n that machine k cast in minute t -/
def lastS (m : Nat → Int32) (k t : Int32) : Nat → Int32
  | 0 => -1
  | n + 1 => if m (64630 + 852 * n + 1) = k ∧ m (64630 + 852 * n + 2) = t then nI n else lastS m k t n
def vP (m : Nat → Int32) (q : Nat) : Prop := q < 100 ∧ q / 5 < Nn m 1 ∧ q % 5 < Nn m (110 + q / 5)
def RmV (h : Hp) (r : Nat) (m : Nat → Int32) : Prop := gI h r 0 = m 0 ∧ gI h r 7 = m 1 ∧ gI h r 3 = m 2 ∧ gI h r 9 = m 3 ∧ gI h r 11 = m 4 ∧ (∀ i, i < 54 → gI h (gP h r 1) i = m (16 + i)) ∧ (∀ s, s < Nn m 1 → gI h (gP h r 6) s = m (110 + s)) ∧
  (∀ q, vP m q → gP h (gP h r 5) q ≠ 0 ∧ PtV h (gP h (gP h r 5) q) m q) ∧ (∀ k, k < Nn m 3 → gP h (gP h r 8) k ≠ 0 ∧ MaV h (gP h (gP h r 8) k) m k) ∧ (∀ s, s < Nn m 4 → gP h (gP h r 10) s ≠ 0 ∧ SlV h (gP h (gP h r 10) s) m (64630 + 852 * s)) ∧ (∀ y, y < Nn m 2 → gP h (gP h r 2) y ≠ 0 ∧ StyV h (gP h (gP h r 2) y) m (320962 + 562 * y)) ∧
  (∀ i, i < Nn m 7 → ∀ k, k < 4 → gI h (gP h r 12) ((Nn m 0 - Nn m 7 + i) % 8 * 4 + k) = m (337180 + 5 * i + 1 + k) ∧ gI h (gP h r 13) ((Nn m 0 - Nn m 7 + i) % 8 * 4 + k) = lastS m (nI k) (nI (Nn m 0 - Nn m 7 + i + 1)) (Nn m 4))
def DkV (h : Hp) (d : Nat) (m : Nat → Int32) : Prop := gI h d 6 = m 6 ∧ gI h d 11 = m 5 ∧ (∀ p, p < 6 → gI h (gP h d 0) p = m (327382 + 185 * p) ∧ gI h (gP h d 1) p = m (327382 + 185 * p + 1) ∧ gI h (gP h d 2) p = m (327382 + 185 * p + 3) ∧ gI h (gP h d 3) p = m (327382 + 185 * p + 4) ∧ gI h (gP h d 5) p = m (327382 + 185 * p + 2) ∧ (m (327382 + 185 * p + 2) ≠ nI 0 → gP h (gP h d 4) p ≠ 0) ∧ ∀ i, i < Nn m (327382 + 185 * p + 2) → gI h (gP h (gP h d 4) p) i = m (327382 + 185 * p + 5 + i)) ∧
  (∀ e, e < Nn m 6 → ∀ p, p < 6 → gI h (gP h d 5) (6 * (e + 1) + p) = m (328492 + 181 * (6 * e + p)) ∧ (m (328492 + 181 * (6 * e + p)) ≠ nI 0 → gP h (gP h d 4) (6 * (e + 1) + p) ≠ 0) ∧ ∀ i, i < Nn m (328492 + 181 * (6 * e + p)) → gI h (gP h (gP h d 4) (6 * (e + 1) + p)) i = m (328492 + 181 * (6 * e + p) + 1 + i)) ∧
  (∀ t, t < Nn m 5 → gI h (gP h d 7) t = m (326582 + 4 * t) ∧ gI h (gP h d 8) t = m (326582 + 4 * t + 1) ∧ gI h (gP h d 9) t = m (326582 + 4 * t + 2) ∧ gI h (gP h d 10) t = m (326582 + 4 * t + 3))
/-! what the reference's memory keeps -/
def MIb (m : Nat → Int32) : Prop := oN m 0 600 ∧ oN m 1 20 ∧ oN m 2 10 ∧ oN m 3 4 ∧ oN m 4 300 ∧ oN m 5 200 ∧ oN m 6 8 ∧ m 7 = nI (min 8 (Nn m 0)) ∧ (∀ i, i < 54 → oN m (16 + i) 20 ∧ 1 ≤ Nn m (16 + i)) ∧ (∀ s, s < Nn m 1 → oN m (70 + s) 1 ∧ oN m (90 + s) 600 ∧ oN m (110 + s) 5 ∧ 1 ≤ Nn m (110 + s))
def MIp (m : Nat → Int32) (q : Nat) : Prop := oN m (130 + 645 * q) 24 ∧ oN m (130 + 645 * q + 1) 40 ∧ 1 ≤ Nn m (130 + 645 * q + 1) ∧ oN m (130 + 645 * q + 2) 1 ∧ oN m (130 + 645 * q + 3) 1 ∧ oN m (130 + 645 * q + 4) 40 ∧
  (∀ b, b < Nn m (130 + 645 * q + 1) → oN m (130 + 645 * q + 85 + b) 23 ∧ oN m (130 + 645 * q + 125 + b) 12 ∧ 1 ≤ Nn m (130 + 645 * q + 125 + b) ∧ ∀ i, i < Nn m (130 + 645 * q + 125 + b) → oN m (130 + 645 * q + 165 + 12 * b + i) 25) ∧
  Nn m (130 + 645 * q + 85) = 0 ∧ (∀ b, b + 1 < Nn m (130 + 645 * q + 1) → Nn m (130 + 645 * q + 85 + (b + 1)) = Nn m (130 + 645 * q + 85 + b) ∨ Nn m (130 + 645 * q + 85 + (b + 1)) = Nn m (130 + 645 * q + 85 + b) + 1) ∧ Nn m (130 + 645 * q + 85 + (Nn m (130 + 645 * q + 1) - 1)) + 1 = Nn m (130 + 645 * q) ∧
  (m (130 + 645 * q + 3) = nI 0 → m (130 + 645 * q + 4) = nI 0) ∧
  (m (130 + 645 * q + 3) = nI 1 → m (130 + 645 * q + 2) = nI 1 ∧ 1 ≤ Nn m (130 + 645 * q + 4) ∧ Nn m (130 + 645 * q + 5 + (Nn m (130 + 645 * q + 4) - 1)) + 1 = Nn m (130 + 645 * q + 1) ∧
    ∀ l, l < Nn m (130 + 645 * q + 4) → oN m (130 + 645 * q + 5 + l) 39 ∧ oN m (130 + 645 * q + 45 + l) 300 ∧ (l + 1 < Nn m (130 + 645 * q + 4) → Nn m (130 + 645 * q + 5 + l) < Nn m (130 + 645 * q + 5 + (l + 1))) ∧
      (m (130 + 645 * q + 45 + l) ≠ nI 0 → Nn m (130 + 645 * q + 45 + l) ≤ Nn m 4 ∧ m (64630 + 852 * (Nn m (130 + 645 * q + 45 + l) - 1) + 4) = nI 0 ∧ m (64630 + 852 * (Nn m (130 + 645 * q + 45 + l) - 1) + 5) = nI l ∧ m (64630 + 852 * (Nn m (130 + 645 * q + 45 + l) - 1) + 6) = nI q))
def MIs (m : Nat → Int32) (g s : Nat) : Prop := oN m g 99 ∧ vP m (Nn m g) ∧ oN m (g + 1) 3 ∧ Nn m (g + 1) < Nn m 3 ∧ oN m (g + 2) 600 ∧ Nn m (g + 2) ≤ Nn m 0 ∧ 1 ≤ Nn m (g + 2) ∧ oN m (g + 3) 420 ∧ oN m (g + 4) 2 ∧ oN m (g + 7) 1 ∧ oN m (g + 8) 39 ∧ oN m (g + 9) 401 ∧ oN m (g + 10) 1 ∧ oN m (g + 11) 1 ∧ (∀ i, i < Nn m (g + 9) → oN m (g + 12 + i) 122 ∧ oN m (g + 432 + i) 122) ∧
  (m (g + 4) ≠ nI 0 → m (g + 5) = -1 ∧ m (g + 6) = -1) ∧ (m (g + 4) = nI 0 → oN m (g + 5) 39 ∧ oN m (g + 6) 99 ∧ vP m (Nn m (g + 6)) ∧ m (130 + 645 * Nn m (g + 6) + 3) = nI 1 ∧ Nn m (g + 5) < Nn m (130 + 645 * Nn m (g + 6) + 4) ∧ m (130 + 645 * Nn m (g + 6) + 45 + Nn m (g + 5)) = nI (s + 1))
def MIm (m : Nat → Int32) (k : Nat) : Prop := (∀ i, i < 27 → oN m (320230 + 183 * k + i) 40) ∧ oN m (320230 + 183 * k + 27) 9 ∧ oN m (320230 + 183 * k + 28) 1 ∧ oN m (320230 + 183 * k + 29) 30 ∧
  ∀ j, j < Nn m (320230 + 183 * k + 29) → oN m (320230 + 183 * k + 33 + 5 * j) 99 ∧ vP m (Nn m (320230 + 183 * k + 33 + 5 * j)) ∧ oN m (320230 + 183 * k + 33 + 5 * j + 1) 39 ∧ oN m (320230 + 183 * k + 33 + 5 * j + 2) 40 ∧ oN m (320230 + 183 * k + 33 + 5 * j + 3) 1 ∧ oN m (320230 + 183 * k + 33 + 5 * j + 4) 1 ∧
    (m (320230 + 183 * k + 33 + 5 * j + 4) = nI 0 → m (130 + 645 * Nn m (320230 + 183 * k + 33 + 5 * j) + 3) = nI 1 ∧ Nn m (320230 + 183 * k + 33 + 5 * j + 1) < Nn m (320230 + 183 * k + 33 + 5 * j + 2) ∧ Nn m (320230 + 183 * k + 33 + 5 * j + 2) ≤ Nn m (130 + 645 * Nn m (320230 + 183 * k + 33 + 5 * j) + 4)) ∧
    (m (320230 + 183 * k + 33 + 5 * j + 4) = nI 1 → m (130 + 645 * Nn m (320230 + 183 * k + 33 + 5 * j) + 2) = nI 1 ∧ (m (130 + 645 * Nn m (320230 + 183 * k + 33 + 5 * j) + 3) = nI 0 → m (320230 + 183 * k + 33 + 5 * j + 1) = nI 0) ∧ (m (130 + 645 * Nn m (320230 + 183 * k + 33 + 5 * j) + 3) = nI 1 → Nn m (320230 + 183 * k + 33 + 5 * j + 1) < Nn m (130 + 645 * Nn m (320230 + 183 * k + 33 + 5 * j) + 4)) ∧
      ∀ k', k' < Nn m 3 → ∀ j', j' < Nn m (320230 + 183 * k' + 29) → m (320230 + 183 * k' + 33 + 5 * j' + 4) = nI 1 → m (320230 + 183 * k' + 33 + 5 * j') = m (320230 + 183 * k + 33 + 5 * j) → k' = k ∧ j' = j)
def MIh (m : Nat → Int32) : Prop := (∀ p, p < 6 → oN m (327382 + 185 * p) 3 ∧ 1 ≤ Nn m (327382 + 185 * p) ∧ oN m (327382 + 185 * p + 1) 60 ∧ 1 ≤ Nn m (327382 + 185 * p + 1) ∧ oN m (327382 + 185 * p + 2) 180) ∧ (∀ e, e < Nn m 6 → ∀ p, p < 6 → oN m (328492 + 181 * (6 * e + p)) 180) ∧ (∀ i, i < Nn m 7 → m (337180 + 5 * i) = nI (Nn m 0 - Nn m 7 + i + 1)) ∧ (∀ t, t < Nn m 5 → oN m (326582 + 4 * t) 299 ∧ oN m (326582 + 4 * t + 1) 9 ∧ oN m (326582 + 4 * t + 2) 600 ∧ oN m (326582 + 4 * t + 3) 600)
def MIy (m : Nat → Int32) (Y : Nat) : Prop := oN m Y 600 ∧ oN m (Y + 1) 12 ∧ ∀ r, r < Nn m (Y + 1) → oN m (Y + 2 + 5 * r) 6 ∧ oN m (Y + 2 + 5 * r + 1) 999 ∧ oN m (Y + 2 + 5 * r + 2) 600 ∧ (m (Y + 2 + 5 * r) = nI 0 → 10 ≤ Nn m (Y + 2 + 5 * r + 1) ∧ Nn m (Y + 2 + 5 * r + 1) ≤ 400) ∧ (m (Y + 2 + 5 * r) = nI 1 → 1 ≤ Nn m (Y + 2 + 5 * r + 1) ∧ Nn m (Y + 2 + 5 * r + 1) ≤ Nn m (Y + 2 + 5 * r + 2) ∧ Nn m (Y + 2 + 5 * r + 2) ≤ 40) ∧ (m (Y + 2 + 5 * r) = nI 3 → Nn m (Y + 2 + 5 * r + 1) ≤ 99)
/-- what was never written is 0 -/
def MIz (m : Nat → Int32) : Prop := (∀ q, q < 100 → Nn m 1 ≤ q / 5 → m (130 + 645 * q + 2) = nI 0 ∧ m (130 + 645 * q + 3) = nI 0 ∧ m (130 + 645 * q + 4) = nI 0) ∧ (∀ k, Nn m 3 ≤ k → k < 4 → ∀ i, 28 ≤ i → i < 33 → m (320230 + 183 * k + i) = nI 0)
/-- how many letters the first k pieces of part q have -/
def lsN (m : Nat → Int32) (q : Nat) : Nat → Nat
  | 0 => 0
  | k + 1 => lsN m q k + Nn m (130 + 645 * q + 125 + k)
/-- the first piece of line l -/
def bgN (m : Nat → Int32) (q l : Nat) : Nat := if l = 0 then 0 else Nn m (130 + 645 * q + 5 + (l - 1)) + 1
/-- lines of a part that is set say at most 401 bytes -/
def MIq (m : Nat → Int32) : Prop := ∀ q, vP m q → m (130 + 645 * q + 3) = nI 1 → ∀ l, l < Nn m (130 + 645 * q + 4) → lsN m q (Nn m (130 + 645 * q + 5 + l) + 1) + Nn m (130 + 645 * q + 85 + Nn m (130 + 645 * q + 5 + l)) ≤ 400 + lsN m q (bgN m q l) + Nn m (130 + 645 * q + 85 + bgN m q l)
/-- how many of the first n are no blanks -/
def ltC (w : Nat → Int32) : Nat → Nat
  | 0 => 0
  | n + 1 => ltC w n + (if w n = nI 32 then 0 else 1)
/-- the letters of slugs are counted -/
def MIl (m : Nat → Int32) : Prop := ∀ s, s < Nn m 4 → m (64630 + 852 * s + 3) = nI (ltC (fun l => m (64630 + 852 * s + 12 + l)) (Nn m (64630 + 852 * s + 9)))
def MIql (m : Nat → Int32) : Prop := MIq m ∧ MIl m
def MI (m : Nat → Int32) : Prop := MIb m ∧ (∀ q, vP m q → MIp m q) ∧ (∀ s, s < Nn m 4 → MIs m (64630 + 852 * s) s) ∧ (∀ k, k < Nn m 3 → MIm m k) ∧ MIh m ∧ (∀ y, y < Nn m 2 → MIy m (320962 + 562 * y)) ∧ MIz m ∧ MIql m
