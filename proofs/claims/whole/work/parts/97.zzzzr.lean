/-! correct: the text between the pieces -/
section
variable {h h1 h2 : Hp} {p n w k tn : Nat} {L C K g : Nat → Nat} {T U : Nat → Nat → Nat} {W Ln Lt : Nat → Int32}
theorem lS_ap0 : lS (apF L n g k) n = lS L n := lS_c n (fun y hy => by unfold apF; rw [if_neg (by omega)])
theorem lS_ap : ∀ x, x ≤ k → lS (apF L n g k) (n + x) = lS L n + lS g x
  | 0, _ => lS_ap0
  | x + 1, hx => by
    show lS (apF L n g k) (n + x) + apF L n g k (n + x) = lS L n + (lS g x + g x)
    rw [lS_ap x (by omega)]
    unfold apF
    rw [if_pos (by omega), Nat.add_sub_cancel_left]
    omega
theorem lS_lT : ∀ x, lS (fun i => Nn Ln (0 + i)) x = lT Ln 0 x
  | 0 => rfl
  | x + 1 => by
    show lS (fun i => Nn Ln (0 + i)) x + Nn Ln (0 + x) = lT Ln 0 x + Nn Ln (0 + x)
    rw [lS_lT x]
theorem pi_txt (A : PI h h1 p n w L C T) (B : AtI h1 h2 p n w (lS L n) 0 k tn k false W Ln Lt) (hcl : ∀ i, i < k → (if i + 1 < k then (if W (0 + i) = W (0 + (i + 1)) then nI 0 else nI 1) else (if false = true then nI 0 else nI 1)) = (nI (K i) : Int32)) (hlt : ∀ i, i < k → ∀ l, l < Nn Ln (0 + i) → Lt (12 * (0 + i) + l) = nI (U i l)) : PI h h2 p (n + k) (w + tn) (apF L n (fun i => Nn Ln (0 + i)) k) (apF C n K k) (apF T n U k) := by
  obtain ⟨a1, a2, a3, a4, a5, a6, a7, a8⟩ := A
  obtain ⟨b1, b2, b3, b4, b5, b6, b7, b8, b9, b10, b11⟩ := B
  have eP : gP h1 = gP h := a1.2.2.1
  rw [eP] at b5 b6 b7 b8 b9 b10 b11
  have pd : ∀ y, PD h1 p y → PD h p y := fun y hy => by
    unfold PD at hy ⊢
    rw [eP] at hy
    exact hy
  refine ⟨a1.trans (b1.mono pd), fun j j5 j6 => (b2 j j5 j6).trans (a2 j j5 j6), b8, b3, b4, fun x hx => ?_, fun x hx => ?_, fun x hx l hl => ?_⟩
  · by_cases z : x ≤ n
    · rw [b5 x z, a6 x z]
      exact congrArg nI (lS_c x (fun y hy => by unfold apF; rw [if_neg (by omega)]))
    · obtain ⟨y, rfl⟩ : ∃ y, x = n + y := ⟨x - n, by omega⟩
      rw [b9 y (by omega), lS_ap y (by omega), lS_lT]
  · unfold apF
    by_cases z : x < n
    · rw [if_neg (by omega), b6 x z]
      exact a7 x z
    · obtain ⟨y, rfl⟩ : ∃ y, x = n + y := ⟨x - n, by omega⟩
      rw [if_pos (by omega), Nat.add_sub_cancel_left, b10 y (by omega)]
      exact hcl y (by omega)
  · by_cases z : x < n
    · have e : apF L n (fun i => Nn Ln (0 + i)) k x = L x := by unfold apF; rw [if_neg (by omega)]
      have e2 : apF T n U k x = T x := by unfold apF; rw [if_neg (by omega)]
      have e3 : lS (apF L n (fun i => Nn Ln (0 + i)) k) x = lS L x := lS_c x (fun y hy => by unfold apF; rw [if_neg (by omega)])
      rw [e] at hl
      have := lS_x (L := L) z
      rw [e2, e3, b7 _ (by omega)]
      exact a8 x z l hl
    · obtain ⟨y, rfl⟩ : ∃ y, x = n + y := ⟨x - n, by omega⟩
      have e : apF L n (fun i => Nn Ln (0 + i)) k (n + y) = Nn Ln (0 + y) := by
        unfold apF
        rw [if_pos (by omega), Nat.add_sub_cancel_left]
      have e2 : apF T n U k (n + y) = U y := by
        unfold apF
        rw [if_pos (by omega), Nat.add_sub_cancel_left]
      rw [e] at hl
      rw [e2, lS_ap y (by omega), lS_lT, b11 y (by omega) l hl]
      exact hlt y (by omega) l hl
/-- an empty part -/
theorem pi_0 (S : PtS h p) (e5 : gI h p 5 = nI 0) (e6 : gI h p 6 = nI 0) : PI h h p 0 0 L C T := by
  obtain ⟨-, -, -, -, -, -, s7, -, -, s10⟩ := S
  refine ⟨Fr.rfl, fun _ _ _ => rfl, s10, e5, e6, fun x hx => ?_, fun x hx => by omega, fun x hx => by omega⟩
  have : x = 0 := by omega
  subst this
  exact s7
end
