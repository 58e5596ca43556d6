/-! plans: the reference tries all orders -/
def QX (b b' : Nat) (C : Nat → Prop) : Prop := (b' ≠ 0 → b' = b ∨ ∃ c, C c ∧ b' = c + 1) ∧ (b ≠ 0 → b' ≠ 0 ∧ b' ≤ b) ∧ ∀ c, C c → b' ≠ 0 ∧ b' ≤ c + 1
theorem QX.z {b : Nat} {C : Nat → Prop} (h : ∀ c, ¬ C c) : QX b b C := ⟨fun _ => Or.inl rfl, fun h => ⟨h, Nat.le_refl _⟩, fun c hc => absurd hc (h c)⟩
theorem QX.tr {b b1 b2 : Nat} {C1 C2 C : Nat → Prop} (h1 : QX b b1 C1) (h2 : QX b1 b2 C2) (hC : ∀ c, C c ↔ (C1 c ∨ C2 c)) : QX b b2 C := by
  obtain ⟨x1, x2, x3⟩ := h1
  obtain ⟨y1, y2, y3⟩ := h2
  refine ⟨fun h => ?_, fun h => ?_, fun c hc => ?_⟩
  · rcases y1 h with e | ⟨c, hc, e⟩
    · rw [e] at h ⊢
      rcases x1 h with e2 | ⟨c, hc, e2⟩
      · exact Or.inl e2
      · exact Or.inr ⟨c, (hC c).mpr (Or.inl hc), e2⟩
    · exact Or.inr ⟨c, (hC c).mpr (Or.inr hc), e⟩
  · obtain ⟨a1, a2⟩ := x2 h
    obtain ⟨a3, a4⟩ := y2 a1
    exact ⟨a3, by omega⟩
  · rcases (hC c).mp hc with h | h
    · obtain ⟨a1, a2⟩ := x3 c h
      obtain ⟨a3, a4⟩ := y2 a1
      exact ⟨a3, by omega⟩
    · exact y3 c h
theorem QX.c {b b' : Nat} {C D : Nat → Prop} (h : QX b b' C) (hC : ∀ c, D c ↔ C c) : QX b b' D := by
  have e : D = C := funext fun c => propext (hC c)
  rw [e]
  exact h
def bW (b : Nat) : Int32 := if b = 0 then -nI 1 else nI (b - 1)
/-- what is still to be placed -/
def rmS (n q : Nat) : St := fun j => decide (j < n) && !sB q j
section
variable {L D : Nat → Nat} {bk : Nat → Bool} {xs ys : Nat → Nat} {n q i k d : Nat}
theorem rm_t : (rmS n q i = true) = (i < n ∧ btN q i = 0) := by
  unfold rmS
  rw [Bool.and_eq_true, decide_eq_true_iff, Bool.not_eq_true', sB_n]
theorem rm_f (hn : n ≤ 5) {j : Nat} (hj : 5 ≤ j) : rmS n q j = false := by
  unfold rmS
  rw [decide_eq_false (by omega)]
  rfl
theorem rm_u (hq : q < 32) (hn : n ≤ 5) (hi : i < n) (hb : btN q i = 0) : upB (rmS n q) i false = rmS n (q + 2 ^ i) := by
  funext j
  have e := sB_t hq (show i < 5 by omega) hb
  unfold rmS
  rw [e]
  by_cases z : j = i
  · rw [z, upB_i, upB_i]
    cases decide (i < n) <;> rfl
  · rw [upB_n z, upB_n z]
theorem rm_0 (hn : n ≤ 5) : rmS n 0 = sB (2 ^ n - 1) := by
  have K : ∀ n, n < 6 → 2 ^ n - 1 < 32 ∧ ∀ j, j < 5 → (btN (2 ^ n - 1) j = 1 ↔ j < n) := by decide +kernel
  obtain ⟨k1, k2⟩ := K n (by omega)
  refine (sB_x (r := 0) k1 (fun j hj => rm_f hn hj) (fun j hj => ?_)).symm
  rw [k2 j hj, rm_t]
  have : btN 0 j = 0 := by unfold btN; rw [Nat.zero_div]
  exact ⟨fun h => ⟨h, this⟩, fun h => h.1⟩
theorem sz_0 {s : St} (h : szB s = 0) (h5 : ∀ j, 5 ≤ j → s j = false) : s = eS0 := by
  have h : (if s 0 = true then 1 else 0) + (if s 1 = true then 1 else 0) + (if s 2 = true then 1 else 0) + (if s 3 = true then 1 else 0) + (if s 4 = true then 1 else 0) = 0 := h
  have K : ∀ j, (if s j = true then 1 else 0) = 0 → s j = false := fun j hj => by
    cases y : s j with
    | false => rfl
    | true => rw [y, if_pos rfl] at hj; exact absurd hj (by decide)
  funext j
  show s j = false
  by_cases z : j < 5
  · have : j = 0 ∨ j = 1 ∨ j = 2 ∨ j = 3 ∨ j = 4 := by omega
    rcases this with rfl | rfl | rfl | rfl | rfl
    · exact K 0 (by omega)
    · exact K 1 (by omega)
    · exact K 2 (by omega)
    · exact K 3 (by omega)
    · exact K 4 (by omega)
  · exact h5 j (by omega)
/-- costs where part i goes to machine k next -/
def CPk (L D : Nat → Nat) (bk : Nat → Bool) (K n q : Nat) (ys : Nat → Nat) (late d i k c : Nat) : Prop := btN q i = 0 ∧ bk k = false ∧ ∃ c', RfB L D bk K d (upN ys k (ys k + L i)) (rmS n (q + 2 ^ i)) c' ∧ c = late + (ys k + L i - D i) + c'
theorem cp_rf {K late c : Nat} (hq : q < 32) (hn : n ≤ 5) : (∃ c', RfB L D bk K (d + 1) ys (rmS n q) c' ∧ c = late + c') ↔ ∃ i, i < n ∧ ∃ k, k < K ∧ CPk L D bk K n q ys late d i k c := by
  constructor
  · rintro ⟨c', ⟨i, i5, si, k, hk, hb, c1, h1, rfl⟩, rfl⟩
    obtain ⟨s1, s2⟩ := rm_t.mp si
    rw [rm_u hq hn s1 s2] at h1
    exact ⟨i, s1, k, hk, s2, hb, c1, h1, by omega⟩
  · rintro ⟨i, hi, k, hk, s2, hb, c1, h1, rfl⟩
    rw [← rm_u hq hn hi s2] at h1
    exact ⟨_, ⟨i, by omega, rm_t.mpr ⟨hi, s2⟩, k, hk, hb, c1, h1, rfl⟩, by omega⟩
end
section
variable {h h' h1 g g1 : Hp} {m kk t : Nat → Int32} {ii nn f : Int32} {k j q r x n : Nat}
theorem bW_e {b : Nat} (hb : b ≤ 100000) : (bW b = -nI 1) ↔ b = 0 := by
  unfold bW
  by_cases z : b = 0
  · rw [if_pos z]; exact ⟨fun _ => z, fun _ => rfl⟩
  · rw [if_neg z, nM6 (by omega)]
    exact ⟨fun e => e.elim, fun e => z e⟩
/-- what the placing stands on -/
def RY (h : Hp) (m : Nat → Int32) : Prop := RS h ∧ gI h 74 = m ∧ RP h m (plc m 100)
theorem r_plc (I : MI m) : ∀ d u q cnt ys late b h, d < u → cnt + d = pnN m → q < 32 → szB (rmS (pnN m) q) = d → RY h m → (∀ k, k < Nn m 3 → gI h 108 k = nI (ys k) ∧ ys k ≤ 1800 + 40 * cnt) → late ≤ 4000 * cnt → gI h 73 57 = bW b → b ≤ 100000 → ∃ h' b', RX12_place u 0 h 73 (nI q) (nI cnt) (nI late) = some h' ∧ Fr (fun y => y = 73 ∨ y = 108) h h' ∧ (∀ j, j ≠ 57 → gI h' 73 j = gI h 73 j) ∧ (∀ k, k < Nn m 3 → gI h' 108 k = nI (ys k)) ∧ gI h' 73 57 = bW b' ∧ b' ≤ 100000 ∧ QX b b' (fun c => ∃ c', RfB (pL m) (pD m) (pB m) (Nn m 3) d ys (rmS (pnN m) q) c' ∧ c = late + c') := by
  obtain ⟨pn5, pL4, pL0, pD6⟩ := p_bd I
  have f3 := I.1.f.2.2.2.1
  obtain ⟨-, pbv⟩ := plc_b m 100
  intro d
  induction d with
  | zero =>
    intro u q cnt ys late b h hu hc hq hs Y hl hla hb hb1
    obtain ⟨u, rfl⟩ : ∃ v, u = v + 1 := ⟨u - 1, by omega⟩
    have hcn : cnt = pnN m := by omega
    have R := Y.1
    have es := sz_0 hs (fun j hj => rm_f pn5 hj)
    by_cases w : b ≠ 0 ∧ b ≤ late + 1
    · refine ⟨h, b, ?_, Fr.rfl, fun _ _ => rfl, fun k hk => (hl k hk).1, hb, hb1, fun _ => Or.inl rfl, fun e => ⟨e, Nat.le_refl _⟩, fun c hc => ?_⟩
      · show BX12_place (RX12_place u) h 73 (nI q) (nI cnt) (nI late) = _
        unfold BX12_place
        simp only [ZL]
        rw [gg_t (RS.f R).1, hb, if_neg (fun e => w.1 ((bW_e hb1).mp e))]
        unfold bW
        rw [if_neg w.1, if_neg (nI_nlt (by omega) (by omega))]
      · obtain ⟨c', -, rfl⟩ := hc
        exact ⟨w.1, by omega⟩
    · obtain ⟨g, hg⟩ : ∃ g, g = sI h 73 57 (nI late) := ⟨_, rfl⟩
      have e17 : MX12_place_17 (RX12_place u) h 73 (nI q) (nI cnt) (nI late) = some g := by
        unfold MX12_place_17
        rw [gg_t (RS.f R).1, Y.2.2.1, if_pos (by rw [hcn]; rfl), lt_eq, ← hg]
      refine ⟨g, late + 1, ?_, by rw [hg]; exact Fr.sI (Or.inl rfl), fun j hj => by rw [hg, gI2, if_neg (fun e => hj e.2)], fun k hk => by rw [hg, gI_sI, if_neg (by omega)]; exact (hl k hk).1, by rw [hg, gI2, if_pos ⟨rfl, rfl⟩]; rfl, by omega, fun _ => Or.inr ⟨late, ⟨0, by rw [es]; exact ⟨rfl, rfl⟩, by omega⟩, rfl⟩, fun e => ⟨by omega, by omega⟩, fun c hc => ?_⟩
      · show BX12_place (RX12_place u) h 73 (nI q) (nI cnt) (nI late) = _
        unfold BX12_place
        simp only [ZL]
        rw [gg_t (RS.f R).1, hb, e17]
        by_cases z : b = 0
        · rw [if_pos ((bW_e hb1).mpr z)]
        · rw [if_neg (fun e => z ((bW_e hb1).mp e))]
          unfold bW
          rw [if_neg z, if_pos (nI_lt (by omega) (by omega))]
      · obtain ⟨c', hc', rfl⟩ := hc
        exact ⟨by omega, by omega⟩
  | succ d ih =>
    intro u q cnt ys late b h hu hc hq hs Y hl hla hb hb1
    obtain ⟨u, rfl⟩ : ∃ v, u = v + 1 := ⟨u - 1, by omega⟩
    have R := Y.1
    by_cases w : b ≠ 0 ∧ b ≤ late + 1
    · refine ⟨h, b, ?_, Fr.rfl, fun _ _ => rfl, fun k hk => (hl k hk).1, hb, hb1, fun _ => Or.inl rfl, fun e => ⟨e, Nat.le_refl _⟩, fun c hc => ?_⟩
      · show BX12_place (RX12_place u) h 73 (nI q) (nI cnt) (nI late) = _
        unfold BX12_place
        simp only [ZL]
        rw [gg_t (RS.f R).1, hb, if_neg (fun e => w.1 ((bW_e hb1).mp e))]
        unfold bW
        rw [if_neg w.1, if_neg (nI_nlt (by omega) (by omega))]
      · obtain ⟨c', -, rfl⟩ := hc
        exact ⟨w.1, by omega⟩
    · -- a state on the way
      have yk : ∀ g, Fr (fun y => y = 73 ∨ y = 108) h g → (∀ j, j ≠ 57 → gI g 73 j = gI h 73 j) → RY g m := fun g F F2 => ⟨R.fr F, by rw [F.2.2.2.2.2.2 74 (by omega)]; exact Y.2.1, by rw [F2 56 (by omega)]; exact Y.2.2.1, fun i hi => by rw [F.2.2.2.2.2.2 106 (by omega), F.2.2.2.2.2.2 107 (by omega)]; exact Y.2.2.2 i hi⟩
      -- one part on all machines
      have inner : ∀ i g bi, i < pnN m → btN q i = 0 → Fr (fun y => y = 73 ∨ y = 108) h g → (∀ j, j ≠ 57 → gI g 73 j = gI h 73 j) → (∀ k, k < Nn m 3 → gI g 108 k = nI (ys k)) → gI g 73 57 = bW bi → bi ≤ 100000 → ∃ g1 b1, MX12_place_59 (RX12_place u) g 73 (nI q) (nI cnt) (nI late) (nI i) (nI 0) = some (.inl (nI (i + 1), g1)) ∧ Fr (fun y => y = 73 ∨ y = 108) h g1 ∧ (∀ j, j ≠ 57 → gI g1 73 j = gI h 73 j) ∧ (∀ k, k < Nn m 3 → gI g1 108 k = nI (ys k)) ∧ gI g1 73 57 = bW b1 ∧ b1 ≤ 100000 ∧ QX bi b1 (fun c => ∃ k, k < Nn m 3 ∧ CPk (pL m) (pD m) (pB m) (Nn m 3) (pnN m) q ys late d i k c) := fun i g bi hi hbi G1 G2 G3 G4 G5 => by
        obtain ⟨t8a, t8b, t8c⟩ := T8a q hq i (by omega) hbi
        have Lb := pL4 i
        have Db := pD6 i
        have vq := pbv i hi
        have vq0 := vq.1
        have dv : m (90 + pqN m i / 5) = nI (pD m i) := by
          unfold pD
          rw [if_pos hi]
          exact ((I.1.2.2.2.2.2.2.2.2.2 _ vq.2.1).2.1.eq (by omega)).1
        have szn : szB (rmS (pnN m) (q + 2 ^ i)) = d := by
          have e1 := bsB_f (L := fun _ => 1) (s := rmS (pnN m) q) (i := i) (by omega) (rm_t.mpr ⟨hi, hbi⟩)
          rw [rm_u hq pn5 hi hbi] at e1
          unfold szB at hs ⊢
          omega
        have pq100 : pqN m i < 100 := vq0
        have lp : ∃ z, it (fun y : Int32 × Hp => BX12_place_59 (RX12_place u) y.2 73 (nI q) (nI cnt) (nI late) (nI i) y.1) (nI 0, g) = some z ∧ ∃ g1 b1, z = .inl (nI (i + 1), g1) ∧ Fr (fun y => y = 73 ∨ y = 108) h g1 ∧ (∀ j, j ≠ 57 → gI g1 73 j = gI h 73 j) ∧ (∀ k, k < Nn m 3 → gI g1 108 k = nI (ys k)) ∧ gI g1 73 57 = bW b1 ∧ b1 ≤ 100000 ∧ QX bi b1 (fun c => ∃ k, k < Nn m 3 ∧ CPk (pL m) (pD m) (pB m) (Nn m 3) (pnN m) q ys late d i k c) := by
          refine it_cnt (fun j y => y.1 = nI j ∧ Fr (fun y => y = 73 ∨ y = 108) h y.2 ∧ (∀ l, l ≠ 57 → gI y.2 73 l = gI h 73 l) ∧ (∀ k, k < Nn m 3 → gI y.2 108 k = nI (ys k)) ∧ ∃ b1, gI y.2 73 57 = bW b1 ∧ b1 ≤ 100000 ∧ QX bi b1 (fun c => ∃ k, k < j ∧ CPk (pL m) (pD m) (pB m) (Nn m 3) (pnN m) q ys late d i k c)) (Nn m 3) (fun k y hk pp => ?_) (fun y pp => ?_) ⟨rfl, G1, G2, G3, bi, G4, G5, QX.z (fun c hc => by obtain ⟨k, hk, -⟩ := hc; omega)⟩
          · obtain ⟨a1, e⟩ := y
            obtain ⟨p1, p2, p3, p4, b1, p5, p6, p7⟩ := pp
            replace p1 : a1 = nI k := p1
            replace p2 : Fr (fun y => y = 73 ∨ y = 108) h e := p2
            replace p3 : ∀ l, l ≠ 57 → gI e 73 l = gI h 73 l := p3
            replace p4 : ∀ k, k < Nn m 3 → gI e 108 k = nI (ys k) := p4
            replace p5 : gI e 73 57 = bW b1 := p5
            subst p1
            have Ye := yk e p2 p3
            have Re := Ye.1
            obtain ⟨x28, hx28, e28⟩ := (I.2.2.2.1 k hk).2.2.1
            have yb := (hl k hk).2
            have sub1 : ∀ c, (∃ k', k' < k + 1 ∧ CPk (pL m) (pD m) (pB m) (Nn m 3) (pnN m) q ys late d i k' c) ↔ ((∃ k', k' < k ∧ CPk (pL m) (pD m) (pB m) (Nn m 3) (pnN m) q ys late d i k' c) ∨ CPk (pL m) (pD m) (pB m) (Nn m 3) (pnN m) q ys late d i k c) := fun c => by
              constructor
              · rintro ⟨k', h1, h2⟩
                by_cases z : k' = k
                · rw [z] at h2; exact Or.inr h2
                · exact Or.inl ⟨k', by omega, h2⟩
              · rintro (⟨k', h1, h2⟩ | h2)
                · exact ⟨k', by omega, h2⟩
                · exact ⟨k, by omega, h2⟩
            by_cases bz : m (320230 + 183 * k + 28) = nI 1
            · have pb : pB m k = true := dB_t (by rw [bz]; decide)
              refine ⟨(nI (k + 1), e), ?_, rfl, p2, p3, p4, b1, p5, p6, p7.c (fun c => (sub1 c).trans ⟨fun h => h.elim id (fun h => absurd h.2.1 (by rw [pb]; decide)), Or.inl⟩)⟩
              show BX12_place_59 (RX12_place u) e 73 (nI q) (nI cnt) (nI late) (nI i) (nI k) = _
              unfold BX12_place_59
              simp only [ZL]
              rw [gg_t (RS.f Re).1]
              simp only [RS.f Re]
              rw [gg_T, gg_in (by omega) (by omega), nCl (by omega), Ye.2.1, f3.1, if_neg (nI_ge hk (by omega)), r_machine0, ob_some, nAdd, gg_in (by omega) (by omega), nCl (by omega), if_pos bz, nAdd]
            · have e0 : m (320230 + 183 * k + 28) = nI 0 := by
                have : x28 = 0 ∨ x28 = 1 := by omega
                rcases this with z | z
                · rw [e28, z]
                · exact absurd (by rw [e28, z]) bz
              have pb : pB m k = false := dB_f (fun z => z e0)
              obtain ⟨e1, he1⟩ : ∃ e1, e1 = sI e 108 k (nI (ys k + pL m i)) := ⟨_, rfl⟩
              have F1 : Fr (fun y => y = 73 ∨ y = 108) e e1 := by rw [he1]; exact Fr.sI (Or.inr rfl)
              have k73 : gI e1 73 = gI e 73 := by rw [he1, gI_sI, if_neg (by omega)]
              have Y1 := yk e1 (p2.trans F1) (fun j hj => by rw [k73]; exact p3 j hj)
              have R1 := Y1.1
              obtain ⟨e2, b2, u1, u2, u3, u4, u5, u6, u7⟩ := ih u (q + 2 ^ i) (cnt + 1) (upN ys k (ys k + pL m i)) (late + (ys k + pL m i - pD m i)) b1 e1 (by omega) (by omega) t8b szn Y1 (fun k' hk' => by
                rw [he1, gI_sI, if_pos rfl, up_at]
                unfold upN
                by_cases z : k' = k
                · rw [if_pos z, if_pos z]; exact ⟨rfl, by omega⟩
                · rw [if_neg z, if_neg z]
                  have := (hl k' hk').2
                  exact ⟨p4 k' hk', by omega⟩) (by omega) (by rw [k73]; exact p5) p6
              have Y2 := yk e2 ((p2.trans F1).trans u2) (fun j hj => by rw [u3 j hj, k73]; exact p3 j hj)
              have R2 := Y2.1
              have l107 : ∀ z, RY z m → gI z 107 i = nI (pL m i) := fun z Yz => by
                rw [(Yz.2.2.2 i hi).2]
                unfold pL
                rw [if_pos hi]
                rfl
              have v108 : gI e2 108 k = nI (ys k + pL m i) := by
                rw [u4 k hk]
                unfold upN
                rw [if_pos rfl]
              obtain ⟨e3, he3⟩ : ∃ e3, e3 = sI e2 108 k (nI (ys k)) := ⟨_, rfl⟩
              have F3 : Fr (fun y => y = 73 ∨ y = 108) e2 e3 := by rw [he3]; exact Fr.sI (Or.inr rfl)
              have k733 : gI e3 73 = gI e2 73 := by rw [he3, gI_sI, if_neg (by omega)]
              have t156 : ∀ s4 : Int32, nI late + s4 = nI (late + (ys k + pL m i - pD m i)) → MX12_place_156 (RX12_place u) e1 73 (nI q) (nI cnt) (nI late) (nI i) (nI k) 73 (nI q ||| (nI 1 <<< (nI i &&& nI 31))) (nI cnt + nI 1) (nI late) s4 = some (.inl (nI (k + 1), e3)) := fun s4 hs4 => by
                unfold MX12_place_156
                simp only [ZL]
                rw [gg_t (RS.f R1).1, t8a, nAdd, hs4, u1, ob_some, gg_t (RS.f R2).1]
                simp only [RS.f R2]
                rw [gg_T, gg_in (by omega) (by omega), gg_T, gg_in (by omega) (by omega), nCl (by omega), nCl (by omega), v108, l107 e2 Y2, nSub (by omega), Nat.add_sub_cancel, lt_eq, ← he3, nAdd]
              refine ⟨(nI (k + 1), e3), ?_, rfl, ((p2.trans F1).trans u2).trans F3, fun j hj => by show gI e3 73 j = _; rw [k733, u3 j hj, k73]; exact p3 j hj, fun k' hk' => ?_, b2, by show gI e3 73 57 = _; rw [k733]; exact u5, u6, p7.tr u7 (fun c => (sub1 c).trans ⟨fun h => h.elim Or.inl (fun ⟨_, _, c', h1, h2⟩ => Or.inr ⟨c', h1, h2⟩), fun h => h.elim Or.inl (fun ⟨c', h1, h2⟩ => Or.inr ⟨hbi, pb, c', h1, h2⟩)⟩)⟩
              · show BX12_place_59 (RX12_place u) e 73 (nI q) (nI cnt) (nI late) (nI i) (nI k) = _
                have g106 : gI e1 106 i = nI (pqN m i) := (Y1.2.2.2 i hi).1
                have g108 : gI e1 108 k = nI (ys k + pL m i) := by rw [he1, gI_sI, if_pos rfl, up_at, if_pos rfl]
                unfold BX12_place_59
                simp only [ZL]
                rw [gg_t (RS.f Re).1]
                simp only [RS.f Re]
                rw [gg_T, gg_in (by omega) (by omega), nCl (by omega), Ye.2.1, f3.1, if_neg (nI_ge hk (by omega)), r_machine0, ob_some, nAdd, gg_in (by omega) (by omega), nCl (by omega), if_neg bz, gg_T, gg_in (by omega) (by omega), gg_T, gg_in (by omega) (by omega), nCl (by omega), nCl (by omega), p4 k hk, l107 e Ye, nAdd, lt_eq, ← he1, gg_T, gg_in (by omega) (by omega), g106, nDiv (by omega) (by omega) (by omega), nAdd, gg_in (by omega) (by omega), nCl (by omega), g108, Y1.2.1, dv, lt_eq]
                by_cases z : ys k + pL m i ≤ pD m i
                · have le0 : nI (ys k + pL m i) - nI (pD m i) ≤ nI 0 := by
                    by_cases z2 : ys k + pL m i = pD m i
                    · rw [z2, nSub (Nat.le_refl _), Nat.sub_self]
                      exact nI_le (Nat.le_refl _) (by omega)
                    · exact Int32.le_of_lt (pk_sneg (by omega) (by omega))
                  rw [if_pos le0]
                  exact t156 (nI 0) (by rw [nAdd, show ys k + pL m i - pD m i = 0 by omega])
                · rw [nSub (by omega), if_neg (nI_ge (by omega) (by omega))]
                  exact t156 _ (nAdd _ _)
              · show gI e3 108 k' = _
                rw [he3, gI_sI, if_pos rfl, up_at]
                by_cases z : k' = k
                · rw [if_pos z, z]
                · rw [if_neg z, u4 k' hk']
                  unfold upN
                  rw [if_neg z]
          · obtain ⟨a1, e⟩ := y
            obtain ⟨p1, p2, p3, p4, b1, p5, p6, p7⟩ := pp
            replace p1 : a1 = nI (Nn m 3) := p1
            replace p2 : Fr (fun y => y = 73 ∨ y = 108) h e := p2
            replace p3 : ∀ l, l ≠ 57 → gI e 73 l = gI h 73 l := p3
            subst p1
            have Ye := yk e p2 p3
            have Re := Ye.1
            refine ⟨.inl (nI (i + 1), e), ?_, e, b1, rfl, p2, p3, p4, p5, p6, p7⟩
            show BX12_place_59 (RX12_place u) e 73 (nI q) (nI cnt) (nI late) (nI i) (nI (Nn m 3)) = _
            unfold BX12_place_59
            simp only [ZL]
            rw [gg_t (RS.f Re).1]
            simp only [RS.f Re]
            rw [gg_T, gg_in (by omega) (by omega), nCl (by omega), Ye.2.1, f3.1, if_pos (nI_le (Nat.le_refl _) (by omega)), nAdd]
        obtain ⟨z, y1, g1, b1, y2, y3⟩ := lp
        refine ⟨g1, b1, ?_, y3⟩
        unfold MX12_place_59
        rw [y1, y2]
      -- all parts
      have lp : ∃ z, it (fun y : Int32 × Hp => BX12_place_34 (RX12_place u) y.2 73 (nI q) (nI cnt) (nI late) y.1) (nI 0, h) = some z ∧ Fr (fun y => y = 73 ∨ y = 108) h z ∧ (∀ j, j ≠ 57 → gI z 73 j = gI h 73 j) ∧ (∀ k, k < Nn m 3 → gI z 108 k = nI (ys k)) ∧ ∃ b', gI z 73 57 = bW b' ∧ b' ≤ 100000 ∧ QX b b' (fun c => ∃ i, i < pnN m ∧ ∃ k, k < Nn m 3 ∧ CPk (pL m) (pD m) (pB m) (Nn m 3) (pnN m) q ys late d i k c) := by
        refine it_cnt (fun i y => y.1 = nI i ∧ Fr (fun y => y = 73 ∨ y = 108) h y.2 ∧ (∀ l, l ≠ 57 → gI y.2 73 l = gI h 73 l) ∧ (∀ k, k < Nn m 3 → gI y.2 108 k = nI (ys k)) ∧ ∃ b1, gI y.2 73 57 = bW b1 ∧ b1 ≤ 100000 ∧ QX b b1 (fun c => ∃ i', i' < i ∧ ∃ k, k < Nn m 3 ∧ CPk (pL m) (pD m) (pB m) (Nn m 3) (pnN m) q ys late d i' k c)) (pnN m) (fun i y hi pp => ?_) (fun y pp => ?_) ⟨rfl, Fr.rfl, fun _ _ => rfl, fun k hk => (hl k hk).1, b, hb, hb1, QX.z (fun c hc => by obtain ⟨k, hk, -⟩ := hc; omega)⟩
        · obtain ⟨a1, e⟩ := y
          obtain ⟨p1, p2, p3, p4, b1, p5, p6, p7⟩ := pp
          replace p1 : a1 = nI i := p1
          replace p2 : Fr (fun y => y = 73 ∨ y = 108) h e := p2
          replace p3 : ∀ l, l ≠ 57 → gI e 73 l = gI h 73 l := p3
          replace p4 : ∀ k, k < Nn m 3 → gI e 108 k = nI (ys k) := p4
          replace p5 : gI e 73 57 = bW b1 := p5
          subst p1
          have Ye := yk e p2 p3
          have Re := Ye.1
          have sub1 : ∀ c, (∃ i', i' < i + 1 ∧ ∃ k, k < Nn m 3 ∧ CPk (pL m) (pD m) (pB m) (Nn m 3) (pnN m) q ys late d i' k c) ↔ ((∃ i', i' < i ∧ ∃ k, k < Nn m 3 ∧ CPk (pL m) (pD m) (pB m) (Nn m 3) (pnN m) q ys late d i' k c) ∨ ∃ k, k < Nn m 3 ∧ CPk (pL m) (pD m) (pB m) (Nn m 3) (pnN m) q ys late d i k c) := fun c => by
            constructor
            · rintro ⟨k', h1, h2⟩
              by_cases z : k' = i
              · rw [z] at h2; exact Or.inr h2
              · exact Or.inl ⟨k', by omega, h2⟩
            · rintro (⟨k', h1, h2⟩ | h2)
              · exact ⟨k', by omega, h2⟩
              · exact ⟨i, by omega, h2⟩
          have bl := bt_lt q i
          by_cases bz : btN q i = 1
          · refine ⟨(nI (i + 1), e), ?_, rfl, p2, p3, p4, b1, p5, p6, p7.c (fun c => (sub1 c).trans ⟨fun h => h.elim id (fun ⟨k, _, h⟩ => by have := h.1; omega), Or.inl⟩)⟩
            show BX12_place_34 (RX12_place u) e 73 (nI q) (nI cnt) (nI late) (nI i) = _
            unfold BX12_place_34
            simp only [ZL]
            rw [gg_t (RS.f Re).1, Ye.2.2.1, show (plc m 100).1 = pnN m from rfl, if_neg (nI_ge hi (by omega)), if_pos (by rw [bt_1 (by omega) (by omega)]; exact bz), nAdd]
          · obtain ⟨e1, b2, v1, v2, v3, v4, v5, v6, v7⟩ := inner i e b1 hi (by omega) p2 p3 p4 p5 p6
            refine ⟨(nI (i + 1), e1), ?_, rfl, v2, v3, v4, b2, v5, v6, p7.tr v7 sub1⟩
            show BX12_place_34 (RX12_place u) e 73 (nI q) (nI cnt) (nI late) (nI i) = _
            unfold BX12_place_34
            simp only [ZL]
            rw [gg_t (RS.f Re).1, Ye.2.2.1, show (plc m 100).1 = pnN m from rfl, if_neg (nI_ge hi (by omega)), if_neg (by rw [bt_1 (by omega) (by omega)]; exact bz), v1]
        · obtain ⟨a1, e⟩ := y
          obtain ⟨p1, p2, p3, p4, b1, p5, p6, p7⟩ := pp
          replace p1 : a1 = nI (pnN m) := p1
          replace p2 : Fr (fun y => y = 73 ∨ y = 108) h e := p2
          replace p3 : ∀ l, l ≠ 57 → gI e 73 l = gI h 73 l := p3
          subst p1
          have Ye := yk e p2 p3
          have Re := Ye.1
          refine ⟨e, ?_, p2, p3, p4, b1, p5, p6, p7⟩
          show BX12_place_34 (RX12_place u) e 73 (nI q) (nI cnt) (nI late) (nI (pnN m)) = _
          unfold BX12_place_34
          rw [gg_t (RS.f Re).1, Ye.2.2.1, show (plc m 100).1 = pnN m from rfl, if_pos (nI_le (Nat.le_refl _) (by omega))]
      obtain ⟨z, z1, z2, z3, z4, b', z5, z6, z7⟩ := lp
      refine ⟨z, b', ?_, z2, z3, z4, z5, z6, z7.c (fun c => cp_rf hq pn5)⟩
      have e17 : MX12_place_17 (RX12_place u) h 73 (nI q) (nI cnt) (nI late) = some z := by
        unfold MX12_place_17 MX12_place_34
        simp only [ZL]
        rw [gg_t (RS.f R).1, Y.2.2.1, show (plc m 100).1 = pnN m from rfl, if_neg (by rw [nEq (by omega) (by omega)]; omega)]
        exact z1
      show BX12_place (RX12_place u) h 73 (nI q) (nI cnt) (nI late) = _
      unfold BX12_place
      simp only [ZL]
      rw [gg_t (RS.f R).1, hb, e17]
      by_cases z : b = 0
      · rw [if_pos ((bW_e hb1).mpr z)]
      · rw [if_neg (fun e => z ((bW_e hb1).mp e))]
        unfold bW
        rw [if_neg z, if_pos (nI_lt (by omega) (by omega))]
end
