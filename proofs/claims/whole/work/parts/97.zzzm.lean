section
variable {tg : Nat → List Nat} {h : Hp} {m k t : Nat → Int32} {i n f : Int32}
theorem p_lock (C : CSt tg h m k i t n f) (R : RSt h m k i t n f) (h9 : 109 ≤ sz h) (v w : Int32) : Pr (cm [1, 2, 5]) Gm h (MX11_lock h 1 v w) (fun h' => MX12_lock h' 73 v w) := by
  obtain ⟨O, Y, -, S, V, Dk, DV, I, -⟩ := id C
  obtain ⟨FXh, AXh, hD, HRh⟩ := fit_x C
  obtain ⟨c1, c2⟩ := c_findFit C (v := v) (w := w)
  have hc : ∀ E, MX11_findFit h 1 v w = some (.inr E, bmp h 1 6) → MX11_lock h 1 v w = some (.inr E, bmp h 1 6) := fun E e => by
    unfold MX11_lock
    rw [gg_t Y.1, e, bT_thr]
  have hr : ∀ h' (q : Nat), q < 2147483648 → 1 ≤ q → RSt h' m k i t n f → MX12_notFit h' 73 v w = some (nI q) → MX12_lock h' 73 v w = some (nI 0, sI h' 73 0 (nI q)) := fun h' q hq q1 R' e => by
    unfold MX12_lock
    simp only [ZL]
    rw [gg_t (RS.f R'.1).1, e, ob_some, lt_eq, th_get, if_neg (nI_ge q1 hq)]
  by_cases ok : ∃ p a, okF m v w p a
  · obtain ⟨p, a, ok⟩ := ok
    obtain ⟨d1, d2⟩ := c2 p a ok
    have a31 : a < 2147483648 := by
      have hp2 : 2 ^ Nn m 1 ≤ 2 ^ 20 := Nat.pow_le_pow_right (by omega) I.1.f.2.1.2
      have := ok.2.2.1
      omega
    by_cases z : fN m a < 1 ∨ 4 < fN m a
    · exact Pr.gm (Pr.thr C R 2 2 rfl (by omega) (by omega) (hc 2 (d1 z)) fun h' R' => ⟨nI 0, hr h' 2 (by omega) (by omega) R' (by rw [r_nfB R'.1 R'.2.1 I ok, if_pos z])⟩)
    · obtain ⟨e1, e2⟩ := d2 z
      by_cases H : ∀ s, s < Nn m 1 → stB m a s = true
      · obtain ⟨h1, y1, y2, y3⟩ := e2 H
        have hp := ok.1
        have hN4 : fN m a ≤ 4 := by omega
        have AL := alS_of I H
        have X1 := FXh.fr y2
        have C1 : CSt tg h1 m k i t n f := C.ft y2 hD (Or.inl rfl)
        obtain ⟨O1, Y1, -, S1, V1, -⟩ := id C1
        -- the reference up to the rightness
        have rr : ∀ h', RSt h' m k i t n f → ∃ h2, MX12_lock h' 73 v w = MX12_lock_38 h2 73 v (if (fitB m p a).1 = 0 then nI 0 else nI 1) ∧ Fr Rc h' h2 ∧ RSt h2 m k i t n f ∧ gI h2 73 0 = nI 0 ∧ RFt h2 m p a := fun h' R' => by
          obtain ⟨h2, q1, q2, q3, q4, q5⟩ := r_fit0 R' I ok z
          refine ⟨h2, ?_, q2, q3, q4, q5⟩
          obtain ⟨-, rfl, -, rfl⟩ := id ok
          unfold MX12_lock
          simp only [ZL]
          rw [gg_t (RS.f R'.1).1, r_nfB R'.1 R'.2.1 I ok, if_neg z, (r_nfC R'.1 R'.2.1 I a31).1 H, ob_some, lt_eq, th_get, if_pos (by decide), q1, ob_some, gg_t (RS.f q3.1).1, q5.1.1]
          unfold bV
          by_cases y : (fitB m p a).1 = 0
          · rw [if_pos y, if_pos rfl, if_pos y]
          · rw [if_neg y, if_neg (by rw [nM6 (by have := q5.1.2.1; omega)]; exact id), if_neg y]
        have head : MX11_lock h 1 v w = if bV (fitB m p a) = -nI 1 then some (.inl (-nI 1), h1) else b2 (MX3_allRight h1 59 19) fun (t10 : Int32) (h9 : Hp) => if t10 = nI 0 then some (.inl (-nI 1), h9) else gg (kd h9 1 = 10) <| gg (kd h9 (gP h9 1 6) = 1) <| b2 (MX2_emptyRow h9 (gP h9 1 6) v) fun (t16 : Int32) (h15 : Hp) => MX11_lock_45 h15 1 v t16 (nI 0) := by
          unfold MX11_lock
          simp only [ZL]
          rw [gg_t Y.1, y1, bT_some, gg_t Y1.1, X7 Y1, gg_t X1.1, y3.1.1, X5 Y1]
        by_cases b0 : (fitB m p a).1 = 0
        · refine Pr.gm (Pr.ft (x := 7) C R (-nI 1) ?_ y2 hD (Or.inl rfl) fun h' R' => ?_)
          · rw [head]
            unfold bV
            rw [if_pos b0, if_pos rfl]
          · obtain ⟨h2, q1, q2, q3, q4, q5⟩ := rr h' R'
            refine ⟨h2, ?_, q2, q3, q4⟩
            rw [q1, if_pos b0]
            unfold MX12_lock_38 MX12_lock_42
            simp only [ZL]
            refine it_done ?_
            show BX12_lock_42 h2 73 v (nI 0) (nI 0) = _
            unfold BX12_lock_42 MX12_lock_143
            simp only [ZL]
            rw [gg_t (RS.f q3.1).1, q5.2.1, if_neg (nI_ge (by omega) (by omega)), if_pos trivial, if_pos trivial, up1_some]
        · have nb : ¬ bV (fitB m p a) = -nI 1 := by
            unfold bV
            rw [if_neg b0, nM6 (by have := y3.1.2.1; omega)]
            exact id
          obtain ⟨g, a1, a2⟩ := c_allR O1 Y1 S1 V1 I X1 y3 hp hN4 AL b0
          have C9 : CSt tg g m k i t n f := C1.sc a2
          have F9 : Fr (fun _ => True) h g := (y2.mono (fun _ _ => trivial)).trans (Fr.mono (show Fr (fun b => b ≠ 0 ∧ scT 5 (tg b)) h1 g from a2.1) (fun _ _ => trivial))
          have mu9 := mu_fr F9
          have rp9 : Rp h g := (y2.rp (fun b d => nr O R.1 (x := 7) (by omega) (by omega) (hD b d).2)).tr (a2.rp O1 (R.rp (y2.rp (fun b d => nr O R.1 (x := 7) (by omega) (by omega) (hD b d).2))))
          -- the reference's rightness
          have r42 : ∀ h', RSt h' m k i t n f → ∃ h2, MX12_lock h' 73 v w = MX12_lock_143 h2 73 v (bI (rtA m a (fitB m p a))) ∧ Fr Rc h' h2 ∧ RSt h2 m k i t n f ∧ gI h2 73 0 = nI 0 ∧ RFt h2 m p a := fun h' R' => by
            obtain ⟨h2, q1, q2, q3, q4, q5⟩ := rr h' R'
            obtain ⟨h3, u1, u2⟩ := r_l42 I hN4 AL b0 v (fN m a) 0 h2 (Nat.zero_add _) q3.1 q3.2.1 q5 true
            refine ⟨h3, ?_, q2.trans u2.rk.fr, u2.rk.st q3, by rw [u2.2 0 (by omega)]; exact q4, rf_w q5 u2⟩
            rw [q1, if_neg b0]
            unfold MX12_lock_38 MX12_lock_42
            simp only [ZL]
            have e : (true && dB (∀ l, 0 ≤ l → l < fN m a → rtS m a (fitB m p a) l = true)) = rtA m a (fitB m p a) := by
              rw [Bool.true_and]
              exact dB_c ⟨fun H l hl => H l (Nat.zero_le _) hl, fun H l _ hl => H l hl⟩
            rw [e] at u1
            exact u1
          cases hA : rtA m a (fitB m p a) with
          | false =>
            refine ⟨.inl (-nI 1), g, tg, m, k, i, t, n, f, ?_, C9, rp9, ⟨by omega, by rw [F9.2.2.2.1]; exact Nat.le_refl _⟩, fun h' o => ?_⟩
            · rw [head, if_neg nb, a1, b2_some, hA, if_pos (show bI false = nI 0 from rfl)]
            · obtain ⟨h2, q1, q2, q3, q4, q5⟩ := r42 h' ((R.rp rp9).ou o)
              refine ⟨-nI 1, h2, ?_, q2, q3, q4, rfl⟩
              show MX12_lock h' 73 v w = _
              rw [q1, hA]
              unfold MX12_lock_143
              simp only [ZL]
              rw [if_pos (show bI false = nI 0 from rfl)]
          | true =>
            obtain ⟨O9, Y9, -, S9, V9, D9, E9, -⟩ := id C9
            obtain ⟨X9, K9⟩ := cf_sc O1 Y1 X1 y3 a2
            have h99 : 109 ≤ sz g := by rw [F9.2.2.2.1]; exact h9
            have B : LB tg g (gP h 59) m p a := ⟨O9, Y9, h99, S9, V9, D9, X9, K9⟩
            obtain ⟨g1, k1, L1⟩ := c_empty B hp
            obtain ⟨tg2, g2, L2, k2⟩ := c_l45r B E9 I hp hN4 AL b0 L1
            obtain ⟨q1, q2⟩ := fit_q m p a b0
            have lW : (pgL m a (fitB m p a) 3).length ≤ 180 := by
              have pl := pgL_len (m := m) (a := a) (b := fitB m p a) q2 3
              have := (pg_b I hp).2.2.2
              omega
            obtain ⟨g3, k3, L3, E3⟩ := c_l126 B E9 I hp lW L2
            have ev := ok.2.1
            have hX : MX11_lock h 1 v w = some (.inl (nI (pgL m a (fitB m p a) 3).length), g3) := by
              rw [head, if_neg nb, a1, b2_some, hA, if_neg (show ¬ bI true = nI 0 by decide), gg_t Y9.1, X6 Y9, gg_t D9.1, ev, k1, b2_some, k2, k3]
            obtain ⟨t1, t2, t3, t4, t5, t13, t19, t48, t59, t68⟩ := tgs O9 Y9
            have s19 := rx_sm3 L3.1 (⟨O9, t3, t19, by omega, by omega⟩ : Rt tg g 19 5) (by omega) (by omega : ¬ 5 = 6)
            have C' : CSt tg2 g3 (lkM m p (pgL m a (fitB m p a) 3)) k i t n f := C9.rx h99 L3.1 (fun y hy => Or.inr (Or.inl hy)) (S9.congr s19) ((V9.congr s19).mc (fun x hx => lkM_o lW (by unfold rgRm at hx; omega)) I) L3.2.2.1 E3 (lk_mi I hp lW) (rx_img L3.1 O9 Y9 h99 (by omega) (by omega) C9.2.2.2.2.2.2.2.2.2.1) (rx_tr L3.1 O9 Y9 h99 (by omega) C9.2.2.2.2.2.2.2.2.2.2)
            have rp := rp9.tr (L3.1.rp O9 (R.rp rp9).1 h99 (fun y hy => Or.inr (Or.inl hy)))
            have mud := mu_dk L3.1 O9 Y9 h99 (fun y hy => hy) L3.2.1
            refine ⟨.inl (nI (pgL m a (fitB m p a) 3).length), g3, tg2, lkM m p (pgL m a (fitB m p a) 3), k, i, t, n, f, hX, C', rp, ⟨by omega, by have := L3.1.2.1; have e := F9.2.2.2.1; omega⟩, fun h' o => ?_⟩
            obtain ⟨h2, u1, u2, u3, u4, u5⟩ := r42 h' ((R.rp rp).ou o)
            obtain ⟨h3, v1, v2, v3⟩ := r_l165 u3 I hp u5 hN4 b0
            have o3 : ∀ b, b ≠ 74 → gI h3 b = gI h2 b := fun b hb => v2.2.2.2.2.2.2 b hb
            obtain ⟨r0, r1, r2, r3, r4, r5, r6⟩ := u3
            refine ⟨nI (pgL m a (fitB m p a) 3).length, h3, ?_, u2.trans (v2.mono (fun x hx => by unfold Rc; omega)), ⟨r0.fr v2, v3, by rw [o3 75 (by omega)]; exact r2, by rw [o3 73 (by omega)]; exact r3, by rw [o3 77 (by omega)]; exact r4, by rw [o3 73 (by omega)]; exact r5, by rw [o3 73 (by omega)]; exact r6⟩, by rw [o3 73 (by omega)]; exact u4, rfl⟩
            show MX12_lock h' 73 v w = _
            rw [u1, hA, ev]
            exact v1
      · exact Pr.gm (Pr.thr C R 5 3 rfl (by omega) (by omega) (hc 5 (e1 H)) fun h' R' => ⟨nI 0, hr h' 3 (by omega) (by omega) R' (by
          obtain ⟨-, rfl, -, rfl⟩ := id ok
          rw [r_nfB R'.1 R'.2.1 I ok, if_neg z, (r_nfC R'.1 R'.2.1 I a31).2 H])⟩)
  · exact Pr.gm (Pr.thr C R 1 1 rfl (by omega) (by omega) (hc 1 (c1 ok)) fun h' R' => ⟨nI 0, hr h' 1 (by omega) (by omega) R' (r_nfA R'.1 R'.2.1 I ok)⟩)
end
