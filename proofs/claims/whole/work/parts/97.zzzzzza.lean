/-! correct: a part that is set, the class -/
theorem gg_bind {α β : Type} {c : Prop} [Decidable c] {x : Option α} {K : α → Option β} : Option.bind (gg c x) K = gg c (Option.bind x K) := by
  unfold gg
  by_cases z : c
  · rw [if_pos z, if_pos z]
  · rw [if_neg z, if_neg z]
    rfl
section
variable {tg : Nat → List Nat} {h h1 g : Hp} {m k t M1 : Nat → Int32} {i n fl : Int32} {p q f w l cc op : Nat}
theorem cwR_eq {fr : Nat} : cwR g p cc q op fr = gg (kd g 13 = 4) (Option.bind (Option.bind (MX5_takeLines g 13 p) (fun (h23 : Hp) => gg (kd h23 19 = 6) <| gg (kd h23 (gP h23 19 14) = 0) <| MX0_putLines h23 (gP h23 19 14) 13 (nI op) (nI fr))) (fun (h27 : Hp) => gg (kd h27 19 = 6) <| b2 (MX7_countSame h27 19 p 13 (nI op)) fun (t31 : Int32) (h30 : Hp) => gg (kd h30 19 = 6) <| Option.bind (MX7_movePlaces h30 19 p 13 (nI op) t31) fun (h34 : Hp) => gg (kd h34 p = 4) <| Option.bind (MX5_takeCopy h34 p 13) fun (h37 : Hp) => gg (kd h37 p = 4) <| Option.bind (MX5_takeLines h37 p 13) fun (h40 : Hp) => gg (kd h40 p = 4) <| if ((gI h40 p 9) - t31) ≤ nI op then MX7_correctWith_152 h40 (nI op) ((gI h40 p 9) - t31) else gg (kd h40 cc = 3) <| Option.bind (MX4_addJob h40 cc (nI q) (nI op) ((gI h40 p 9) - t31) (nI 1)) fun (h45 : Hp) => MX7_correctWith_152 h45 (nI op) ((gI h40 p 9) - t31))) := by
  unfold cwR
  congr 1
  cases e : MX5_takeLines g 13 p with
  | none => rfl
  | some x =>
    rw [ob_some, ob_some, gg_bind, gg_bind]
theorem cor_s (C : CSt tg h m k i t n fl) (vq : vP m q) (hp : p = gP h (gP h 19 5) q) (p0 : p ≠ 0) (M : CM1 m M1 q f) (u3 : m (130 + 645 * q + 3) = nI 1) (jq : jQ m q = false) (F : Ft tg (cT q) h g) (Sg : RmS g 19) (Vg : RmV g 19 m) (P13 : PtS g 13) (PX : PtX g 13 M1 q) (O : Own tg g) (X : XS g) (X2 : XS2 g) {ww : Int32} (hf : MX5_firstBit g p ww = some (nI f)) (Op : OPn m q f op) : (wyT M1 q (m 0) (bgN m q op) = none → ∃ h1, MX7_correctWith g 19 (nI q) ww 13 cc = some (-nI 1, h1) ∧ Fr (fun b => b ≠ 0 ∧ ([5] <:+ tg b ∨ [4] <:+ tg b)) h h1 ∧ RmS h1 19 ∧ RmV h1 19 m ∧ PtS h1 13) ∧ ∀ v : Nat × Nat × Nat, wyT M1 q (m 0) (bgN m q op) = some v → ∀ M2 nl sn, M2 = clM M1 q op v.2.1 (lnB M1 q (m 0) (bgN m q op)) → nl = op + v.2.1 → sn = fsB (tEq m M2 q (Nn m (130 + 645 * q + 4)) nl) (min (Nn m (130 + 645 * q + 4)) nl - op) 0 → ∃ h1, MX7_correctWith g 19 (nI q) ww 13 cc = (if nI (nl - sn) ≤ nI op then some (nI (nl - sn) - nI op, h1) else gg (kd h1 cc = 3) <| Option.bind (MX4_addJob h1 cc (nI q) (nI op) (nI (nl - sn)) (nI 1)) fun (h45 : Hp) => some (nI (nl - sn) - nI op, h45)) ∧ Fr (fun b => b ≠ 0 ∧ ([5] <:+ tg b ∨ [4] <:+ tg b)) h h1 ∧ RmS h1 19 ∧ RmV h1 19 (laM m M2 q op (Nn m (130 + 645 * q + 4)) nl sn (Nn m (130 + 645 * q + 4))) ∧ PtS h1 13 ∧ MI (laM m M2 q op (Nn m (130 + 645 * q + 4)) nl sn (Nn m (130 + 645 * q + 4))) ∧ sn ≤ nl - op ∧ op ≤ nl ∧ nl ≤ 40 ∧ M2 (130 + 645 * q + 3) = nI 1 ∧ M2 (130 + 645 * q + 4) = nI nl ∧ ∀ y, (y < 130 + 645 * q + 1 ∨ 130 + 645 * q + 645 ≤ y ∨ y = 130 + 645 * q + 2 ∨ y = 130 + 645 * q + 3) → M2 y = m y := by
  have K := C.rt
  have I := C.2.2.2.2.2.2.2.1
  obtain ⟨H0, Ha, I1, Z1, C1, fn, fP⟩ := M
  have q1 := vq.1
  have J := I.2.1 q vq
  obtain ⟨e4, l40⟩ := J.2.2.2.2.2.1.eq (by omega)
  have eP : gP g = gP h := F.gp
  have hpg : p = gP g (gP g 19 5) q := by rw [eP]; exact hp
  have Kg : Rt tg g 19 5 := K.fr F
  obtain ⟨tp, p3, t13, N13, pd, np, nq, n2, tq, -, -⟩ := sp_nm O X X2 Sg hpg p0
  have vq1 : vP M1 q := vq.b (fun x hx => H0 x (by omega) (by omega))
  obtain ⟨gb1, gb2, gb3⟩ := op_bg J u3 Op
  obtain ⟨z2, A2, k2, b6, bk, b12, e12⟩ := cw_a (cc := cc) O X X2 Kg Sg Vg I vq u3 hpg p0 I1 C1 PX H0 hf fn fP Op
  have F0 : Fr (fun b => b ≠ 0 ∧ ([5] <:+ tg b ∨ [4] <:+ tg b)) h g := Fr.mono F (fun y hy => ⟨hy.1, cT_sf hy.2⟩)
  have F2 : Fr (fun b => b ≠ 0 ∧ ([5] <:+ tg b ∨ [4] <:+ tg b)) g z2 := Fr.mono A2.1 (fun y hy => ⟨hy.1, Or.inl hy.2.sf⟩)
  have eP2 : gP z2 = gP g := A2.1.gp
  have z13 : ∀ j, j ≤ 4 → gP g 13 j ≠ 0 := fun j hj => by
    obtain ⟨-, s2, s3, s4, s5, s6, -⟩ := P13
    rcases (show j = 0 ∨ j = 1 ∨ j = 2 ∨ j = 3 ∨ j = 4 by omega) with rfl | rfl | rfl | rfl | rfl
    · exact s2.1
    · exact s3.1
    · exact s4.1
    · exact s5.1
    · exact s6.1
  have s13 : sm g z2 13 := A2.1.same (by rw [t13]; simp [scT])
  have s13j : ∀ j, j ≤ 4 → sm g z2 (gP g 13 j) := fun j hj => A2.1.same (by rw [tgc O (z13 j hj) (by omega), t13]; simp [scT])
  have P132 : PtS z2 13 := P13.cg s13 s13j
  have PX2 : PtX z2 13 M1 q := PtX.cg PX s13 s13j
  have S2 := A2.rs Kg Sg
  have V2 := A2.rv Kg Vg
  have K2 := A2.rt Kg
  have O2 := O.fr F2
  have X2' := X.fr F2
  have XS22 := X2.sp O X F2 (fun y hy => hy) P132
  have hp2 : p = gP z2 (gP z2 19 5) q := by rw [eP2]; exact hpg
  refine ⟨fun hn => ?_, fun v hv M2 nl sn hM2 hnl hsn => ?_⟩
  · rw [hn, if_pos (show enL none = -nI 1 from rfl)] at k2
    exact ⟨z2, k2, F0.trans F2, S2, V2, P132⟩
  · obtain ⟨b1, h40, P2, Q2, bg⟩ := cl_ok I vq u3 fn Op I1 C1 H0 Ha fP hv
    rw [← hM2] at P2 Q2 bg
    rw [hv, if_neg (show ¬ enL (some v) = -nI 1 by show ¬ nI v.2.1 = -nI 1; rw [nM6 (by omega)]; exact id), cwR_eq, gg_t P132.1] at k2
    obtain ⟨c1, c2, c3, c4⟩ := cl_v (M := M1) (q := q) (c := lnB M1 q (m 0) (bgN m q op)) h40
    rw [← hM2] at c1 c2 c3 c4
    rw [← hnl] at c2 h40
    have hM : ∀ y, (y < 130 + 645 * q + 1 ∨ 130 + 645 * q + 645 ≤ y ∨ y = 130 + 645 * q + 2 ∨ y = 130 + 645 * q + 3) → M2 y = m y := fun y hy => by rw [c4 y (by omega), H0 y (by omega) (by omega)]
    have e3 : M2 (130 + 645 * q + 3) = nI 1 := (hM _ (by omega)).trans u3
    obtain ⟨g4, k4, F4, S4, V4, P134, PX4, c9, cc3, cc4⟩ := cw_b O2 X2' XS22 K2 S2 V2 I vq u3 hp2 p0 I1 C1 PX2 H0 Ha fn fP Op hv (by rw [eP2]; exact b6) (by rw [eP2]; exact bk) (by rw [eP2]; exact b12) (fun i v h1 h2 h3 => by rw [eP2]; exact e12 i v h1 h2 h3) hM2 hnl
    have F4' : Fr (fun b => b ≠ 0 ∧ ([5] <:+ tg b ∨ [4] <:+ tg b)) z2 g4 := F4.mono (fun y hy => ⟨hy.1, by
      rcases hy.2 with u | ⟨j, u⟩
      · rw [u]; exact Or.inr (List.suffix_refl _)
      · rw [u]; exact Or.inr (List.suffix_append [j] [4])⟩)
    have eP4 : gP g4 = gP z2 := F4'.2.2.1
    have K4 := K2.fr F4'
    have XS24 := XS22.sp O2 X2' F4' (fun y hy => hy) P134
    obtain ⟨g9, k9, kp, p9, F9, S9, V9, P139, MI9, sl⟩ := cw_c (O2.fr F4') (X2'.fr F4') XS24 K4 S4 V4 I vq u3 (by rw [eP4]; exact hp2) p0 PX4 c9 (fun j hj => by rw [eP4]; exact cc3 j hj) (fun j hj => by rw [eP4]; exact cc4 j hj) P2 Q2 e3 c2 (by omega) hM (fun l hl => by rw [(c3 l hl).2, H0 _ (by omega) (by omega)]) (fun l h1 h2 => by
      have := (c1 (l - op) (by omega)).2
      rwa [show op + (l - op) = l by omega] at this) (jQ_f I jq) rfl Op.1 (by omega) hsn rfl (fun t31 h40 => gg (kd h40 p = 4) <| if ((gI h40 p 9) - t31) ≤ nI op then MX7_correctWith_152 h40 (nI op) ((gI h40 p 9) - t31) else gg (kd h40 cc = 3) <| Option.bind (MX4_addJob h40 cc (nI q) (nI op) ((gI h40 p 9) - t31) (nI 1)) fun (h45 : Hp) => MX7_correctWith_152 h45 (nI op) ((gI h40 p 9) - t31))
    refine ⟨g9, ?_, ((F0.trans F2).trans F4').trans F9, S9, V9, P139, MI9, sl, by omega, by omega, e3, c2, hM⟩
    rw [k2, k4, ob_some, k9, gg_t kp, p9, nSub (by omega)]
    rfl
end
