noncomputable def MX12_correct_703 (h : Hp) (v0 : Nat) (v1 : Int32) (v3 : Int32) (v7 : Int32) (v11 : Int32) (v12 : Int32) : Option (Int32 × Hp) :=
  if ((v11 - v7) - v12) ≤ 0 then
    some (((v11 - v7) - v12), h)
  else
    gg (β := (Int32 × Hp)) (kd h v0 = 11) <|
    b2 (α := Int32) (β := Hp) (γ := (Int32 × Hp)) (MX12_queues h v0 v3 v1 v7 (v7 + ((v11 - v7) - v12)) (1 : Int32) (0 : Int32)) fun (t91 : Int32) (h90 : Hp) =>
    some (((v11 - v7) - v12), h90)
set_option maxRecDepth 100000 in
set_option maxHeartbeats 8000000 in
theorem kX12_correct_703 {d : Nat} {h : Hp} {v0 : Nat} {v1 : Int32} {v3 : Int32} {v7 : Int32} {v11 : Int32} {v12 : Int32} {r : Int32} {h9 : Hp} (H : MX12_correct_703 h v0 v1 v3 v7 v11 v12 = some (r, h9)) : J (d + 5) YX12_correct 703 [.ref v0, .int v1, Value.null, .int v3, Value.null, Value.null, Value.null, .int v7, Value.null, Value.null, Value.null, .int v11, .int v12, Value.null] [] h (oI r) h9 := by
  unfold MX12_correct_703 at H
  refine J_iload dX12_correct_703 rfl ?_
  refine J_iload dX12_correct_705 rfl ?_
  refine J_isub dX12_correct_707 ?_
  refine J_iload dX12_correct_708 rfl ?_
  refine J_isub dX12_correct_710 ?_
  refine J_istore dX12_correct_711 (by decide) (ls' := [.ref v0, .int v1, Value.null, .int v3, Value.null, Value.null, Value.null, .int v7, Value.null, Value.null, Value.null, .int v11, .int v12, .int ((v11 - v7) - v12)]) rfl ?_
  refine J_iload dX12_correct_713 rfl ?_
  refine J_if_le 734 dX12_correct_715 rfl (fun q87 => ?_) (fun q87 => ?_)
  · replace H := br1 q87 H
    refine J_iload dX12_correct_734 rfl ?_
    cases H
    exact J_iretI dX12_correct_736 rfl
  · replace H := br0 q87 H
    refine J_aload_n 0 dX12_correct_718 rfl rfl ?_
    refine J_iload_n 3 dX12_correct_719 rfl rfl ?_
    refine J_iload_n 1 dX12_correct_720 rfl rfl ?_
    refine J_iload dX12_correct_721 rfl ?_
    refine J_iload dX12_correct_723 rfl ?_
    refine J_iload dX12_correct_725 rfl ?_
    refine J_iadd dX12_correct_727 ?_
    refine J_iconst (1 : Int32) dX12_correct_728 kc_1 ?_
    refine J_iconst (0 : Int32) dX12_correct_729 kc_0 ?_
    obtain ⟨g89, H⟩ := gd H
    obtain ⟨t91, h90, e88, H⟩ := b2_el H
    refine J_cV (as := [.int v3, .int v1, .int v7, .int (v7 + ((v11 - v7) - v12)), .int (1 : Int32), .int (0 : Int32)]) 11 YX12_queues 6 dX12_correct_730 moX12_queues mvX12_queues mlX12_369 g89 rfl rfl (okX12_queues (d := d + 3) e88) rfl rfl [] rfl rfl (st2 := [.int t91]) rfl ?_
    refine J_pop dX12_correct_733 rfl ?_
    refine J_iload dX12_correct_734 rfl ?_
    cases H
    exact J_iretI dX12_correct_736 rfl
noncomputable def BX12_correct_632 (h : Hp) (v0 : Nat) (v1 : Int32) (v3 : Int32) (v7 : Int32) (v8 : Int32) (v11 : Int32) (v12 : Int32) (v13 : Int32) : Option ((Int32 × Hp) ⊕ (Int32 × Hp)) :=
  if v8 ≤ v13 then
    up1 (MX12_correct_703 h v0 v1 v3 v7 v11 v12)
  else
    gg (β := ((Int32 × Hp) ⊕ (Int32 × Hp))) (kd h v0 = 11) <|
    gg (β := ((Int32 × Hp) ⊕ (Int32 × Hp))) (kd h (gP h v0 40) = 20) <|
    gg (β := ((Int32 × Hp) ⊕ (Int32 × Hp))) (inB v13 (ln h (gP h v0 40)) = true) <|
    if (gI h (gP h v0 40) v13.toNatClampNeg) = (-1 : Int32) then
      some (.inl ((v13 + (1 : Int32)), h))
    else
      if v13 < (v8 - v12) then
        Option.bind (α := Hp) (β := ((Int32 × Hp) ⊕ (Int32 × Hp))) (MX12_pots h v0 (gI h (gP h v0 40) v13.toNatClampNeg)) fun (h98 : Hp) =>
        some (.inl ((v13 + (1 : Int32)), h98))
      else
        Option.bind (α := Hp) (β := ((Int32 × Hp) ⊕ (Int32 × Hp))) (MX12_puts h v0 (gI h (gP h v0 40) v13.toNatClampNeg) v1 ((v13 - v8) + v11)) fun (h100 : Hp) =>
        some (.inl ((v13 + (1 : Int32)), h100))
set_option maxRecDepth 100000 in
set_option maxHeartbeats 8000000 in
theorem bX12_correct_632 {d : Nat} {h : Hp} {v0 : Nat} {v1 : Int32} {v3 : Int32} {v7 : Int32} {v8 : Int32} {v11 : Int32} {v12 : Int32} {v13 : Int32} {r : Int32} {h9 : Hp} {x : ((Int32 × Hp) ⊕ (Int32 × Hp))} (H : BX12_correct_632 h v0 v1 v3 v7 v8 v11 v12 v13 = some x) (hb0 : ∀ s : Int32 × Hp, x = .inl s → J (d + 5) YX12_correct 632 [.ref v0, .int v1, Value.null, .int v3, Value.null, Value.null, Value.null, .int v7, .int v8, Value.null, Value.null, .int v11, .int v12, .int s.1] [] s.2 (oI r) h9) (hx : ∀ z : (Int32 × Hp), x = .inr (z) → z = (r, h9)) : J (d + 5) YX12_correct 632 [.ref v0, .int v1, Value.null, .int v3, Value.null, Value.null, Value.null, .int v7, .int v8, Value.null, Value.null, .int v11, .int v12, .int v13] [] h (oI r) h9 := by
  unfold BX12_correct_632 at H
  refine J_iload dX12_correct_632 rfl ?_
  refine J_iload dX12_correct_634 rfl ?_
  refine J_icmp_ge 703 dX12_correct_636 rfl (fun q86 => ?_) (fun q86 => ?_)
  · replace H := br1 q86 H
    obtain ⟨y0, H90, rfl⟩ := up1_el H
    replace H := H90
    obtain rfl := hx _ rfl
    exact J_dr (kX12_correct_703 H ) ⟨rfl, ⟨rfl, ⟨rfl, ⟨rfl, ⟨rfl, ⟨rfl, trivial⟩⟩⟩⟩⟩⟩
  · replace H := br0 q86 H
    refine J_aload_n 0 dX12_correct_639 rfl rfl ?_
    obtain ⟨g92, H⟩ := gd H
    refine J_gP 11 40 dX12_correct_640 g92 flX12_79 rfl rfl ?_
    refine J_iload dX12_correct_643 rfl ?_
    obtain ⟨g93, H⟩ := gd H
    obtain ⟨g94, H⟩ := gd H
    refine J_iald dX12_correct_645 g93 (inB_ok g94) ?_
    refine J_iconst (-1 : Int32) dX12_correct_646 kc_m1 ?_
    refine J_icmp_ne 653 dX12_correct_647 rfl (fun q95 => ?_) (fun q95 => ?_)
    · replace H := br0 q95 H
      refine J_iload dX12_correct_653 rfl ?_
      refine J_iload dX12_correct_655 rfl ?_
      refine J_iload dX12_correct_657 rfl ?_
      refine J_isub dX12_correct_659 ?_
      refine J_icmp_lt 686 dX12_correct_660 rfl (fun q96 => ?_) (fun q96 => ?_)
      · replace H := br1 q96 H
        refine J_aload_n 0 dX12_correct_686 rfl rfl ?_
        refine J_aload_n 0 dX12_correct_687 rfl rfl ?_
        refine J_gP 11 40 dX12_correct_688 g92 flX12_79 rfl rfl ?_
        refine J_iload dX12_correct_691 rfl ?_
        refine J_iald dX12_correct_693 g93 (inB_ok g94) ?_
        obtain ⟨h98, e97, H⟩ := bd H
        refine J_cV (as := [.int (gI h (gP h v0 40) v13.toNatClampNeg)]) 11 YX12_pots 1 dX12_correct_694 moX12_pots mvX12_pots mlX12_383 g92 rfl rfl (okX12_pots (d := d + 3) e97) rfl rfl [] rfl rfl (st2 := []) rfl ?_
        refine J_iinc (v13 + (1 : Int32)) dX12_correct_697 rfl (congrArg (HAdd.hAdd v13) kc_1) (by decide) (ls' := [.ref v0, .int v1, Value.null, .int v3, Value.null, Value.null, Value.null, .int v7, .int v8, Value.null, Value.null, .int v11, .int v12, .int (v13 + (1 : Int32))]) rfl ?_
        refine J_goto 632 dX12_correct_700 rfl ?_
        cases H
        exact J_dr (hb0 _ rfl) ⟨rfl, ⟨rfl, ⟨rfl, ⟨rfl, ⟨rfl, ⟨rfl, ⟨rfl, ⟨rfl, trivial⟩⟩⟩⟩⟩⟩⟩⟩
      · replace H := br0 q96 H
        refine J_aload_n 0 dX12_correct_663 rfl rfl ?_
        refine J_aload_n 0 dX12_correct_664 rfl rfl ?_
        refine J_gP 11 40 dX12_correct_665 g92 flX12_79 rfl rfl ?_
        refine J_iload dX12_correct_668 rfl ?_
        refine J_iald dX12_correct_670 g93 (inB_ok g94) ?_
        refine J_iload_n 1 dX12_correct_671 rfl rfl ?_
        refine J_iload dX12_correct_672 rfl ?_
        refine J_iload dX12_correct_674 rfl ?_
        refine J_isub dX12_correct_676 ?_
        refine J_iload dX12_correct_677 rfl ?_
        refine J_iadd dX12_correct_679 ?_
        obtain ⟨h100, e99, H⟩ := bd H
        refine J_cV (as := [.int (gI h (gP h v0 40) v13.toNatClampNeg), .int v1, .int ((v13 - v8) + v11)]) 11 YX12_puts 3 dX12_correct_680 moX12_puts mvX12_puts mlX12_386 g92 rfl rfl (okX12_puts (d := d + 3) e99) rfl rfl [] rfl rfl (st2 := []) rfl ?_
        refine J_goto 697 dX12_correct_683 rfl ?_
        refine J_iinc (v13 + (1 : Int32)) dX12_correct_697 rfl (congrArg (HAdd.hAdd v13) kc_1) (by decide) (ls' := [.ref v0, .int v1, Value.null, .int v3, Value.null, Value.null, Value.null, .int v7, .int v8, Value.null, Value.null, .int v11, .int v12, .int (v13 + (1 : Int32))]) rfl ?_
        refine J_goto 632 dX12_correct_700 rfl ?_
        cases H
        exact J_dr (hb0 _ rfl) ⟨rfl, ⟨rfl, ⟨rfl, ⟨rfl, ⟨rfl, ⟨rfl, ⟨rfl, ⟨rfl, trivial⟩⟩⟩⟩⟩⟩⟩⟩
    · replace H := br1 q95 H
      refine J_goto 697 dX12_correct_650 rfl ?_
      refine J_iinc (v13 + (1 : Int32)) dX12_correct_697 rfl (congrArg (HAdd.hAdd v13) kc_1) (by decide) (ls' := [.ref v0, .int v1, Value.null, .int v3, Value.null, Value.null, Value.null, .int v7, .int v8, Value.null, Value.null, .int v11, .int v12, .int (v13 + (1 : Int32))]) rfl ?_
      refine J_goto 632 dX12_correct_700 rfl ?_
      cases H
      exact J_dr (hb0 _ rfl) ⟨rfl, ⟨rfl, ⟨rfl, ⟨rfl, ⟨rfl, ⟨rfl, ⟨rfl, ⟨rfl, trivial⟩⟩⟩⟩⟩⟩⟩⟩
noncomputable def MX12_correct_632 (h : Hp) (v0 : Nat) (v1 : Int32) (v3 : Int32) (v7 : Int32) (v8 : Int32) (v11 : Int32) (v12 : Int32) (v13 : Int32) : Option (Int32 × Hp) := it (fun q : Int32 × Hp => BX12_correct_632 q.2 v0 v1 v3 v7 v8 v11 v12 q.1) (v13, h)
set_option maxRecDepth 100000 in
set_option maxHeartbeats 8000000 in
theorem kX12_correct_632 {d : Nat} {h : Hp} {v0 : Nat} {v1 : Int32} {v3 : Int32} {v7 : Int32} {v8 : Int32} {v11 : Int32} {v12 : Int32} {v13 : Int32} {r : Int32} {h9 : Hp} (H : MX12_correct_632 h v0 v1 v3 v7 v8 v11 v12 v13 = some (r, h9)) : J (d + 5) YX12_correct 632 [.ref v0, .int v1, Value.null, .int v3, Value.null, Value.null, Value.null, .int v7, .int v8, Value.null, Value.null, .int v11, .int v12, .int v13] [] h (oI r) h9 := by
  unfold MX12_correct_632 at H
  refine it_J (G := (fun q : Int32 × Hp => J (d + 5) YX12_correct 632 [.ref v0, .int v1, Value.null, .int v3, Value.null, Value.null, Value.null, .int v7, .int v8, Value.null, Value.null, .int v11, .int v12, .int q.1] [] q.2 (oI r) h9)) (Q := (fun y : (Int32 × Hp) => y = (r, h9))) (fun q x Hq hm => ?_) H rfl
  exact bX12_correct_632 Hq (fun s hs => by subst hs; exact hm) (fun z hz => by subst hz; exact hm)
noncomputable def MX12_correct_628 (h : Hp) (v0 : Nat) (v1 : Int32) (v3 : Int32) (v7 : Int32) (v8 : Int32) (v11 : Int32) (v12 : Int32) : Option (Int32 × Hp) :=
  MX12_correct_632 h v0 v1 v3 v7 v8 v11 v12 v7
set_option maxRecDepth 100000 in
set_option maxHeartbeats 8000000 in
theorem kX12_correct_628 {d : Nat} {h : Hp} {v0 : Nat} {v1 : Int32} {v3 : Int32} {v7 : Int32} {v8 : Int32} {v11 : Int32} {v12 : Int32} {r : Int32} {h9 : Hp} (H : MX12_correct_628 h v0 v1 v3 v7 v8 v11 v12 = some (r, h9)) : J (d + 5) YX12_correct 628 [.ref v0, .int v1, Value.null, .int v3, Value.null, Value.null, Value.null, .int v7, .int v8, Value.null, Value.null, .int v11, .int v12, Value.null] [] h (oI r) h9 := by
  unfold MX12_correct_628 at H
  refine J_iload dX12_correct_628 rfl ?_
  refine J_istore dX12_correct_630 (by decide) (ls' := [.ref v0, .int v1, Value.null, .int v3, Value.null, Value.null, Value.null, .int v7, .int v8, Value.null, Value.null, .int v11, .int v12, .int v7]) rfl ?_
  exact J_dr (kX12_correct_632 H ) ⟨rfl, ⟨rfl, ⟨rfl, ⟨rfl, ⟨rfl, ⟨rfl, ⟨rfl, ⟨rfl, trivial⟩⟩⟩⟩⟩⟩⟩⟩
noncomputable def BX12_correct_580 (h : Hp) (v0 : Nat) (v1 : Int32) (v3 : Int32) (v7 : Int32) (v8 : Int32) (v11 : Int32) (v12 : Int32) : Option ((Int32 × Hp) ⊕ (Int32 × Hp)) :=
  if (v8 - v7) ≤ v12 then
    up1 (MX12_correct_628 h v0 v1 v3 v7 v8 v11 v12)
  else
    if (v11 - v7) ≤ v12 then
      up1 (MX12_correct_628 h v0 v1 v3 v7 v8 v11 v12)
    else
      gg (β := ((Int32 × Hp) ⊕ (Int32 × Hp))) (kd h v0 = 11) <|
      b2 (α := Int32) (β := Hp) (γ := ((Int32 × Hp) ⊕ (Int32 × Hp))) (MX12_isSame h v0 v1 ((v8 - (1 : Int32)) - v12) ((v11 - (1 : Int32)) - v12)) fun (t105 : Int32) (h104 : Hp) =>
      if t105 = 0 then
        up1 (MX12_correct_628 h104 v0 v1 v3 v7 v8 v11 v12)
      else
        some (.inl ((v12 + (1 : Int32)), h104))
set_option maxRecDepth 100000 in
set_option maxHeartbeats 8000000 in
theorem bX12_correct_580 {d : Nat} {h : Hp} {v0 : Nat} {v1 : Int32} {v3 : Int32} {v7 : Int32} {v8 : Int32} {v11 : Int32} {v12 : Int32} {r : Int32} {h9 : Hp} {x : ((Int32 × Hp) ⊕ (Int32 × Hp))} (H : BX12_correct_580 h v0 v1 v3 v7 v8 v11 v12 = some x) (hb0 : ∀ s : Int32 × Hp, x = .inl s → J (d + 5) YX12_correct 580 [.ref v0, .int v1, Value.null, .int v3, Value.null, Value.null, Value.null, .int v7, .int v8, Value.null, Value.null, .int v11, .int s.1, Value.null] [] s.2 (oI r) h9) (hx : ∀ z : (Int32 × Hp), x = .inr (z) → z = (r, h9)) : J (d + 5) YX12_correct 580 [.ref v0, .int v1, Value.null, .int v3, Value.null, Value.null, Value.null, .int v7, .int v8, Value.null, Value.null, .int v11, .int v12, Value.null] [] h (oI r) h9 := by
  unfold BX12_correct_580 at H
  refine J_iload dX12_correct_580 rfl ?_
  refine J_iload dX12_correct_582 rfl ?_
  refine J_iload dX12_correct_584 rfl ?_
  refine J_isub dX12_correct_586 ?_
  refine J_icmp_ge 628 dX12_correct_587 rfl (fun q85 => ?_) (fun q85 => ?_)
  · replace H := br1 q85 H
    obtain ⟨y0, H90, rfl⟩ := up1_el H
    replace H := H90
    obtain rfl := hx _ rfl
    exact J_dr (kX12_correct_628 H ) ⟨rfl, ⟨rfl, ⟨rfl, ⟨rfl, ⟨rfl, ⟨rfl, ⟨rfl, trivial⟩⟩⟩⟩⟩⟩⟩
  · replace H := br0 q85 H
    refine J_iload dX12_correct_590 rfl ?_
    refine J_iload dX12_correct_592 rfl ?_
    refine J_iload dX12_correct_594 rfl ?_
    refine J_isub dX12_correct_596 ?_
    refine J_icmp_ge 628 dX12_correct_597 rfl (fun q101 => ?_) (fun q101 => ?_)
    · replace H := br1 q101 H
      obtain ⟨y0, H90, rfl⟩ := up1_el H
      replace H := H90
      obtain rfl := hx _ rfl
      exact J_dr (kX12_correct_628 H ) ⟨rfl, ⟨rfl, ⟨rfl, ⟨rfl, ⟨rfl, ⟨rfl, ⟨rfl, trivial⟩⟩⟩⟩⟩⟩⟩
    · replace H := br0 q101 H
      refine J_aload_n 0 dX12_correct_600 rfl rfl ?_
      refine J_iload_n 1 dX12_correct_601 rfl rfl ?_
      refine J_iload dX12_correct_602 rfl ?_
      refine J_iconst (1 : Int32) dX12_correct_604 kc_1 ?_
      refine J_isub dX12_correct_605 ?_
      refine J_iload dX12_correct_606 rfl ?_
      refine J_isub dX12_correct_608 ?_
      refine J_iload dX12_correct_609 rfl ?_
      refine J_iconst (1 : Int32) dX12_correct_611 kc_1 ?_
      refine J_isub dX12_correct_612 ?_
      refine J_iload dX12_correct_613 rfl ?_
      refine J_isub dX12_correct_615 ?_
      obtain ⟨g103, H⟩ := gd H
      obtain ⟨t105, h104, e102, H⟩ := b2_el H
      refine J_cV (as := [.int v1, .int ((v8 - (1 : Int32)) - v12), .int ((v11 - (1 : Int32)) - v12)]) 11 YX12_isSame 3 dX12_correct_616 moX12_isSame mvX12_isSame mlX12_414 g103 rfl rfl (okX12_isSame (d := d + 2) e102) rfl rfl [] rfl rfl (st2 := [.int t105]) rfl ?_
      refine J_if_eq 628 dX12_correct_619 rfl (fun q106 => ?_) (fun q106 => ?_)
      · replace H := br1 q106 H
        obtain ⟨y0, H90, rfl⟩ := up1_el H
        replace H := H90
        obtain rfl := hx _ rfl
        exact J_dr (kX12_correct_628 H ) ⟨rfl, ⟨rfl, ⟨rfl, ⟨rfl, ⟨rfl, ⟨rfl, ⟨rfl, trivial⟩⟩⟩⟩⟩⟩⟩
      · replace H := br0 q106 H
        refine J_iinc (v12 + (1 : Int32)) dX12_correct_622 rfl (congrArg (HAdd.hAdd v12) kc_1) (by decide) (ls' := [.ref v0, .int v1, Value.null, .int v3, Value.null, Value.null, Value.null, .int v7, .int v8, Value.null, Value.null, .int v11, .int (v12 + (1 : Int32)), Value.null]) rfl ?_
        refine J_goto 580 dX12_correct_625 rfl ?_
        cases H
        exact J_dr (hb0 _ rfl) ⟨rfl, ⟨rfl, ⟨rfl, ⟨rfl, ⟨rfl, ⟨rfl, ⟨rfl, trivial⟩⟩⟩⟩⟩⟩⟩
noncomputable def MX12_correct_580 (h : Hp) (v0 : Nat) (v1 : Int32) (v3 : Int32) (v7 : Int32) (v8 : Int32) (v11 : Int32) (v12 : Int32) : Option (Int32 × Hp) := it (fun q : Int32 × Hp => BX12_correct_580 q.2 v0 v1 v3 v7 v8 v11 q.1) (v12, h)
set_option maxRecDepth 100000 in
set_option maxHeartbeats 8000000 in
theorem kX12_correct_580 {d : Nat} {h : Hp} {v0 : Nat} {v1 : Int32} {v3 : Int32} {v7 : Int32} {v8 : Int32} {v11 : Int32} {v12 : Int32} {r : Int32} {h9 : Hp} (H : MX12_correct_580 h v0 v1 v3 v7 v8 v11 v12 = some (r, h9)) : J (d + 5) YX12_correct 580 [.ref v0, .int v1, Value.null, .int v3, Value.null, Value.null, Value.null, .int v7, .int v8, Value.null, Value.null, .int v11, .int v12, Value.null] [] h (oI r) h9 := by
  unfold MX12_correct_580 at H
  refine it_J (G := (fun q : Int32 × Hp => J (d + 5) YX12_correct 580 [.ref v0, .int v1, Value.null, .int v3, Value.null, Value.null, Value.null, .int v7, .int v8, Value.null, Value.null, .int v11, .int q.1, Value.null] [] q.2 (oI r) h9)) (Q := (fun y : (Int32 × Hp) => y = (r, h9))) (fun q x Hq hm => ?_) H rfl
  exact bX12_correct_580 Hq (fun s hs => by subst hs; exact hm) (fun z hz => by subst hz; exact hm)
noncomputable def MX12_correct_566 (h : Hp) (v0 : Nat) (v1 : Int32) (v3 : Int32) (v4 : Int32) (v7 : Int32) (v8 : Int32) (v11 : Int32) : Option (Int32 × Hp) :=
  gg (β := (Int32 × Hp)) (kd h v0 = 11) <|
  gg (β := (Int32 × Hp)) (kd h (gP h v0 1) = 20) <|
  gg (β := (Int32 × Hp)) (inB (v4 + (4 : Int32)) (ln h (gP h v0 1)) = true) <|
  lt (α := Hp) (β := Option (Int32 × Hp)) (sI h (gP h v0 1) (v4 + (4 : Int32)).toNatClampNeg v11) fun (h80 : Hp) =>
  MX12_correct_580 h80 v0 v1 v3 v7 v8 v11 (0 : Int32)
set_option maxRecDepth 100000 in
set_option maxHeartbeats 8000000 in
theorem kX12_correct_566 {d : Nat} {h : Hp} {v0 : Nat} {v1 : Int32} {v3 : Int32} {v4 : Int32} {v7 : Int32} {v8 : Int32} {v11 : Int32} {r : Int32} {h9 : Hp} (H : MX12_correct_566 h v0 v1 v3 v4 v7 v8 v11 = some (r, h9)) : J (d + 5) YX12_correct 566 [.ref v0, .int v1, Value.null, .int v3, .int v4, Value.null, Value.null, .int v7, .int v8, Value.null, Value.null, .int v11, Value.null, Value.null] [] h (oI r) h9 := by
  unfold MX12_correct_566 at H
  refine J_aload_n 0 dX12_correct_566 rfl rfl ?_
  obtain ⟨g77, H⟩ := gd H
  refine J_gP 11 1 dX12_correct_567 g77 flX12_8 rfl rfl ?_
  refine J_iload dX12_correct_570 rfl ?_
  refine J_iconst (4 : Int32) dX12_correct_572 kc_4 ?_
  refine J_iadd dX12_correct_573 ?_
  refine J_iload dX12_correct_574 rfl ?_
  obtain ⟨g78, H⟩ := gd H
  obtain ⟨g79, H⟩ := gd H
  obtain ⟨h80, e81, H⟩ := lt_el H
  refine J_sI dX12_correct_576 g78 (inB_ok g79) e81 ?_
  have c82 := ekI e81
  have c83 := elI e81
  have c84 := epI e81
  refine J_iconst (0 : Int32) dX12_correct_577 kc_0 ?_
  refine J_istore dX12_correct_578 (by decide) (ls' := [.ref v0, .int v1, Value.null, .int v3, .int v4, Value.null, Value.null, .int v7, .int v8, Value.null, Value.null, .int v11, .int (0 : Int32), Value.null]) rfl ?_
  exact J_dr (kX12_correct_580 H ) ⟨rfl, ⟨rfl, ⟨rfl, ⟨rfl, ⟨rfl, ⟨rfl, ⟨rfl, trivial⟩⟩⟩⟩⟩⟩⟩
noncomputable def BX12_correct_507 (h : Hp) (v0 : Nat) (v1 : Int32) (v3 : Int32) (v4 : Int32) (v7 : Int32) (v8 : Int32) (v10 : Int32) (v11 : Int32) : Option ((Int32 × Int32 × Hp) ⊕ (Int32 × Hp)) :=
  gg (β := ((Int32 × Int32 × Hp) ⊕ (Int32 × Hp))) (kd h v0 = 11) <|
  gg (β := ((Int32 × Int32 × Hp) ⊕ (Int32 × Hp))) (kd h (gP h v0 1) = 20) <|
  gg (β := ((Int32 × Int32 × Hp) ⊕ (Int32 × Hp))) (inB (v4 + (1 : Int32)) (ln h (gP h v0 1)) = true) <|
  if (gI h (gP h v0 1) (v4 + (1 : Int32)).toNatClampNeg) ≤ v10 then
    up1 (MX12_correct_566 h v0 v1 v3 v4 v7 v8 v11)
  else
    gg (β := ((Int32 × Int32 × Hp) ⊕ (Int32 × Hp))) (kd h (gP h v0 33) = 20) <|
    gg (β := ((Int32 × Int32 × Hp) ⊕ (Int32 × Hp))) (inB v10 (ln h (gP h v0 33)) = true) <|
    gg (β := ((Int32 × Int32 × Hp) ⊕ (Int32 × Hp))) (inB ((v4 + (5 : Int32)) + v11) (ln h (gP h v0 1)) = true) <|
    lt (α := Hp) (β := Option ((Int32 × Int32 × Hp) ⊕ (Int32 × Hp))) (sI h (gP h v0 1) ((v4 + (5 : Int32)) + v11).toNatClampNeg ((gI h (gP h v0 33) v10.toNatClampNeg) - (1 : Int32))) fun (h110 : Hp) =>
    gg (β := ((Int32 × Int32 × Hp) ⊕ (Int32 × Hp))) (inB ((v4 + (45 : Int32)) + v11) (ln h (gP h v0 1)) = true) <|
    lt (α := Hp) (β := Option ((Int32 × Int32 × Hp) ⊕ (Int32 × Hp))) (sI h110 (gP h v0 1) ((v4 + (45 : Int32)) + v11).toNatClampNeg (0 : Int32)) fun (h116 : Hp) =>
    some (.inl ((gI h (gP h v0 33) v10.toNatClampNeg), (v11 + (1 : Int32)), h116))
set_option maxRecDepth 100000 in
set_option maxHeartbeats 8000000 in
theorem bX12_correct_507 {d : Nat} {h : Hp} {v0 : Nat} {v1 : Int32} {v3 : Int32} {v4 : Int32} {v7 : Int32} {v8 : Int32} {v10 : Int32} {v11 : Int32} {r : Int32} {h9 : Hp} {x : ((Int32 × Int32 × Hp) ⊕ (Int32 × Hp))} (H : BX12_correct_507 h v0 v1 v3 v4 v7 v8 v10 v11 = some x) (hb0 : ∀ s : Int32 × Int32 × Hp, x = .inl s → J (d + 5) YX12_correct 507 [.ref v0, .int v1, Value.null, .int v3, .int v4, Value.null, Value.null, .int v7, .int v8, Value.null, .int s.1, .int s.2.1, Value.null, Value.null] [] s.2.2 (oI r) h9) (hx : ∀ z : (Int32 × Hp), x = .inr (z) → z = (r, h9)) : J (d + 5) YX12_correct 507 [.ref v0, .int v1, Value.null, .int v3, .int v4, Value.null, Value.null, .int v7, .int v8, Value.null, .int v10, .int v11, Value.null, Value.null] [] h (oI r) h9 := by
  unfold BX12_correct_507 at H
  refine J_iload dX12_correct_507 rfl ?_
  refine J_aload_n 0 dX12_correct_509 rfl rfl ?_
  obtain ⟨g73, H⟩ := gd H
  refine J_gP 11 1 dX12_correct_510 g73 flX12_8 rfl rfl ?_
  refine J_iload dX12_correct_513 rfl ?_
  refine J_iconst (1 : Int32) dX12_correct_515 kc_1 ?_
  refine J_iadd dX12_correct_516 ?_
  obtain ⟨g74, H⟩ := gd H
  obtain ⟨g75, H⟩ := gd H
  refine J_iald dX12_correct_517 g74 (inB_ok g75) ?_
  refine J_icmp_ge 566 dX12_correct_518 rfl (fun q76 => ?_) (fun q76 => ?_)
  · replace H := br1 q76 H
    obtain ⟨y0, H90, rfl⟩ := up1_el H
    replace H := H90
    obtain rfl := hx _ rfl
    exact J_dr (kX12_correct_566 H ) ⟨rfl, ⟨rfl, ⟨rfl, ⟨rfl, ⟨rfl, ⟨rfl, ⟨rfl, trivial⟩⟩⟩⟩⟩⟩⟩
  · replace H := br0 q76 H
    refine J_aload_n 0 dX12_correct_521 rfl rfl ?_
    refine J_gP 11 33 dX12_correct_522 g73 flX12_61 rfl rfl ?_
    refine J_iload dX12_correct_525 rfl ?_
    obtain ⟨g107, H⟩ := gd H
    obtain ⟨g108, H⟩ := gd H
    refine J_iald dX12_correct_527 g107 (inB_ok g108) ?_
    refine J_istore dX12_correct_528 (by decide) (ls' := [.ref v0, .int v1, Value.null, .int v3, .int v4, Value.null, Value.null, .int v7, .int v8, Value.null, .int (gI h (gP h v0 33) v10.toNatClampNeg), .int v11, Value.null, Value.null]) rfl ?_
    refine J_aload_n 0 dX12_correct_530 rfl rfl ?_
    refine J_gP 11 1 dX12_correct_531 g73 flX12_8 rfl rfl ?_
    refine J_iload dX12_correct_534 rfl ?_
    refine J_iconst (5 : Int32) dX12_correct_536 kc_5 ?_
    refine J_iadd dX12_correct_537 ?_
    refine J_iload dX12_correct_538 rfl ?_
    refine J_iadd dX12_correct_540 ?_
    refine J_iload dX12_correct_541 rfl ?_
    refine J_iconst (1 : Int32) dX12_correct_543 kc_1 ?_
    refine J_isub dX12_correct_544 ?_
    obtain ⟨g109, H⟩ := gd H
    obtain ⟨h110, e111, H⟩ := lt_el H
    refine J_sI dX12_correct_545 g74 (inB_ok g109) e111 ?_
    have c112 := ekI e111
    have c113 := elI e111
    have c114 := epI e111
    refine J_aload_n 0 dX12_correct_546 rfl rfl ?_
    refine J_gP 11 1 dX12_correct_547 (kq c112 g73) flX12_8 rfl (congrFun (congrFun c114 v0) 1) ?_
    refine J_iload dX12_correct_550 rfl ?_
    refine J_bipush (45 : Int32) dX12_correct_552 kb_45 ?_
    refine J_iadd dX12_correct_554 ?_
    refine J_iload dX12_correct_555 rfl ?_
    refine J_iadd dX12_correct_557 ?_
    refine J_iconst (0 : Int32) dX12_correct_558 kc_0 ?_
    obtain ⟨g115, H⟩ := gd H
    obtain ⟨h116, e117, H⟩ := lt_el H
    refine J_sI dX12_correct_559 (kq c112 g74) (lq c113 g115) e117 ?_
    have c118 := (ekI e117).trans c112
    have c119 := (elI e117).trans c113
    have c120 := (epI e117).trans c114
    refine J_iinc (v11 + (1 : Int32)) dX12_correct_560 rfl (congrArg (HAdd.hAdd v11) kc_1) (by decide) (ls' := [.ref v0, .int v1, Value.null, .int v3, .int v4, Value.null, Value.null, .int v7, .int v8, Value.null, .int (gI h (gP h v0 33) v10.toNatClampNeg), .int (v11 + (1 : Int32)), Value.null, Value.null]) rfl ?_
    refine J_goto 507 dX12_correct_563 rfl ?_
    cases H
    exact J_dr (hb0 _ rfl) ⟨rfl, ⟨rfl, ⟨rfl, ⟨rfl, ⟨rfl, ⟨rfl, ⟨rfl, ⟨rfl, trivial⟩⟩⟩⟩⟩⟩⟩⟩
noncomputable def MX12_correct_507 (h : Hp) (v0 : Nat) (v1 : Int32) (v3 : Int32) (v4 : Int32) (v7 : Int32) (v8 : Int32) (v10 : Int32) (v11 : Int32) : Option (Int32 × Hp) := it (fun q : Int32 × Int32 × Hp => BX12_correct_507 q.2.2 v0 v1 v3 v4 v7 v8 q.1 q.2.1) (v10, v11, h)
set_option maxRecDepth 100000 in
set_option maxHeartbeats 8000000 in
theorem kX12_correct_507 {d : Nat} {h : Hp} {v0 : Nat} {v1 : Int32} {v3 : Int32} {v4 : Int32} {v7 : Int32} {v8 : Int32} {v10 : Int32} {v11 : Int32} {r : Int32} {h9 : Hp} (H : MX12_correct_507 h v0 v1 v3 v4 v7 v8 v10 v11 = some (r, h9)) : J (d + 5) YX12_correct 507 [.ref v0, .int v1, Value.null, .int v3, .int v4, Value.null, Value.null, .int v7, .int v8, Value.null, .int v10, .int v11, Value.null, Value.null] [] h (oI r) h9 := by
  unfold MX12_correct_507 at H
  refine it_J (G := (fun q : Int32 × Int32 × Hp => J (d + 5) YX12_correct 507 [.ref v0, .int v1, Value.null, .int v3, .int v4, Value.null, Value.null, .int v7, .int v8, Value.null, .int q.1, .int q.2.1, Value.null, Value.null] [] q.2.2 (oI r) h9)) (Q := (fun y : (Int32 × Hp) => y = (r, h9))) (fun q x Hq hm => ?_) H rfl
  exact bX12_correct_507 Hq (fun s hs => by subst hs; exact hm) (fun z hz => by subst hz; exact hm)
noncomputable def BX12_correct_466 (h : Hp) (v0 : Nat) (v4 : Int32) (v10 : Int32) : Option ((Int32 × Hp) ⊕ (Int32 × Hp)) :=
  if (645 : Int32) ≤ v10 then
    some (.inr (((-1 : Int32), h)))
  else
    gg (β := ((Int32 × Hp) ⊕ (Int32 × Hp))) (kd h v0 = 11) <|
    gg (β := ((Int32 × Hp) ⊕ (Int32 × Hp))) (kd h (gP h v0 41) = 20) <|
    gg (β := ((Int32 × Hp) ⊕ (Int32 × Hp))) (inB v10 (ln h (gP h v0 41)) = true) <|
    gg (β := ((Int32 × Hp) ⊕ (Int32 × Hp))) (kd h (gP h v0 1) = 20) <|
    gg (β := ((Int32 × Hp) ⊕ (Int32 × Hp))) (inB (v4 + v10) (ln h (gP h v0 1)) = true) <|
    lt (α := Hp) (β := Option ((Int32 × Hp) ⊕ (Int32 × Hp))) (sI h (gP h v0 1) (v4 + v10).toNatClampNeg (gI h (gP h v0 41) v10.toNatClampNeg)) fun (h127 : Hp) =>
    some (.inl ((v10 + (1 : Int32)), h127))
set_option maxRecDepth 100000 in
set_option maxHeartbeats 8000000 in
theorem bX12_correct_466 {d : Nat} {h : Hp} {v0 : Nat} {v4 : Int32} {v10 : Int32} {r : Int32} {h9 : Hp} {x : ((Int32 × Hp) ⊕ (Int32 × Hp))} (H : BX12_correct_466 h v0 v4 v10 = some x) (hb0 : ∀ s : Int32 × Hp, x = .inl s → J (d + 5) YX12_correct 466 [.ref v0, Value.null, Value.null, Value.null, .int v4, Value.null, Value.null, Value.null, Value.null, Value.null, .int s.1, Value.null, Value.null, Value.null] [] s.2 (oI r) h9) (hx : ∀ z : (Int32 × Hp), x = .inr (z) → z = (r, h9)) : J (d + 5) YX12_correct 466 [.ref v0, Value.null, Value.null, Value.null, .int v4, Value.null, Value.null, Value.null, Value.null, Value.null, .int v10, Value.null, Value.null, Value.null] [] h (oI r) h9 := by
  unfold BX12_correct_466 at H
  refine J_iload dX12_correct_466 rfl ?_
  refine J_sipush (645 : Int32) dX12_correct_468 ks_645 ?_
  refine J_icmp_ge 497 dX12_correct_471 rfl (fun q121 => ?_) (fun q121 => ?_)
  · replace H := br1 q121 H
    refine J_iconst (-1 : Int32) dX12_correct_497 kc_m1 ?_
    cases H
    cases hx _ rfl
    exact J_iretI dX12_correct_498 rfl
  · replace H := br0 q121 H
    refine J_aload_n 0 dX12_correct_474 rfl rfl ?_
    obtain ⟨g122, H⟩ := gd H
    refine J_gP 11 1 dX12_correct_475 g122 flX12_8 rfl rfl ?_
    refine J_iload dX12_correct_478 rfl ?_
    refine J_iload dX12_correct_480 rfl ?_
    refine J_iadd dX12_correct_482 ?_
    refine J_aload_n 0 dX12_correct_483 rfl rfl ?_
    refine J_gP 11 41 dX12_correct_484 g122 flX12_82 rfl rfl ?_
    refine J_iload dX12_correct_487 rfl ?_
    obtain ⟨g123, H⟩ := gd H
    obtain ⟨g124, H⟩ := gd H
    refine J_iald dX12_correct_489 g123 (inB_ok g124) ?_
    obtain ⟨g125, H⟩ := gd H
    obtain ⟨g126, H⟩ := gd H
    obtain ⟨h127, e128, H⟩ := lt_el H
    refine J_sI dX12_correct_490 g125 (inB_ok g126) e128 ?_
    have c129 := ekI e128
    have c130 := elI e128
    have c131 := epI e128
    refine J_iinc (v10 + (1 : Int32)) dX12_correct_491 rfl (congrArg (HAdd.hAdd v10) kc_1) (by decide) (ls' := [.ref v0, Value.null, Value.null, Value.null, .int v4, Value.null, Value.null, Value.null, Value.null, Value.null, .int (v10 + (1 : Int32)), Value.null, Value.null, Value.null]) rfl ?_
    refine J_goto 466 dX12_correct_494 rfl ?_
    cases H
    exact J_dr (hb0 _ rfl) ⟨rfl, ⟨rfl, ⟨rfl, trivial⟩⟩⟩
noncomputable def MX12_correct_466 (h : Hp) (v0 : Nat) (v4 : Int32) (v10 : Int32) : Option (Int32 × Hp) := it (fun q : Int32 × Hp => BX12_correct_466 q.2 v0 v4 q.1) (v10, h)
set_option maxRecDepth 100000 in
set_option maxHeartbeats 8000000 in
theorem kX12_correct_466 {d : Nat} {h : Hp} {v0 : Nat} {v4 : Int32} {v10 : Int32} {r : Int32} {h9 : Hp} (H : MX12_correct_466 h v0 v4 v10 = some (r, h9)) : J (d + 5) YX12_correct 466 [.ref v0, Value.null, Value.null, Value.null, .int v4, Value.null, Value.null, Value.null, Value.null, Value.null, .int v10, Value.null, Value.null, Value.null] [] h (oI r) h9 := by
  unfold MX12_correct_466 at H
  refine it_J (G := (fun q : Int32 × Hp => J (d + 5) YX12_correct 466 [.ref v0, Value.null, Value.null, Value.null, .int v4, Value.null, Value.null, Value.null, Value.null, Value.null, .int q.1, Value.null, Value.null, Value.null] [] q.2 (oI r) h9)) (Q := (fun y : (Int32 × Hp) => y = (r, h9))) (fun q x Hq hm => ?_) H rfl
  exact bX12_correct_466 Hq (fun s hs => by subst hs; exact hm) (fun z hz => by subst hz; exact hm)
noncomputable def MX12_correct_430 (h : Hp) (v0 : Nat) (v1 : Int32) (v2 : Int32) (v3 : Int32) (v4 : Int32) (v5 : Int32) (v6 : Int32) (v7 : Int32) (v8 : Int32) (v9 : Int32) : Option (Int32 × Hp) :=
  gg (β := (Int32 × Hp)) (kd h v0 = 11) <|
  Option.bind (α := Hp) (β := (Int32 × Hp)) (MX12_changes h v0 v4 v2 v5 v6) fun (h63 : Hp) =>
  gg (β := (Int32 × Hp)) (kd h63 v0 = 11) <|
  gg (β := (Int32 × Hp)) (kd h63 (gP h63 v0 1) = 20) <|
  gg (β := (Int32 × Hp)) (inB (0 : Int32) (ln h63 (gP h63 v0 1)) = true) <|
  Option.bind (α := Hp) (β := (Int32 × Hp)) (MX12_work h63 v0 v1 (gI h63 (gP h63 v0 1) (0 : Int32).toNatClampNeg)) fun (h68 : Hp) =>
  gg (β := (Int32 × Hp)) (kd h68 v0 = 11) <|
  gg (β := (Int32 × Hp)) (kd h68 (gP h68 v0 31) = 20) <|
  gg (β := (Int32 × Hp)) (inB v9 (ln h68 (gP h68 v0 31)) = true) <|
  if (gI h68 (gP h68 v0 31) v9.toNatClampNeg) = (-1 : Int32) then
    MX12_correct_466 h68 v0 v4 (0 : Int32)
  else
    MX12_correct_507 h68 v0 v1 v3 v4 v7 v8 v9 v7
set_option maxRecDepth 100000 in
set_option maxHeartbeats 8000000 in
theorem kX12_correct_430 {d : Nat} {h : Hp} {v0 : Nat} {v1 : Int32} {v2 : Int32} {v3 : Int32} {v4 : Int32} {v5 : Int32} {v6 : Int32} {v7 : Int32} {v8 : Int32} {v9 : Int32} {r : Int32} {h9 : Hp} (H : MX12_correct_430 h v0 v1 v2 v3 v4 v5 v6 v7 v8 v9 = some (r, h9)) : J (d + 5) YX12_correct 430 [.ref v0, .int v1, .int v2, .int v3, .int v4, .int v5, .int v6, .int v7, .int v8, .int v9, Value.null, Value.null, Value.null, Value.null] [] h (oI r) h9 := by
  unfold MX12_correct_430 at H
  refine J_aload_n 0 dX12_correct_430 rfl rfl ?_
  refine J_iload dX12_correct_431 rfl ?_
  refine J_iload_n 2 dX12_correct_433 rfl rfl ?_
  refine J_iload dX12_correct_434 rfl ?_
  refine J_iload dX12_correct_436 rfl ?_
  obtain ⟨g62, H⟩ := gd H
  obtain ⟨h63, e61, H⟩ := bd H
  refine J_cV (as := [.int v4, .int v2, .int v5, .int v6]) 11 YX12_changes 4 dX12_correct_438 moX12_changes mvX12_changes mlX12_411 g62 rfl rfl (okX12_changes (d := d + 4) e61) rfl rfl [] rfl rfl (st2 := []) rfl ?_
  refine J_aload_n 0 dX12_correct_441 rfl rfl ?_
  refine J_iload_n 1 dX12_correct_442 rfl rfl ?_
  refine J_aload_n 0 dX12_correct_443 rfl rfl ?_
  obtain ⟨g64, H⟩ := gd H
  refine J_gP 11 1 dX12_correct_444 g64 flX12_8 rfl rfl ?_
  refine J_iconst (0 : Int32) dX12_correct_447 kc_0 ?_
  obtain ⟨g65, H⟩ := gd H
  obtain ⟨g66, H⟩ := gd H
  refine J_iald dX12_correct_448 g65 (inB_ok g66) ?_
  obtain ⟨h68, e67, H⟩ := bd H
  refine J_cV (as := [.int v1, .int (gI h63 (gP h63 v0 1) (0 : Int32).toNatClampNeg)]) 11 YX12_work 2 dX12_correct_449 moX12_work mvX12_work mlX12_345 g64 rfl rfl (okX12_work (d := d) e67) rfl rfl [] rfl rfl (st2 := []) rfl ?_
  refine J_aload_n 0 dX12_correct_452 rfl rfl ?_
  obtain ⟨g69, H⟩ := gd H
  refine J_gP 11 31 dX12_correct_453 g69 flX12_55 rfl rfl ?_
  refine J_iload dX12_correct_456 rfl ?_
  obtain ⟨g70, H⟩ := gd H
  obtain ⟨g71, H⟩ := gd H
  refine J_iald dX12_correct_458 g70 (inB_ok g71) ?_
  refine J_iconst (-1 : Int32) dX12_correct_459 kc_m1 ?_
  refine J_icmp_ne 499 dX12_correct_460 rfl (fun q72 => ?_) (fun q72 => ?_)
  · replace H := br0 q72 H
    refine J_iload dX12_correct_499 rfl ?_
    refine J_istore dX12_correct_501 (by decide) (ls' := [.ref v0, .int v1, .int v2, .int v3, .int v4, .int v5, .int v6, .int v7, .int v8, .int v9, .int v9, Value.null, Value.null, Value.null]) rfl ?_
    refine J_iload dX12_correct_503 rfl ?_
    refine J_istore dX12_correct_505 (by decide) (ls' := [.ref v0, .int v1, .int v2, .int v3, .int v4, .int v5, .int v6, .int v7, .int v8, .int v9, .int v9, .int v7, Value.null, Value.null]) rfl ?_
    exact J_dr (kX12_correct_507 H ) ⟨rfl, ⟨rfl, ⟨rfl, ⟨rfl, ⟨rfl, ⟨rfl, ⟨rfl, ⟨rfl, trivial⟩⟩⟩⟩⟩⟩⟩⟩
  · replace H := br1 q72 H
    refine J_iconst (0 : Int32) dX12_correct_463 kc_0 ?_
    refine J_istore dX12_correct_464 (by decide) (ls' := [.ref v0, .int v1, .int v2, .int v3, .int v4, .int v5, .int v6, .int v7, .int v8, .int v9, .int (0 : Int32), Value.null, Value.null, Value.null]) rfl ?_
    exact J_dr (kX12_correct_466 H ) ⟨rfl, ⟨rfl, ⟨rfl, trivial⟩⟩⟩
noncomputable def BX12_correct_399 (h : Hp) (v0 : Nat) (v1 : Int32) (v2 : Int32) (v3 : Int32) (v4 : Int32) (v5 : Int32) (v6 : Int32) (v7 : Int32) (v8 : Int32) (v9 : Int32) (v10 : Int32) : Option ((Int32 × Hp) ⊕ (Int32 × Hp)) :=
  if (645 : Int32) ≤ v10 then
    up1 (MX12_correct_430 h v0 v1 v2 v3 v4 v5 v6 v7 v8 v9)
  else
    gg (β := ((Int32 × Hp) ⊕ (Int32 × Hp))) (kd h v0 = 11) <|
    gg (β := ((Int32 × Hp) ⊕ (Int32 × Hp))) (kd h (gP h v0 1) = 20) <|
    gg (β := ((Int32 × Hp) ⊕ (Int32 × Hp))) (inB (v4 + v10) (ln h (gP h v0 1)) = true) <|
    gg (β := ((Int32 × Hp) ⊕ (Int32 × Hp))) (kd h (gP h v0 41) = 20) <|
    gg (β := ((Int32 × Hp) ⊕ (Int32 × Hp))) (inB v10 (ln h (gP h v0 41)) = true) <|
    lt (α := Hp) (β := Option ((Int32 × Hp) ⊕ (Int32 × Hp))) (sI h (gP h v0 41) v10.toNatClampNeg (gI h (gP h v0 1) (v4 + v10).toNatClampNeg)) fun (h137 : Hp) =>
    some (.inl ((v10 + (1 : Int32)), h137))
set_option maxRecDepth 100000 in
set_option maxHeartbeats 8000000 in
theorem bX12_correct_399 {d : Nat} {h : Hp} {v0 : Nat} {v1 : Int32} {v2 : Int32} {v3 : Int32} {v4 : Int32} {v5 : Int32} {v6 : Int32} {v7 : Int32} {v8 : Int32} {v9 : Int32} {v10 : Int32} {r : Int32} {h9 : Hp} {x : ((Int32 × Hp) ⊕ (Int32 × Hp))} (H : BX12_correct_399 h v0 v1 v2 v3 v4 v5 v6 v7 v8 v9 v10 = some x) (hb0 : ∀ s : Int32 × Hp, x = .inl s → J (d + 5) YX12_correct 399 [.ref v0, .int v1, .int v2, .int v3, .int v4, .int v5, .int v6, .int v7, .int v8, .int v9, .int s.1, Value.null, Value.null, Value.null] [] s.2 (oI r) h9) (hx : ∀ z : (Int32 × Hp), x = .inr (z) → z = (r, h9)) : J (d + 5) YX12_correct 399 [.ref v0, .int v1, .int v2, .int v3, .int v4, .int v5, .int v6, .int v7, .int v8, .int v9, .int v10, Value.null, Value.null, Value.null] [] h (oI r) h9 := by
  unfold BX12_correct_399 at H
  refine J_iload dX12_correct_399 rfl ?_
  refine J_sipush (645 : Int32) dX12_correct_401 ks_645 ?_
  refine J_icmp_ge 430 dX12_correct_404 rfl (fun q60 => ?_) (fun q60 => ?_)
  · replace H := br1 q60 H
    obtain ⟨y0, H90, rfl⟩ := up1_el H
    replace H := H90
    obtain rfl := hx _ rfl
    exact J_dr (kX12_correct_430 H ) ⟨rfl, ⟨rfl, ⟨rfl, ⟨rfl, ⟨rfl, ⟨rfl, ⟨rfl, ⟨rfl, ⟨rfl, ⟨rfl, trivial⟩⟩⟩⟩⟩⟩⟩⟩⟩⟩
  · replace H := br0 q60 H
    refine J_aload_n 0 dX12_correct_407 rfl rfl ?_
    obtain ⟨g132, H⟩ := gd H
    refine J_gP 11 41 dX12_correct_408 g132 flX12_82 rfl rfl ?_
    refine J_iload dX12_correct_411 rfl ?_
    refine J_aload_n 0 dX12_correct_413 rfl rfl ?_
    refine J_gP 11 1 dX12_correct_414 g132 flX12_8 rfl rfl ?_
    refine J_iload dX12_correct_417 rfl ?_
    refine J_iload dX12_correct_419 rfl ?_
    refine J_iadd dX12_correct_421 ?_
    obtain ⟨g133, H⟩ := gd H
    obtain ⟨g134, H⟩ := gd H
    refine J_iald dX12_correct_422 g133 (inB_ok g134) ?_
    obtain ⟨g135, H⟩ := gd H
    obtain ⟨g136, H⟩ := gd H
    obtain ⟨h137, e138, H⟩ := lt_el H
    refine J_sI dX12_correct_423 g135 (inB_ok g136) e138 ?_
    have c139 := ekI e138
    have c140 := elI e138
    have c141 := epI e138
    refine J_iinc (v10 + (1 : Int32)) dX12_correct_424 rfl (congrArg (HAdd.hAdd v10) kc_1) (by decide) (ls' := [.ref v0, .int v1, .int v2, .int v3, .int v4, .int v5, .int v6, .int v7, .int v8, .int v9, .int (v10 + (1 : Int32)), Value.null, Value.null, Value.null]) rfl ?_
    refine J_goto 399 dX12_correct_427 rfl ?_
    cases H
    exact J_dr (hb0 _ rfl) ⟨rfl, ⟨rfl, ⟨rfl, ⟨rfl, ⟨rfl, ⟨rfl, ⟨rfl, ⟨rfl, ⟨rfl, ⟨rfl, ⟨rfl, trivial⟩⟩⟩⟩⟩⟩⟩⟩⟩⟩⟩
noncomputable def MX12_correct_399 (h : Hp) (v0 : Nat) (v1 : Int32) (v2 : Int32) (v3 : Int32) (v4 : Int32) (v5 : Int32) (v6 : Int32) (v7 : Int32) (v8 : Int32) (v9 : Int32) (v10 : Int32) : Option (Int32 × Hp) := it (fun q : Int32 × Hp => BX12_correct_399 q.2 v0 v1 v2 v3 v4 v5 v6 v7 v8 v9 q.1) (v10, h)
set_option maxRecDepth 100000 in
set_option maxHeartbeats 8000000 in
theorem kX12_correct_399 {d : Nat} {h : Hp} {v0 : Nat} {v1 : Int32} {v2 : Int32} {v3 : Int32} {v4 : Int32} {v5 : Int32} {v6 : Int32} {v7 : Int32} {v8 : Int32} {v9 : Int32} {v10 : Int32} {r : Int32} {h9 : Hp} (H : MX12_correct_399 h v0 v1 v2 v3 v4 v5 v6 v7 v8 v9 v10 = some (r, h9)) : J (d + 5) YX12_correct 399 [.ref v0, .int v1, .int v2, .int v3, .int v4, .int v5, .int v6, .int v7, .int v8, .int v9, .int v10, Value.null, Value.null, Value.null] [] h (oI r) h9 := by
  unfold MX12_correct_399 at H
  refine it_J (G := (fun q : Int32 × Hp => J (d + 5) YX12_correct 399 [.ref v0, .int v1, .int v2, .int v3, .int v4, .int v5, .int v6, .int v7, .int v8, .int v9, .int q.1, Value.null, Value.null, Value.null] [] q.2 (oI r) h9)) (Q := (fun y : (Int32 × Hp) => y = (r, h9))) (fun q x Hq hm => ?_) H rfl
  exact bX12_correct_399 Hq (fun s hs => by subst hs; exact hm) (fun z hz => by subst hz; exact hm)
noncomputable def MX12_correct_386 (h : Hp) (v0 : Nat) (v1 : Int32) (v2 : Int32) (v3 : Int32) (v4 : Int32) (v5 : Int32) (v6 : Int32) (v7 : Int32) (v8 : Int32) : Option (Int32 × Hp) :=
  gg (β := (Int32 × Hp)) (kd h v0 = 11) <|
  Option.bind (α := Int32) (β := (Int32 × Hp)) (MX12_begins h v0 v4 v7) fun (t59 : Int32) =>
  MX12_correct_399 h v0 v1 v2 v3 v4 v5 v6 v7 v8 t59 (0 : Int32)
set_option maxRecDepth 100000 in
set_option maxHeartbeats 8000000 in
theorem kX12_correct_386 {d : Nat} {h : Hp} {v0 : Nat} {v1 : Int32} {v2 : Int32} {v3 : Int32} {v4 : Int32} {v5 : Int32} {v6 : Int32} {v7 : Int32} {v8 : Int32} {r : Int32} {h9 : Hp} (H : MX12_correct_386 h v0 v1 v2 v3 v4 v5 v6 v7 v8 = some (r, h9)) : J (d + 5) YX12_correct 386 [.ref v0, .int v1, .int v2, .int v3, .int v4, .int v5, .int v6, .int v7, .int v8, Value.null, Value.null, Value.null, Value.null, Value.null] [] h (oI r) h9 := by
  unfold MX12_correct_386 at H
  refine J_aload_n 0 dX12_correct_386 rfl rfl ?_
  refine J_iload dX12_correct_387 rfl ?_
  refine J_iload dX12_correct_389 rfl ?_
  obtain ⟨g58, H⟩ := gd H
  obtain ⟨t59, e57, H⟩ := bd H
  refine J_cV (as := [.int v4, .int v7]) 11 YX12_begins 2 dX12_correct_391 moX12_begins mvX12_begins mlX12_354 g58 rfl rfl (okX12_begins (d := d + 4) e57) rfl rfl [] rfl rfl (st2 := [.int t59]) rfl ?_
  refine J_istore dX12_correct_394 (by decide) (ls' := [.ref v0, .int v1, .int v2, .int v3, .int v4, .int v5, .int v6, .int v7, .int v8, .int t59, Value.null, Value.null, Value.null, Value.null]) rfl ?_
  refine J_iconst (0 : Int32) dX12_correct_396 kc_0 ?_
  refine J_istore dX12_correct_397 (by decide) (ls' := [.ref v0, .int v1, .int v2, .int v3, .int v4, .int v5, .int v6, .int v7, .int v8, .int t59, .int (0 : Int32), Value.null, Value.null, Value.null]) rfl ?_
  exact J_dr (kX12_correct_399 H ) ⟨rfl, ⟨rfl, ⟨rfl, ⟨rfl, ⟨rfl, ⟨rfl, ⟨rfl, ⟨rfl, ⟨rfl, ⟨rfl, ⟨rfl, trivial⟩⟩⟩⟩⟩⟩⟩⟩⟩⟩⟩
noncomputable def BX12_correct_344 (h : Hp) (v0 : Nat) (v1 : Int32) (v2 : Int32) (v3 : Int32) (v4 : Int32) (v5 : Int32) (v6 : Int32) (v7 : Int32) (v8 : Int32) (v9 : Int32) (v10 : Int32) : Option ((Int32 × Hp) ⊕ ((Int32 × Hp) ⊕ (Int32 × Hp))) :=
  gg (β := ((Int32 × Hp) ⊕ ((Int32 × Hp) ⊕ (Int32 × Hp)))) (kd h v0 = 11) <|
  if (gI h v0 35) ≤ v10 then
    some (.inr (.inl ((v9 + (1 : Int32)), h)))
  else
    gg (β := ((Int32 × Hp) ⊕ ((Int32 × Hp) ⊕ (Int32 × Hp)))) (kd h (gP h v0 34) = 20) <|
    gg (β := ((Int32 × Hp) ⊕ ((Int32 × Hp) ⊕ (Int32 × Hp)))) (inB v10 (ln h (gP h v0 34)) = true) <|
    gg (β := ((Int32 × Hp) ⊕ ((Int32 × Hp) ⊕ (Int32 × Hp)))) (kd h (gP h v0 38) = 20) <|
    gg (β := ((Int32 × Hp) ⊕ ((Int32 × Hp) ⊕ (Int32 × Hp)))) (inB (((430 : Int32) * v9) + v10) (ln h (gP h v0 38)) = true) <|
    lt (α := Hp) (β := Option ((Int32 × Hp) ⊕ ((Int32 × Hp) ⊕ (Int32 × Hp)))) (sI h (gP h v0 38) (((430 : Int32) * v9) + v10).toNatClampNeg (gI h (gP h v0 34) v10.toNatClampNeg)) fun (h168 : Hp) =>
    some (.inl ((v10 + (1 : Int32)), h168))
set_option maxRecDepth 100000 in
set_option maxHeartbeats 8000000 in
theorem bX12_correct_344 {d : Nat} {h : Hp} {v0 : Nat} {v1 : Int32} {v2 : Int32} {v3 : Int32} {v4 : Int32} {v5 : Int32} {v6 : Int32} {v7 : Int32} {v8 : Int32} {v9 : Int32} {v10 : Int32} {r : Int32} {h9 : Hp} {x : ((Int32 × Hp) ⊕ ((Int32 × Hp) ⊕ (Int32 × Hp)))} (H : BX12_correct_344 h v0 v1 v2 v3 v4 v5 v6 v7 v8 v9 v10 = some x) (hb0 : ∀ s : Int32 × Hp, x = .inl s → J (d + 5) YX12_correct 344 [.ref v0, .int v1, .int v2, .int v3, .int v4, .int v5, .int v6, .int v7, .int v8, .int v9, .int s.1, Value.null, Value.null, Value.null] [] s.2 (oI r) h9) (hb1 : ∀ s : Int32 × Hp, x = .inr (.inl s) → J (d + 5) YX12_correct 294 [.ref v0, .int v1, .int v2, .int v3, .int v4, .int v5, .int v6, .int v7, .int v8, .int s.1, Value.null, Value.null, Value.null, Value.null] [] s.2 (oI r) h9) (hx : ∀ z : (Int32 × Hp), x = .inr (.inr (z)) → z = (r, h9)) : J (d + 5) YX12_correct 344 [.ref v0, .int v1, .int v2, .int v3, .int v4, .int v5, .int v6, .int v7, .int v8, .int v9, .int v10, Value.null, Value.null, Value.null] [] h (oI r) h9 := by
  unfold BX12_correct_344 at H
  refine J_iload dX12_correct_344 rfl ?_
  refine J_aload_n 0 dX12_correct_346 rfl rfl ?_
  obtain ⟨g162, H⟩ := gd H
  refine J_getI 11 35 dX12_correct_347 g162 flX12_351 rfl ?_
  refine J_icmp_ge 380 dX12_correct_350 rfl (fun q163 => ?_) (fun q163 => ?_)
  · replace H := br1 q163 H
    refine J_iinc (v9 + (1 : Int32)) dX12_correct_380 rfl (congrArg (HAdd.hAdd v9) kc_1) (by decide) (ls' := [.ref v0, .int v1, .int v2, .int v3, .int v4, .int v5, .int v6, .int v7, .int v8, .int (v9 + (1 : Int32)), .int v10, Value.null, Value.null, Value.null]) rfl ?_
    refine J_goto 294 dX12_correct_383 rfl ?_
    cases H
    exact J_dr (hb1 _ rfl) ⟨rfl, ⟨rfl, ⟨rfl, ⟨rfl, ⟨rfl, ⟨rfl, ⟨rfl, ⟨rfl, ⟨rfl, ⟨rfl, trivial⟩⟩⟩⟩⟩⟩⟩⟩⟩⟩
  · replace H := br0 q163 H
    refine J_aload_n 0 dX12_correct_353 rfl rfl ?_
    refine J_gP 11 38 dX12_correct_354 g162 flX12_73 rfl rfl ?_
    refine J_sipush (430 : Int32) dX12_correct_357 ks_430 ?_
    refine J_iload dX12_correct_360 rfl ?_
    refine J_imul dX12_correct_362 ?_
    refine J_iload dX12_correct_363 rfl ?_
    refine J_iadd dX12_correct_365 ?_
    refine J_aload_n 0 dX12_correct_366 rfl rfl ?_
    refine J_gP 11 34 dX12_correct_367 g162 flX12_64 rfl rfl ?_
    refine J_iload dX12_correct_370 rfl ?_
    obtain ⟨g164, H⟩ := gd H
    obtain ⟨g165, H⟩ := gd H
    refine J_iald dX12_correct_372 g164 (inB_ok g165) ?_
    obtain ⟨g166, H⟩ := gd H
    obtain ⟨g167, H⟩ := gd H
    obtain ⟨h168, e169, H⟩ := lt_el H
    refine J_sI dX12_correct_373 g166 (inB_ok g167) e169 ?_
    have c170 := ekI e169
    have c171 := elI e169
    have c172 := epI e169
    refine J_iinc (v10 + (1 : Int32)) dX12_correct_374 rfl (congrArg (HAdd.hAdd v10) kc_1) (by decide) (ls' := [.ref v0, .int v1, .int v2, .int v3, .int v4, .int v5, .int v6, .int v7, .int v8, .int v9, .int (v10 + (1 : Int32)), Value.null, Value.null, Value.null]) rfl ?_
    refine J_goto 344 dX12_correct_377 rfl ?_
    cases H
    exact J_dr (hb0 _ rfl) ⟨rfl, ⟨rfl, ⟨rfl, ⟨rfl, ⟨rfl, ⟨rfl, ⟨rfl, ⟨rfl, ⟨rfl, ⟨rfl, ⟨rfl, trivial⟩⟩⟩⟩⟩⟩⟩⟩⟩⟩⟩
noncomputable def MX12_correct_344 (h : Hp) (v0 : Nat) (v1 : Int32) (v2 : Int32) (v3 : Int32) (v4 : Int32) (v5 : Int32) (v6 : Int32) (v7 : Int32) (v8 : Int32) (v9 : Int32) (v10 : Int32) : Option ((Int32 × Hp) ⊕ (Int32 × Hp)) := it (fun q : Int32 × Hp => BX12_correct_344 q.2 v0 v1 v2 v3 v4 v5 v6 v7 v8 v9 q.1) (v10, h)
set_option maxRecDepth 100000 in
set_option maxHeartbeats 8000000 in
theorem kX12_correct_344 {d : Nat} {h : Hp} {v0 : Nat} {v1 : Int32} {v2 : Int32} {v3 : Int32} {v4 : Int32} {v5 : Int32} {v6 : Int32} {v7 : Int32} {v8 : Int32} {v9 : Int32} {v10 : Int32} {r : Int32} {h9 : Hp} {x : ((Int32 × Hp) ⊕ (Int32 × Hp))} (H : MX12_correct_344 h v0 v1 v2 v3 v4 v5 v6 v7 v8 v9 v10 = some x) (hb0 : ∀ s : Int32 × Hp, x = .inl s → J (d + 5) YX12_correct 294 [.ref v0, .int v1, .int v2, .int v3, .int v4, .int v5, .int v6, .int v7, .int v8, .int s.1, Value.null, Value.null, Value.null, Value.null] [] s.2 (oI r) h9) (hx : ∀ z : (Int32 × Hp), x = .inr (z) → z = (r, h9)) : J (d + 5) YX12_correct 344 [.ref v0, .int v1, .int v2, .int v3, .int v4, .int v5, .int v6, .int v7, .int v8, .int v9, .int v10, Value.null, Value.null, Value.null] [] h (oI r) h9 := by
  unfold MX12_correct_344 at H
  refine it_J (G := (fun q : Int32 × Hp => J (d + 5) YX12_correct 344 [.ref v0, .int v1, .int v2, .int v3, .int v4, .int v5, .int v6, .int v7, .int v8, .int v9, .int q.1, Value.null, Value.null, Value.null] [] q.2 (oI r) h9)) (Q := (fun y : ((Int32 × Hp) ⊕ (Int32 × Hp)) => (∀ s : Int32 × Hp, y = .inl s → J (d + 5) YX12_correct 294 [.ref v0, .int v1, .int v2, .int v3, .int v4, .int v5, .int v6, .int v7, .int v8, .int s.1, Value.null, Value.null, Value.null, Value.null] [] s.2 (oI r) h9) ∧ (∀ z : (Int32 × Hp), y = .inr (z) → z = (r, h9)))) (fun q x Hq hm => ?_) H ⟨hb0, hx⟩
  exact bX12_correct_344 Hq (fun s hs => by subst hs; exact hm) (fun s hs => by subst hs; exact (hm.1) s rfl) (fun z hz => by subst hz; exact (hm.2) z rfl)
noncomputable def BX12_correct_294 (h : Hp) (v0 : Nat) (v1 : Int32) (v2 : Int32) (v3 : Int32) (v4 : Int32) (v5 : Int32) (v6 : Int32) (v7 : Int32) (v8 : Int32) (v9 : Int32) : Option ((Int32 × Hp) ⊕ (Int32 × Hp)) :=
  if v8 ≤ v9 then
    up1 (MX12_correct_386 h v0 v1 v2 v3 v4 v5 v6 v7 v8)
  else
    gg (β := ((Int32 × Hp) ⊕ (Int32 × Hp))) (kd h v0 = 11) <|
    Option.bind (α := Hp) (β := ((Int32 × Hp) ⊕ (Int32 × Hp))) (MX12_write h v0 v1 v9) fun (h144 : Hp) =>
    gg (β := ((Int32 × Hp) ⊕ (Int32 × Hp))) (kd h144 v0 = 11) <|
    gg (β := ((Int32 × Hp) ⊕ (Int32 × Hp))) (kd h144 (gP h144 v0 39) = 20) <|
    gg (β := ((Int32 × Hp) ⊕ (Int32 × Hp))) (inB v9 (ln h144 (gP h144 v0 39)) = true) <|
    lt (α := Hp) (β := Option ((Int32 × Hp) ⊕ (Int32 × Hp))) (sI h144 (gP h144 v0 39) v9.toNatClampNeg (gI h144 v0 35)) fun (h148 : Hp) =>
    gg (β := ((Int32 × Hp) ⊕ (Int32 × Hp))) (kd h144 (gP h144 v0 1) = 20) <|
    gg (β := ((Int32 × Hp) ⊕ (Int32 × Hp))) (inB ((v4 + (45 : Int32)) + v9) (ln h144 (gP h144 v0 1)) = true) <|
    gg (β := ((Int32 × Hp) ⊕ (Int32 × Hp))) (kd h144 (gP h144 v0 40) = 20) <|
    gg (β := ((Int32 × Hp) ⊕ (Int32 × Hp))) (inB v9 (ln h144 (gP h144 v0 40)) = true) <|
    lt (α := Hp) (β := Option ((Int32 × Hp) ⊕ (Int32 × Hp))) (sI h148 (gP h144 v0 40) v9.toNatClampNeg ((gI h148 (gP h144 v0 1) ((v4 + (45 : Int32)) + v9).toNatClampNeg) - (1 : Int32))) fun (h157 : Hp) =>
    MX12_correct_344 h157 v0 v1 v2 v3 v4 v5 v6 v7 v8 v9 (0 : Int32)
set_option maxRecDepth 100000 in
set_option maxHeartbeats 8000000 in
theorem bX12_correct_294 {d : Nat} {h : Hp} {v0 : Nat} {v1 : Int32} {v2 : Int32} {v3 : Int32} {v4 : Int32} {v5 : Int32} {v6 : Int32} {v7 : Int32} {v8 : Int32} {v9 : Int32} {r : Int32} {h9 : Hp} {x : ((Int32 × Hp) ⊕ (Int32 × Hp))} (H : BX12_correct_294 h v0 v1 v2 v3 v4 v5 v6 v7 v8 v9 = some x) (hb0 : ∀ s : Int32 × Hp, x = .inl s → J (d + 5) YX12_correct 294 [.ref v0, .int v1, .int v2, .int v3, .int v4, .int v5, .int v6, .int v7, .int v8, .int s.1, Value.null, Value.null, Value.null, Value.null] [] s.2 (oI r) h9) (hx : ∀ z : (Int32 × Hp), x = .inr (z) → z = (r, h9)) : J (d + 5) YX12_correct 294 [.ref v0, .int v1, .int v2, .int v3, .int v4, .int v5, .int v6, .int v7, .int v8, .int v9, Value.null, Value.null, Value.null, Value.null] [] h (oI r) h9 := by
  unfold BX12_correct_294 at H
  refine J_iload dX12_correct_294 rfl ?_
  refine J_iload dX12_correct_296 rfl ?_
  refine J_icmp_ge 386 dX12_correct_298 rfl (fun q56 => ?_) (fun q56 => ?_)
  · replace H := br1 q56 H
    obtain ⟨y0, H90, rfl⟩ := up1_el H
    replace H := H90
    obtain rfl := hx _ rfl
    exact J_dr (kX12_correct_386 H ) ⟨rfl, ⟨rfl, ⟨rfl, ⟨rfl, ⟨rfl, ⟨rfl, ⟨rfl, ⟨rfl, ⟨rfl, trivial⟩⟩⟩⟩⟩⟩⟩⟩⟩
  · replace H := br0 q56 H
    refine J_aload_n 0 dX12_correct_301 rfl rfl ?_
    refine J_iload_n 1 dX12_correct_302 rfl rfl ?_
    refine J_iload dX12_correct_303 rfl ?_
    obtain ⟨g143, H⟩ := gd H
    obtain ⟨h144, e142, H⟩ := bd H
    refine J_cV (as := [.int v1, .int v9]) 11 YX12_write 2 dX12_correct_305 moX12_write mvX12_write mlX12_357 g143 rfl rfl (okX12_write (d := d + 3) e142) rfl rfl [] rfl rfl (st2 := []) rfl ?_
    refine J_aload_n 0 dX12_correct_308 rfl rfl ?_
    obtain ⟨g145, H⟩ := gd H
    refine J_gP 11 39 dX12_correct_309 g145 flX12_76 rfl rfl ?_
    refine J_iload dX12_correct_312 rfl ?_
    refine J_aload_n 0 dX12_correct_314 rfl rfl ?_
    refine J_getI 11 35 dX12_correct_315 g145 flX12_351 rfl ?_
    obtain ⟨g146, H⟩ := gd H
    obtain ⟨g147, H⟩ := gd H
    obtain ⟨h148, e149, H⟩ := lt_el H
    refine J_sI dX12_correct_318 g146 (inB_ok g147) e149 ?_
    have c150 := ekI e149
    have c151 := elI e149
    have c152 := epI e149
    refine J_aload_n 0 dX12_correct_319 rfl rfl ?_
    refine J_gP 11 40 dX12_correct_320 (kq c150 g145) flX12_79 rfl (congrFun (congrFun c152 v0) 40) ?_
    refine J_iload dX12_correct_323 rfl ?_
    refine J_aload_n 0 dX12_correct_325 rfl rfl ?_
    refine J_gP 11 1 dX12_correct_326 (kq c150 g145) flX12_8 rfl (congrFun (congrFun c152 v0) 1) ?_
    refine J_iload dX12_correct_329 rfl ?_
    refine J_bipush (45 : Int32) dX12_correct_331 kb_45 ?_
    refine J_iadd dX12_correct_333 ?_
    refine J_iload dX12_correct_334 rfl ?_
    refine J_iadd dX12_correct_336 ?_
    obtain ⟨g153, H⟩ := gd H
    obtain ⟨g154, H⟩ := gd H
    refine J_iald dX12_correct_337 (kq c150 g153) (lq c151 g154) ?_
    refine J_iconst (1 : Int32) dX12_correct_338 kc_1 ?_
    refine J_isub dX12_correct_339 ?_
    obtain ⟨g155, H⟩ := gd H
    obtain ⟨g156, H⟩ := gd H
    obtain ⟨h157, e158, H⟩ := lt_el H
    refine J_sI dX12_correct_340 (kq c150 g155) (lq c151 g156) e158 ?_
    have c159 := (ekI e158).trans c150
    have c160 := (elI e158).trans c151
    have c161 := (epI e158).trans c152
    refine J_iconst (0 : Int32) dX12_correct_341 kc_0 ?_
    refine J_istore dX12_correct_342 (by decide) (ls' := [.ref v0, .int v1, .int v2, .int v3, .int v4, .int v5, .int v6, .int v7, .int v8, .int v9, .int (0 : Int32), Value.null, Value.null, Value.null]) rfl ?_
    exact J_dr (kX12_correct_344 H hb0 hx) ⟨rfl, ⟨rfl, ⟨rfl, ⟨rfl, ⟨rfl, ⟨rfl, ⟨rfl, ⟨rfl, ⟨rfl, ⟨rfl, ⟨rfl, trivial⟩⟩⟩⟩⟩⟩⟩⟩⟩⟩⟩
noncomputable def MX12_correct_294 (h : Hp) (v0 : Nat) (v1 : Int32) (v2 : Int32) (v3 : Int32) (v4 : Int32) (v5 : Int32) (v6 : Int32) (v7 : Int32) (v8 : Int32) (v9 : Int32) : Option (Int32 × Hp) := it (fun q : Int32 × Hp => BX12_correct_294 q.2 v0 v1 v2 v3 v4 v5 v6 v7 v8 q.1) (v9, h)
set_option maxRecDepth 100000 in
set_option maxHeartbeats 8000000 in
theorem kX12_correct_294 {d : Nat} {h : Hp} {v0 : Nat} {v1 : Int32} {v2 : Int32} {v3 : Int32} {v4 : Int32} {v5 : Int32} {v6 : Int32} {v7 : Int32} {v8 : Int32} {v9 : Int32} {r : Int32} {h9 : Hp} (H : MX12_correct_294 h v0 v1 v2 v3 v4 v5 v6 v7 v8 v9 = some (r, h9)) : J (d + 5) YX12_correct 294 [.ref v0, .int v1, .int v2, .int v3, .int v4, .int v5, .int v6, .int v7, .int v8, .int v9, Value.null, Value.null, Value.null, Value.null] [] h (oI r) h9 := by
  unfold MX12_correct_294 at H
  refine it_J (G := (fun q : Int32 × Hp => J (d + 5) YX12_correct 294 [.ref v0, .int v1, .int v2, .int v3, .int v4, .int v5, .int v6, .int v7, .int v8, .int q.1, Value.null, Value.null, Value.null, Value.null] [] q.2 (oI r) h9)) (Q := (fun y : (Int32 × Hp) => y = (r, h9))) (fun q x Hq hm => ?_) H rfl
  exact bX12_correct_294 Hq (fun s hs => by subst hs; exact hm) (fun z hz => by subst hz; exact hm)
noncomputable def MX12_correct_279 (h : Hp) (v0 : Nat) (v1 : Int32) (v2 : Int32) (v3 : Int32) (v4 : Int32) (v5 : Int32) (v6 : Int32) (v7 : Int32) : Option (Int32 × Hp) :=
  gg (β := (Int32 × Hp)) (kd h v0 = 11) <|
  gg (β := (Int32 × Hp)) (kd h (gP h v0 1) = 20) <|
  gg (β := (Int32 × Hp)) (inB (v4 + (4 : Int32)) (ln h (gP h v0 1)) = true) <|
  MX12_correct_294 h v0 v1 v2 v3 v4 v5 v6 v7 (gI h (gP h v0 1) (v4 + (4 : Int32)).toNatClampNeg) v7
set_option maxRecDepth 100000 in
set_option maxHeartbeats 8000000 in
theorem kX12_correct_279 {d : Nat} {h : Hp} {v0 : Nat} {v1 : Int32} {v2 : Int32} {v3 : Int32} {v4 : Int32} {v5 : Int32} {v6 : Int32} {v7 : Int32} {r : Int32} {h9 : Hp} (H : MX12_correct_279 h v0 v1 v2 v3 v4 v5 v6 v7 = some (r, h9)) : J (d + 5) YX12_correct 279 [.ref v0, .int v1, .int v2, .int v3, .int v4, .int v5, .int v6, .int v7, Value.null, Value.null, Value.null, Value.null, Value.null, Value.null] [] h (oI r) h9 := by
  unfold MX12_correct_279 at H
  refine J_aload_n 0 dX12_correct_279 rfl rfl ?_
  obtain ⟨g53, H⟩ := gd H
  refine J_gP 11 1 dX12_correct_280 g53 flX12_8 rfl rfl ?_
  refine J_iload dX12_correct_283 rfl ?_
  refine J_iconst (4 : Int32) dX12_correct_285 kc_4 ?_
  refine J_iadd dX12_correct_286 ?_
  obtain ⟨g54, H⟩ := gd H
  obtain ⟨g55, H⟩ := gd H
  refine J_iald dX12_correct_287 g54 (inB_ok g55) ?_
  refine J_istore dX12_correct_288 (by decide) (ls' := [.ref v0, .int v1, .int v2, .int v3, .int v4, .int v5, .int v6, .int v7, .int (gI h (gP h v0 1) (v4 + (4 : Int32)).toNatClampNeg), Value.null, Value.null, Value.null, Value.null, Value.null]) rfl ?_
  refine J_iload dX12_correct_290 rfl ?_
  refine J_istore dX12_correct_292 (by decide) (ls' := [.ref v0, .int v1, .int v2, .int v3, .int v4, .int v5, .int v6, .int v7, .int (gI h (gP h v0 1) (v4 + (4 : Int32)).toNatClampNeg), .int v7, Value.null, Value.null, Value.null, Value.null]) rfl ?_
  exact J_dr (kX12_correct_294 H ) ⟨rfl, ⟨rfl, ⟨rfl, ⟨rfl, ⟨rfl, ⟨rfl, ⟨rfl, ⟨rfl, ⟨rfl, ⟨rfl, trivial⟩⟩⟩⟩⟩⟩⟩⟩⟩⟩
noncomputable def BX12_correct_256 (h : Hp) (v0 : Nat) (v1 : Int32) (v2 : Int32) (v3 : Int32) (v4 : Int32) (v5 : Int32) (v6 : Int32) (v7 : Int32) : Option ((Int32) ⊕ (Int32 × Hp)) :=
  gg (β := ((Int32) ⊕ (Int32 × Hp))) (kd h v0 = 11) <|
  gg (β := ((Int32) ⊕ (Int32 × Hp))) (kd h (gP h v0 1) = 20) <|
  gg (β := ((Int32) ⊕ (Int32 × Hp))) (inB ((v4 + (5 : Int32)) + v7) (ln h (gP h v0 1)) = true) <|
  if v5 ≤ (gI h (gP h v0 1) ((v4 + (5 : Int32)) + v7).toNatClampNeg) then
    up1 (MX12_correct_279 h v0 v1 v2 v3 v4 v5 v6 v7)
  else
    some (.inl (v7 + (1 : Int32)))
set_option maxRecDepth 100000 in
set_option maxHeartbeats 8000000 in
theorem bX12_correct_256 {d : Nat} {h : Hp} {v0 : Nat} {v1 : Int32} {v2 : Int32} {v3 : Int32} {v4 : Int32} {v5 : Int32} {v6 : Int32} {v7 : Int32} {r : Int32} {h9 : Hp} {x : ((Int32) ⊕ (Int32 × Hp))} (H : BX12_correct_256 h v0 v1 v2 v3 v4 v5 v6 v7 = some x) (hb0 : ∀ s : Int32, x = .inl s → J (d + 5) YX12_correct 256 [.ref v0, .int v1, .int v2, .int v3, .int v4, .int v5, .int v6, .int s, Value.null, Value.null, Value.null, Value.null, Value.null, Value.null] [] h (oI r) h9) (hx : ∀ z : (Int32 × Hp), x = .inr (z) → z = (r, h9)) : J (d + 5) YX12_correct 256 [.ref v0, .int v1, .int v2, .int v3, .int v4, .int v5, .int v6, .int v7, Value.null, Value.null, Value.null, Value.null, Value.null, Value.null] [] h (oI r) h9 := by
  unfold BX12_correct_256 at H
  refine J_aload_n 0 dX12_correct_256 rfl rfl ?_
  obtain ⟨g49, H⟩ := gd H
  refine J_gP 11 1 dX12_correct_257 g49 flX12_8 rfl rfl ?_
  refine J_iload dX12_correct_260 rfl ?_
  refine J_iconst (5 : Int32) dX12_correct_262 kc_5 ?_
  refine J_iadd dX12_correct_263 ?_
  refine J_iload dX12_correct_264 rfl ?_
  refine J_iadd dX12_correct_266 ?_
  obtain ⟨g50, H⟩ := gd H
  obtain ⟨g51, H⟩ := gd H
  refine J_iald dX12_correct_267 g50 (inB_ok g51) ?_
  refine J_iload dX12_correct_268 rfl ?_
  refine J_icmp_ge 279 dX12_correct_270 rfl (fun q52 => ?_) (fun q52 => ?_)
  · replace H := br1 q52 H
    obtain ⟨y0, H90, rfl⟩ := up1_el H
    replace H := H90
    obtain rfl := hx _ rfl
    exact J_dr (kX12_correct_279 H ) ⟨rfl, ⟨rfl, ⟨rfl, ⟨rfl, ⟨rfl, ⟨rfl, ⟨rfl, ⟨rfl, trivial⟩⟩⟩⟩⟩⟩⟩⟩
  · replace H := br0 q52 H
    refine J_iinc (v7 + (1 : Int32)) dX12_correct_273 rfl (congrArg (HAdd.hAdd v7) kc_1) (by decide) (ls' := [.ref v0, .int v1, .int v2, .int v3, .int v4, .int v5, .int v6, .int (v7 + (1 : Int32)), Value.null, Value.null, Value.null, Value.null, Value.null, Value.null]) rfl ?_
    refine J_goto 256 dX12_correct_276 rfl ?_
    cases H
    exact J_dr (hb0 _ rfl) ⟨rfl, ⟨rfl, ⟨rfl, ⟨rfl, ⟨rfl, ⟨rfl, ⟨rfl, ⟨rfl, trivial⟩⟩⟩⟩⟩⟩⟩⟩
noncomputable def MX12_correct_256 (h : Hp) (v0 : Nat) (v1 : Int32) (v2 : Int32) (v3 : Int32) (v4 : Int32) (v5 : Int32) (v6 : Int32) (v7 : Int32) : Option (Int32 × Hp) := it (fun q : Int32 => BX12_correct_256 h v0 v1 v2 v3 v4 v5 v6 q) (v7)
set_option maxRecDepth 100000 in
set_option maxHeartbeats 8000000 in
theorem kX12_correct_256 {d : Nat} {h : Hp} {v0 : Nat} {v1 : Int32} {v2 : Int32} {v3 : Int32} {v4 : Int32} {v5 : Int32} {v6 : Int32} {v7 : Int32} {r : Int32} {h9 : Hp} (H : MX12_correct_256 h v0 v1 v2 v3 v4 v5 v6 v7 = some (r, h9)) : J (d + 5) YX12_correct 256 [.ref v0, .int v1, .int v2, .int v3, .int v4, .int v5, .int v6, .int v7, Value.null, Value.null, Value.null, Value.null, Value.null, Value.null] [] h (oI r) h9 := by
  unfold MX12_correct_256 at H
  refine it_J (G := (fun q : Int32 => J (d + 5) YX12_correct 256 [.ref v0, .int v1, .int v2, .int v3, .int v4, .int v5, .int v6, .int q, Value.null, Value.null, Value.null, Value.null, Value.null, Value.null] [] h (oI r) h9)) (Q := (fun y : (Int32 × Hp) => y = (r, h9))) (fun q x Hq hm => ?_) H rfl
  exact bX12_correct_256 Hq (fun s hs => by subst hs; exact hm) (fun z hz => by subst hz; exact hm)
noncomputable def MX12_correct_219 (h : Hp) (v0 : Nat) (v1 : Int32) (v2 : Int32) (v3 : Int32) (v4 : Int32) (v5 : Int32) (v6 : Int32) : Option (Int32 × Hp) :=
  gg (β := (Int32 × Hp)) (kd h v0 = 11) <|
  if (gI h v0 0) ≤ 0 then
    gg (β := (Int32 × Hp)) (kd h (gP h v0 1) = 20) <|
    gg (β := (Int32 × Hp)) (inB (v4 + (3 : Int32)) (ln h (gP h v0 1)) = true) <|
    if (gI h (gP h v0 1) (v4 + (3 : Int32)).toNatClampNeg) = 0 then
      Option.bind (α := Hp) (β := (Int32 × Hp)) (MX12_changes h v0 v4 v2 v5 v6) fun (h174 : Hp) =>
      some ((0 : Int32), h174)
    else
      MX12_correct_256 h v0 v1 v2 v3 v4 v5 v6 (0 : Int32)
  else
    some ((0 : Int32), h)
set_option maxRecDepth 100000 in
set_option maxHeartbeats 8000000 in
theorem kX12_correct_219 {d : Nat} {h : Hp} {v0 : Nat} {v1 : Int32} {v2 : Int32} {v3 : Int32} {v4 : Int32} {v5 : Int32} {v6 : Int32} {r : Int32} {h9 : Hp} (H : MX12_correct_219 h v0 v1 v2 v3 v4 v5 v6 = some (r, h9)) : J (d + 5) YX12_correct 219 [.ref v0, .int v1, .int v2, .int v3, .int v4, .int v5, .int v6, Value.null, Value.null, Value.null, Value.null, Value.null, Value.null, Value.null] [] h (oI r) h9 := by
  unfold MX12_correct_219 at H
  refine J_aload_n 0 dX12_correct_219 rfl rfl ?_
  obtain ⟨g44, H⟩ := gd H
  refine J_getI 11 0 dX12_correct_220 g44 flX12_122 rfl ?_
  refine J_if_le 228 dX12_correct_223 rfl (fun q45 => ?_) (fun q45 => ?_)
  · replace H := br1 q45 H
    refine J_aload_n 0 dX12_correct_228 rfl rfl ?_
    refine J_gP 11 1 dX12_correct_229 g44 flX12_8 rfl rfl ?_
    refine J_iload dX12_correct_232 rfl ?_
    refine J_iconst (3 : Int32) dX12_correct_234 kc_3 ?_
    refine J_iadd dX12_correct_235 ?_
    obtain ⟨g46, H⟩ := gd H
    obtain ⟨g47, H⟩ := gd H
    refine J_iald dX12_correct_236 g46 (inB_ok g47) ?_
    refine J_if_ne 253 dX12_correct_237 rfl (fun q48 => ?_) (fun q48 => ?_)
    · replace H := br0 q48 H
      refine J_iconst (0 : Int32) dX12_correct_253 kc_0 ?_
      refine J_istore dX12_correct_254 (by decide) (ls' := [.ref v0, .int v1, .int v2, .int v3, .int v4, .int v5, .int v6, .int (0 : Int32), Value.null, Value.null, Value.null, Value.null, Value.null, Value.null]) rfl ?_
      exact J_dr (kX12_correct_256 H ) ⟨rfl, ⟨rfl, ⟨rfl, ⟨rfl, ⟨rfl, ⟨rfl, ⟨rfl, ⟨rfl, trivial⟩⟩⟩⟩⟩⟩⟩⟩
    · replace H := br1 q48 H
      refine J_aload_n 0 dX12_correct_240 rfl rfl ?_
      refine J_iload dX12_correct_241 rfl ?_
      refine J_iload_n 2 dX12_correct_243 rfl rfl ?_
      refine J_iload dX12_correct_244 rfl ?_
      refine J_iload dX12_correct_246 rfl ?_
      obtain ⟨h174, e173, H⟩ := bd H
      refine J_cV (as := [.int v4, .int v2, .int v5, .int v6]) 11 YX12_changes 4 dX12_correct_248 moX12_changes mvX12_changes mlX12_411 g44 rfl rfl (okX12_changes (d := d + 4) e173) rfl rfl [] rfl rfl (st2 := []) rfl ?_
      refine J_iconst (0 : Int32) dX12_correct_251 kc_0 ?_
      cases H
      exact J_iretI dX12_correct_252 rfl
  · replace H := br0 q45 H
    refine J_iconst (0 : Int32) dX12_correct_226 kc_0 ?_
    cases H
    exact J_iretI dX12_correct_227 rfl
noncomputable def MX12_correct_197 (h : Hp) (v0 : Nat) (v1 : Int32) (v2 : Int32) (v3 : Int32) (v4 : Int32) (v5 : Int32) (v6 : Int32) : Option (Int32 × Hp) :=
  gg (β := (Int32 × Hp)) (kd h v0 = 11) <|
  Option.bind (α := Int32) (β := (Int32 × Hp)) (MX12_machine0 h v3) fun (t40 : Int32) =>
  gg (β := (Int32 × Hp)) (kd h (gP h v0 1) = 20) <|
  gg (β := (Int32 × Hp)) (inB (t40 + (29 : Int32)) (ln h (gP h v0 1)) = true) <|
  if (gI h (gP h v0 1) (t40 + (29 : Int32)).toNatClampNeg) = (30 : Int32) then
    lt (α := Hp) (β := Option (Int32 × Hp)) (sI h v0 0 (4 : Int32)) fun (h175 : Hp) =>
    MX12_correct_219 h175 v0 v1 v2 v3 v4 v5 v6
  else
    MX12_correct_219 h v0 v1 v2 v3 v4 v5 v6
set_option maxRecDepth 100000 in
set_option maxHeartbeats 8000000 in
theorem kX12_correct_197 {d : Nat} {h : Hp} {v0 : Nat} {v1 : Int32} {v2 : Int32} {v3 : Int32} {v4 : Int32} {v5 : Int32} {v6 : Int32} {r : Int32} {h9 : Hp} (H : MX12_correct_197 h v0 v1 v2 v3 v4 v5 v6 = some (r, h9)) : J (d + 5) YX12_correct 197 [.ref v0, .int v1, .int v2, .int v3, .int v4, .int v5, .int v6, Value.null, Value.null, Value.null, Value.null, Value.null, Value.null, Value.null] [] h (oI r) h9 := by
  unfold MX12_correct_197 at H
  refine J_aload_n 0 dX12_correct_197 rfl rfl ?_
  obtain ⟨g38, H⟩ := gd H
  refine J_gP 11 1 dX12_correct_198 g38 flX12_8 rfl rfl ?_
  refine J_iload_n 3 dX12_correct_201 rfl rfl ?_
  obtain ⟨t40, e39, H⟩ := bd H
  refine J_cS (as := [.int v3]) YX12_machine0 1 dX12_correct_202 moX12_machine0 msX12_machine0 mlX12_360 (okX12_machine0 (d := d + 4) e39) rfl rfl [.ref (gP h v0 1)] rfl rfl (st2 := [.int t40, .ref (gP h v0 1)]) rfl ?_
  refine J_bipush (29 : Int32) dX12_correct_205 kb_29 ?_
  refine J_iadd dX12_correct_207 ?_
  obtain ⟨g41, H⟩ := gd H
  obtain ⟨g42, H⟩ := gd H
  refine J_iald dX12_correct_208 g41 (inB_ok g42) ?_
  refine J_bipush (30 : Int32) dX12_correct_209 kb_30 ?_
  refine J_icmp_ne 219 dX12_correct_211 rfl (fun q43 => ?_) (fun q43 => ?_)
  · replace H := br0 q43 H
    exact J_dr (kX12_correct_219 H ) ⟨rfl, ⟨rfl, ⟨rfl, ⟨rfl, ⟨rfl, ⟨rfl, ⟨rfl, trivial⟩⟩⟩⟩⟩⟩⟩
  · replace H := br1 q43 H
    refine J_aload_n 0 dX12_correct_214 rfl rfl ?_
    refine J_iconst (4 : Int32) dX12_correct_215 kc_4 ?_
    obtain ⟨h175, e176, H⟩ := lt_el H
    refine J_pI 11 0 dX12_correct_216 g38 flX12_122 rfl rfl e176 ?_
    have c177 := ekI e176
    have c178 := elI e176
    have c179 := epI e176
    exact J_dr (kX12_correct_219 H ) ⟨rfl, ⟨rfl, ⟨rfl, ⟨rfl, ⟨rfl, ⟨rfl, ⟨rfl, trivial⟩⟩⟩⟩⟩⟩⟩
noncomputable def MX12_correct_136 (h : Hp) (v0 : Nat) (v1 : Int32) (v2 : Int32) (v3 : Int32) (v4 : Int32) (v5 : Int32) (v6 : Int32) : Option (Int32 × Hp) :=
  gg (β := (Int32 × Hp)) (kd h v0 = 11) <|
  lt (α := Hp) (β := Option (Int32 × Hp)) (sI h v0 9 (-1 : Int32)) fun (h23 : Hp) =>
  gg (β := (Int32 × Hp)) (kd h (gP h v0 1) = 20) <|
  gg (β := (Int32 × Hp)) (inB (v4 + (1 : Int32)) (ln h (gP h v0 1)) = true) <|
  b2 (α := Int32) (β := Hp) (γ := (Int32 × Hp)) (MX12_readOne h23 v0 ((gI h23 (gP h v0 1) (v4 + (1 : Int32)).toNatClampNeg) - v6)) fun (t32 : Int32) (h31 : Hp) =>
  if t32 = 0 then
    gg (β := (Int32 × Hp)) (kd h31 v0 = 11) <|
    lt (α := Hp) (β := Option (Int32 × Hp)) (sI h31 v0 0 (2 : Int32)) fun (h189 : Hp) =>
    MX12_correct_219 h189 v0 v1 v2 v3 v4 v5 v6
  else
    gg (β := (Int32 × Hp)) (kd h31 v0 = 11) <|
    gg (β := (Int32 × Hp)) (kd h31 (gP h31 v0 1) = 20) <|
    gg (β := (Int32 × Hp)) (inB (v4 + (3 : Int32)) (ln h31 (gP h31 v0 1)) = true) <|
    if (gI h31 (gP h31 v0 1) (v4 + (3 : Int32)).toNatClampNeg) = (1 : Int32) then
      Option.bind (α := Int32) (β := (Int32 × Hp)) (MX12_hasJob h31 v0 v1) fun (t181 : Int32) =>
      if t181 = 0 then
        MX12_correct_197 h31 v0 v1 v2 v3 v4 v5 v6
      else
        lt (α := Hp) (β := Option (Int32 × Hp)) (sI h31 v0 0 (3 : Int32)) fun (h183 : Hp) =>
        MX12_correct_219 h183 v0 v1 v2 v3 v4 v5 v6
    else
      MX12_correct_197 h31 v0 v1 v2 v3 v4 v5 v6
set_option maxRecDepth 100000 in
set_option maxHeartbeats 8000000 in
theorem kX12_correct_136 {d : Nat} {h : Hp} {v0 : Nat} {v1 : Int32} {v2 : Int32} {v3 : Int32} {v4 : Int32} {v5 : Int32} {v6 : Int32} {r : Int32} {h9 : Hp} (H : MX12_correct_136 h v0 v1 v2 v3 v4 v5 v6 = some (r, h9)) : J (d + 5) YX12_correct 136 [.ref v0, .int v1, .int v2, .int v3, .int v4, .int v5, .int v6, Value.null, Value.null, Value.null, Value.null, Value.null, Value.null, Value.null] [] h (oI r) h9 := by
  unfold MX12_correct_136 at H
  refine J_aload_n 0 dX12_correct_136 rfl rfl ?_
  refine J_iconst (-1 : Int32) dX12_correct_137 kc_m1 ?_
  obtain ⟨g22, H⟩ := gd H
  obtain ⟨h23, e24, H⟩ := lt_el H
  refine J_pI 11 9 dX12_correct_138 g22 flX12_23 rfl rfl e24 ?_
  have c25 := ekI e24
  have c26 := elI e24
  have c27 := epI e24
  refine J_aload_n 0 dX12_correct_141 rfl rfl ?_
  refine J_aload_n 0 dX12_correct_142 rfl rfl ?_
  refine J_gP 11 1 dX12_correct_143 (kq c25 g22) flX12_8 rfl (congrFun (congrFun c27 v0) 1) ?_
  refine J_iload dX12_correct_146 rfl ?_
  refine J_iconst (1 : Int32) dX12_correct_148 kc_1 ?_
  refine J_iadd dX12_correct_149 ?_
  obtain ⟨g28, H⟩ := gd H
  obtain ⟨g29, H⟩ := gd H
  refine J_iald dX12_correct_150 (kq c25 g28) (lq c26 g29) ?_
  refine J_iload dX12_correct_151 rfl ?_
  refine J_isub dX12_correct_153 ?_
  obtain ⟨t32, h31, e30, H⟩ := b2_el H
  refine J_cV (as := [.int ((gI h23 (gP h v0 1) (v4 + (1 : Int32)).toNatClampNeg) - v6)]) 11 YX12_readOne 1 dX12_correct_154 moX12_readOne mvX12_readOne mlX12_405 (kq c25 g22) rfl rfl (okX12_readOne (d := d + 2) e30) rfl rfl [] rfl rfl (st2 := [.int t32]) rfl ?_
  refine J_if_ne 168 dX12_correct_157 rfl (fun q33 => ?_) (fun q33 => ?_)
  · replace H := br0 q33 H
    refine J_aload_n 0 dX12_correct_168 rfl rfl ?_
    obtain ⟨g34, H⟩ := gd H
    refine J_gP 11 1 dX12_correct_169 g34 flX12_8 rfl rfl ?_
    refine J_iload dX12_correct_172 rfl ?_
    refine J_iconst (3 : Int32) dX12_correct_174 kc_3 ?_
    refine J_iadd dX12_correct_175 ?_
    obtain ⟨g35, H⟩ := gd H
    obtain ⟨g36, H⟩ := gd H
    refine J_iald dX12_correct_176 g35 (inB_ok g36) ?_
    refine J_iconst (1 : Int32) dX12_correct_177 kc_1 ?_
    refine J_icmp_ne 197 dX12_correct_178 rfl (fun q37 => ?_) (fun q37 => ?_)
    · replace H := br0 q37 H
      exact J_dr (kX12_correct_197 H ) ⟨rfl, ⟨rfl, ⟨rfl, ⟨rfl, ⟨rfl, ⟨rfl, ⟨rfl, trivial⟩⟩⟩⟩⟩⟩⟩
    · replace H := br1 q37 H
      refine J_aload_n 0 dX12_correct_181 rfl rfl ?_
      refine J_iload_n 1 dX12_correct_182 rfl rfl ?_
      obtain ⟨t181, e180, H⟩ := bd H
      refine J_cV (as := [.int v1]) 11 YX12_hasJob 1 dX12_correct_183 moX12_hasJob mvX12_hasJob mlX12_408 g34 rfl rfl (okX12_hasJob (d := d + 3) e180) rfl rfl [] rfl rfl (st2 := [.int t181]) rfl ?_
      refine J_if_eq 197 dX12_correct_186 rfl (fun q182 => ?_) (fun q182 => ?_)
      · replace H := br1 q182 H
        exact J_dr (kX12_correct_197 H ) ⟨rfl, ⟨rfl, ⟨rfl, ⟨rfl, ⟨rfl, ⟨rfl, ⟨rfl, trivial⟩⟩⟩⟩⟩⟩⟩
      · replace H := br0 q182 H
        refine J_aload_n 0 dX12_correct_189 rfl rfl ?_
        refine J_iconst (3 : Int32) dX12_correct_190 kc_3 ?_
        obtain ⟨h183, e184, H⟩ := lt_el H
        refine J_pI 11 0 dX12_correct_191 g34 flX12_122 rfl rfl e184 ?_
        have c185 := ekI e184
        have c186 := elI e184
        have c187 := epI e184
        refine J_goto 219 dX12_correct_194 rfl ?_
        exact J_dr (kX12_correct_219 H ) ⟨rfl, ⟨rfl, ⟨rfl, ⟨rfl, ⟨rfl, ⟨rfl, ⟨rfl, trivial⟩⟩⟩⟩⟩⟩⟩
  · replace H := br1 q33 H
    refine J_aload_n 0 dX12_correct_160 rfl rfl ?_
    refine J_iconst (2 : Int32) dX12_correct_161 kc_2 ?_
    obtain ⟨g188, H⟩ := gd H
    obtain ⟨h189, e190, H⟩ := lt_el H
    refine J_pI 11 0 dX12_correct_162 g188 flX12_122 rfl rfl e190 ?_
    have c191 := ekI e190
    have c192 := elI e190
    have c193 := epI e190
    refine J_goto 219 dX12_correct_165 rfl ?_
    exact J_dr (kX12_correct_219 H ) ⟨rfl, ⟨rfl, ⟨rfl, ⟨rfl, ⟨rfl, ⟨rfl, ⟨rfl, trivial⟩⟩⟩⟩⟩⟩⟩
noncomputable def MX12_correct_125 (h : Hp) (v0 : Nat) (v1 : Int32) (v2 : Int32) (v3 : Int32) (v4 : Int32) (v6 : Int32) (v7 : Int32) (s0 : Int32) : Option ((Int32 × Int32 × Int32) ⊕ (Int32 × Hp)) :=
  some (.inl (s0, (v6 + (1 : Int32)), (v7 + (1 : Int32))))
set_option maxRecDepth 100000 in
set_option maxHeartbeats 8000000 in
theorem kX12_correct_125 {d : Nat} {h : Hp} {v0 : Nat} {v1 : Int32} {v2 : Int32} {v3 : Int32} {v4 : Int32} {v6 : Int32} {v7 : Int32} {s0 : Int32} {r : Int32} {h9 : Hp} {x : ((Int32 × Int32 × Int32) ⊕ (Int32 × Hp))} (H : MX12_correct_125 h v0 v1 v2 v3 v4 v6 v7 s0 = some x) (hb0 : ∀ s : Int32 × Int32 × Int32, x = .inl s → J (d + 5) YX12_correct 78 [.ref v0, .int v1, .int v2, .int v3, .int v4, .int s.1, .int s.2.1, .int s.2.2, Value.null, Value.null, Value.null, Value.null, Value.null, Value.null] [] h (oI r) h9) (hx : ∀ z : (Int32 × Hp), x = .inr (z) → z = (r, h9)) : J (d + 5) YX12_correct 125 [.ref v0, .int v1, .int v2, .int v3, .int v4, Value.null, .int v6, .int v7, Value.null, Value.null, Value.null, Value.null, Value.null, Value.null] [.int s0] h (oI r) h9 := by
  unfold MX12_correct_125 at H
  refine J_istore dX12_correct_125 (by decide) (ls' := [.ref v0, .int v1, .int v2, .int v3, .int v4, .int s0, .int v6, .int v7, Value.null, Value.null, Value.null, Value.null, Value.null, Value.null]) rfl ?_
  refine J_iinc (v6 + (1 : Int32)) dX12_correct_127 rfl (congrArg (HAdd.hAdd v6) kc_1) (by decide) (ls' := [.ref v0, .int v1, .int v2, .int v3, .int v4, .int s0, .int (v6 + (1 : Int32)), .int v7, Value.null, Value.null, Value.null, Value.null, Value.null, Value.null]) rfl ?_
  refine J_iinc (v7 + (1 : Int32)) dX12_correct_130 rfl (congrArg (HAdd.hAdd v7) kc_1) (by decide) (ls' := [.ref v0, .int v1, .int v2, .int v3, .int v4, .int s0, .int (v6 + (1 : Int32)), .int (v7 + (1 : Int32)), Value.null, Value.null, Value.null, Value.null, Value.null, Value.null]) rfl ?_
  refine J_goto 78 dX12_correct_133 rfl ?_
  cases H
  exact J_dr (hb0 _ rfl) ⟨rfl, ⟨rfl, ⟨rfl, ⟨rfl, ⟨rfl, ⟨rfl, ⟨rfl, ⟨rfl, trivial⟩⟩⟩⟩⟩⟩⟩⟩
noncomputable def BX12_correct_78 (h : Hp) (v0 : Nat) (v1 : Int32) (v2 : Int32) (v3 : Int32) (v4 : Int32) (v5 : Int32) (v6 : Int32) (v7 : Int32) : Option ((Int32 × Int32 × Int32) ⊕ (Int32 × Hp)) :=
  gg (β := ((Int32 × Int32 × Int32) ⊕ (Int32 × Hp))) (kd h v0 = 11) <|
  gg (β := ((Int32 × Int32 × Int32) ⊕ (Int32 × Hp))) (kd h (gP h v0 1) = 20) <|
  gg (β := ((Int32 × Int32 × Int32) ⊕ (Int32 × Hp))) (inB (v4 + (1 : Int32)) (ln h (gP h v0 1)) = true) <|
  if (gI h (gP h v0 1) (v4 + (1 : Int32)).toNatClampNeg) ≤ v7 then
    up1 (MX12_correct_136 h v0 v1 v2 v3 v4 v5 v6)
  else
    gg (β := ((Int32 × Int32 × Int32) ⊕ (Int32 × Hp))) (inB ((v4 + (85 : Int32)) + v7) (ln h (gP h v0 1)) = true) <|
    if (gI h (gP h v0 1) ((v4 + (85 : Int32)) + v7).toNatClampNeg) = v2 then
      if v5 = (-1 : Int32) then
        MX12_correct_125 h v0 v1 v2 v3 v4 v6 v7 v7
      else
        MX12_correct_125 h v0 v1 v2 v3 v4 v6 v7 v5
    else
      some (.inl (v5, v6, (v7 + (1 : Int32))))
set_option maxRecDepth 100000 in
set_option maxHeartbeats 8000000 in
theorem bX12_correct_78 {d : Nat} {h : Hp} {v0 : Nat} {v1 : Int32} {v2 : Int32} {v3 : Int32} {v4 : Int32} {v5 : Int32} {v6 : Int32} {v7 : Int32} {r : Int32} {h9 : Hp} {x : ((Int32 × Int32 × Int32) ⊕ (Int32 × Hp))} (H : BX12_correct_78 h v0 v1 v2 v3 v4 v5 v6 v7 = some x) (hb0 : ∀ s : Int32 × Int32 × Int32, x = .inl s → J (d + 5) YX12_correct 78 [.ref v0, .int v1, .int v2, .int v3, .int v4, .int s.1, .int s.2.1, .int s.2.2, Value.null, Value.null, Value.null, Value.null, Value.null, Value.null] [] h (oI r) h9) (hx : ∀ z : (Int32 × Hp), x = .inr (z) → z = (r, h9)) : J (d + 5) YX12_correct 78 [.ref v0, .int v1, .int v2, .int v3, .int v4, .int v5, .int v6, .int v7, Value.null, Value.null, Value.null, Value.null, Value.null, Value.null] [] h (oI r) h9 := by
  unfold BX12_correct_78 at H
  refine J_iload dX12_correct_78 rfl ?_
  refine J_aload_n 0 dX12_correct_80 rfl rfl ?_
  obtain ⟨g18, H⟩ := gd H
  refine J_gP 11 1 dX12_correct_81 g18 flX12_8 rfl rfl ?_
  refine J_iload dX12_correct_84 rfl ?_
  refine J_iconst (1 : Int32) dX12_correct_86 kc_1 ?_
  refine J_iadd dX12_correct_87 ?_
  obtain ⟨g19, H⟩ := gd H
  obtain ⟨g20, H⟩ := gd H
  refine J_iald dX12_correct_88 g19 (inB_ok g20) ?_
  refine J_icmp_ge 136 dX12_correct_89 rfl (fun q21 => ?_) (fun q21 => ?_)
  · replace H := br1 q21 H
    obtain ⟨y0, H90, rfl⟩ := up1_el H
    replace H := H90
    obtain rfl := hx _ rfl
    exact J_dr (kX12_correct_136 H ) ⟨rfl, ⟨rfl, ⟨rfl, ⟨rfl, ⟨rfl, ⟨rfl, ⟨rfl, trivial⟩⟩⟩⟩⟩⟩⟩
  · replace H := br0 q21 H
    refine J_aload_n 0 dX12_correct_92 rfl rfl ?_
    refine J_gP 11 1 dX12_correct_93 g18 flX12_8 rfl rfl ?_
    refine J_iload dX12_correct_96 rfl ?_
    refine J_bipush (85 : Int32) dX12_correct_98 kb_85 ?_
    refine J_iadd dX12_correct_100 ?_
    refine J_iload dX12_correct_101 rfl ?_
    refine J_iadd dX12_correct_103 ?_
    obtain ⟨g194, H⟩ := gd H
    refine J_iald dX12_correct_104 g19 (inB_ok g194) ?_
    refine J_iload_n 2 dX12_correct_105 rfl rfl ?_
    refine J_icmp_eq 112 dX12_correct_106 rfl (fun q195 => ?_) (fun q195 => ?_)
    · replace H := br1 q195 H
      refine J_iload dX12_correct_112 rfl ?_
      refine J_iconst (-1 : Int32) dX12_correct_114 kc_m1 ?_
      refine J_icmp_ne 123 dX12_correct_115 rfl (fun q196 => ?_) (fun q196 => ?_)
      · replace H := br0 q196 H
        refine J_iload dX12_correct_123 rfl ?_
        exact J_dr (kX12_correct_125 H hb0 hx) ⟨rfl, ⟨rfl, ⟨rfl, ⟨rfl, ⟨rfl, ⟨rfl, ⟨rfl, trivial⟩⟩⟩⟩⟩⟩⟩
      · replace H := br1 q196 H
        refine J_iload dX12_correct_118 rfl ?_
        refine J_goto 125 dX12_correct_120 rfl ?_
        exact J_dr (kX12_correct_125 H hb0 hx) ⟨rfl, ⟨rfl, ⟨rfl, ⟨rfl, ⟨rfl, ⟨rfl, ⟨rfl, trivial⟩⟩⟩⟩⟩⟩⟩
    · replace H := br0 q195 H
      refine J_goto 130 dX12_correct_109 rfl ?_
      refine J_iinc (v7 + (1 : Int32)) dX12_correct_130 rfl (congrArg (HAdd.hAdd v7) kc_1) (by decide) (ls' := [.ref v0, .int v1, .int v2, .int v3, .int v4, .int v5, .int v6, .int (v7 + (1 : Int32)), Value.null, Value.null, Value.null, Value.null, Value.null, Value.null]) rfl ?_
      refine J_goto 78 dX12_correct_133 rfl ?_
      cases H
      exact J_dr (hb0 _ rfl) ⟨rfl, ⟨rfl, ⟨rfl, ⟨rfl, ⟨rfl, ⟨rfl, ⟨rfl, ⟨rfl, trivial⟩⟩⟩⟩⟩⟩⟩⟩
noncomputable def MX12_correct_78 (h : Hp) (v0 : Nat) (v1 : Int32) (v2 : Int32) (v3 : Int32) (v4 : Int32) (v5 : Int32) (v6 : Int32) (v7 : Int32) : Option (Int32 × Hp) := it (fun q : Int32 × Int32 × Int32 => BX12_correct_78 h v0 v1 v2 v3 v4 q.1 q.2.1 q.2.2) (v5, v6, v7)
set_option maxRecDepth 100000 in
set_option maxHeartbeats 8000000 in
theorem kX12_correct_78 {d : Nat} {h : Hp} {v0 : Nat} {v1 : Int32} {v2 : Int32} {v3 : Int32} {v4 : Int32} {v5 : Int32} {v6 : Int32} {v7 : Int32} {r : Int32} {h9 : Hp} (H : MX12_correct_78 h v0 v1 v2 v3 v4 v5 v6 v7 = some (r, h9)) : J (d + 5) YX12_correct 78 [.ref v0, .int v1, .int v2, .int v3, .int v4, .int v5, .int v6, .int v7, Value.null, Value.null, Value.null, Value.null, Value.null, Value.null] [] h (oI r) h9 := by
  unfold MX12_correct_78 at H
  refine it_J (G := (fun q : Int32 × Int32 × Int32 => J (d + 5) YX12_correct 78 [.ref v0, .int v1, .int v2, .int v3, .int v4, .int q.1, .int q.2.1, .int q.2.2, Value.null, Value.null, Value.null, Value.null, Value.null, Value.null] [] h (oI r) h9)) (Q := (fun y : (Int32 × Hp) => y = (r, h9))) (fun q x Hq hm => ?_) H rfl
  exact bX12_correct_78 Hq (fun s hs => by subst hs; exact hm) (fun z hz => by subst hz; exact hm)
noncomputable def MX12_correct_51 (h : Hp) (v0 : Nat) (v1 : Int32) (v2 : Int32) (v3 : Int32) (s0 : Nat) (s1 : Int32) : Option (Int32 × Hp) :=
  gg (β := (Int32 × Hp)) (kd h s0 = 11) <|
  lt (α := Hp) (β := Option (Int32 × Hp)) (sI h s0 0 s1) fun (h9 : Hp) =>
  gg (β := (Int32 × Hp)) (kd h v0 = 11) <|
  if (gI h9 v0 0) ≤ 0 then
    Option.bind (α := Int32) (β := (Int32 × Hp)) (MX12_part0 h9 v1) fun (t17 : Int32) =>
    MX12_correct_78 h9 v0 v1 v2 v3 t17 (-1 : Int32) (0 : Int32) (0 : Int32)
  else
    some ((0 : Int32), h9)
set_option maxRecDepth 100000 in
set_option maxHeartbeats 8000000 in
theorem kX12_correct_51 {d : Nat} {h : Hp} {v0 : Nat} {v1 : Int32} {v2 : Int32} {v3 : Int32} {s0 : Nat} {s1 : Int32} {r : Int32} {h9 : Hp} (H : MX12_correct_51 h v0 v1 v2 v3 s0 s1 = some (r, h9)) : J (d + 5) YX12_correct 51 [.ref v0, .int v1, .int v2, .int v3, Value.null, Value.null, Value.null, Value.null, Value.null, Value.null, Value.null, Value.null, Value.null, Value.null] [.int s1, .ref s0] h (oI r) h9 := by
  unfold MX12_correct_51 at H
  obtain ⟨g8, H⟩ := gd H
  obtain ⟨h9, e10, H⟩ := lt_el H
  refine J_pI 11 0 dX12_correct_51 g8 flX12_122 rfl rfl e10 ?_
  have c11 := ekI e10
  have c12 := elI e10
  have c13 := epI e10
  refine J_aload_n 0 dX12_correct_54 rfl rfl ?_
  obtain ⟨g14, H⟩ := gd H
  refine J_getI 11 0 dX12_correct_55 (kq c11 g14) flX12_122 rfl ?_
  refine J_if_le 63 dX12_correct_58 rfl (fun q15 => ?_) (fun q15 => ?_)
  · replace H := br1 q15 H
    refine J_iload_n 1 dX12_correct_63 rfl rfl ?_
    obtain ⟨t17, e16, H⟩ := bd H
    refine J_cS (as := [.int v1]) YX12_part0 1 dX12_correct_64 moX12_part0 msX12_part0 mlX12_164 (okX12_part0 (d := d + 4) e16) rfl rfl [] rfl rfl (st2 := [.int t17]) rfl ?_
    refine J_istore dX12_correct_67 (by decide) (ls' := [.ref v0, .int v1, .int v2, .int v3, .int t17, Value.null, Value.null, Value.null, Value.null, Value.null, Value.null, Value.null, Value.null, Value.null]) rfl ?_
    refine J_iconst (-1 : Int32) dX12_correct_69 kc_m1 ?_
    refine J_istore dX12_correct_70 (by decide) (ls' := [.ref v0, .int v1, .int v2, .int v3, .int t17, .int (-1 : Int32), Value.null, Value.null, Value.null, Value.null, Value.null, Value.null, Value.null, Value.null]) rfl ?_
    refine J_iconst (0 : Int32) dX12_correct_72 kc_0 ?_
    refine J_istore dX12_correct_73 (by decide) (ls' := [.ref v0, .int v1, .int v2, .int v3, .int t17, .int (-1 : Int32), .int (0 : Int32), Value.null, Value.null, Value.null, Value.null, Value.null, Value.null, Value.null]) rfl ?_
    refine J_iconst (0 : Int32) dX12_correct_75 kc_0 ?_
    refine J_istore dX12_correct_76 (by decide) (ls' := [.ref v0, .int v1, .int v2, .int v3, .int t17, .int (-1 : Int32), .int (0 : Int32), .int (0 : Int32), Value.null, Value.null, Value.null, Value.null, Value.null, Value.null]) rfl ?_
    exact J_dr (kX12_correct_78 H ) ⟨rfl, ⟨rfl, ⟨rfl, ⟨rfl, ⟨rfl, ⟨rfl, ⟨rfl, ⟨rfl, trivial⟩⟩⟩⟩⟩⟩⟩⟩
  · replace H := br0 q15 H
    refine J_iconst (0 : Int32) dX12_correct_61 kc_0 ?_
    cases H
    exact J_iretI dX12_correct_62 rfl
noncomputable def MX12_correct_21 (h : Hp) (v0 : Nat) (v1 : Int32) (v2 : Int32) (v3 : Int32) (s0 : Nat) : Option (Int32 × Hp) :=
  MX12_correct_51 h v0 v1 v2 v3 s0 (1 : Int32)
set_option maxRecDepth 100000 in
set_option maxHeartbeats 8000000 in
theorem kX12_correct_21 {d : Nat} {h : Hp} {v0 : Nat} {v1 : Int32} {v2 : Int32} {v3 : Int32} {s0 : Nat} {r : Int32} {h9 : Hp} (H : MX12_correct_21 h v0 v1 v2 v3 s0 = some (r, h9)) : J (d + 5) YX12_correct 21 [.ref v0, .int v1, .int v2, .int v3, Value.null, Value.null, Value.null, Value.null, Value.null, Value.null, Value.null, Value.null, Value.null, Value.null] [.ref s0] h (oI r) h9 := by
  unfold MX12_correct_21 at H
  refine J_iconst (1 : Int32) dX12_correct_21 kc_1 ?_
  refine J_goto 51 dX12_correct_22 rfl ?_
  exact J_dr (kX12_correct_51 H ) ⟨rfl, ⟨rfl, ⟨rfl, ⟨rfl, trivial⟩⟩⟩⟩
noncomputable def MX12_correct (h : Hp) (v0 : Nat) (v1 : Int32) (v2 : Int32) (v3 : Int32) : Option (Int32 × Hp) :=
  gg (β := (Int32 × Hp)) (kd h v0 = 11) <|
  Option.bind (α := Hp) (β := (Int32 × Hp)) (MX12_use h v0) fun (h3 : Hp) =>
  gg (β := (Int32 × Hp)) (kd h3 v0 = 11) <|
  Option.bind (α := Int32) (β := (Int32 × Hp)) (MX12_isPart h3 v0 v1) fun (t6 : Int32) =>
  if t6 = 0 then
    MX12_correct_21 h3 v0 v1 v2 v3 v0
  else
    Option.bind (α := Int32) (β := (Int32 × Hp)) (MX12_isMachine h3 v0 v3) fun (t198 : Int32) =>
    if t198 = 0 then
      MX12_correct_21 h3 v0 v1 v2 v3 v0
    else
      Option.bind (α := Int32) (β := (Int32 × Hp)) (MX12_part0 h3 v1) fun (t201 : Int32) =>
      gg (β := (Int32 × Hp)) (kd h3 (gP h3 v0 1) = 20) <|
      gg (β := (Int32 × Hp)) (inB (t201 + (0 : Int32)) (ln h3 (gP h3 v0 1)) = true) <|
      Option.bind (α := Int32) (β := (Int32 × Hp)) (MX12_isIn h3 v2 (0 : Int32) ((gI h3 (gP h3 v0 1) (t201 + (0 : Int32)).toNatClampNeg) - (1 : Int32))) fun (t205 : Int32) =>
      if t205 = 0 then
        MX12_correct_51 h3 v0 v1 v2 v3 v0 (1 : Int32)
      else
        MX12_correct_51 h3 v0 v1 v2 v3 v0 (0 : Int32)
set_option maxRecDepth 100000 in
set_option maxHeartbeats 8000000 in
theorem eX12_correct {d : Nat} {h : Hp} {v0 : Nat} {v1 : Int32} {v2 : Int32} {v3 : Int32} {r : Int32} {h9 : Hp} (H : MX12_correct h v0 v1 v2 v3 = some (r, h9)) : J (d + 5) YX12_correct 0 [.ref v0, .int v1, .int v2, .int v3, Value.null, Value.null, Value.null, Value.null, Value.null, Value.null, Value.null, Value.null, Value.null, Value.null] [] h (oI r) h9 := by
  unfold MX12_correct at H
  refine J_aload_n 0 dX12_correct_0 rfl rfl ?_
  obtain ⟨g2, H⟩ := gd H
  obtain ⟨h3, e1, H⟩ := bd H
  refine J_cV (as := []) 11 YX12_use 0 dX12_correct_1 moX12_use mvX12_use mlX12_154 g2 rfl rfl (okX12_use (d := d + 4) e1) rfl rfl [] rfl rfl (st2 := []) rfl ?_
  refine J_aload_n 0 dX12_correct_4 rfl rfl ?_
  refine J_aload_n 0 dX12_correct_5 rfl rfl ?_
  refine J_iload_n 1 dX12_correct_6 rfl rfl ?_
  obtain ⟨g5, H⟩ := gd H
  obtain ⟨t6, e4, H⟩ := bd H
  refine J_cV (as := [.int v1]) 11 YX12_isPart 1 dX12_correct_7 moX12_isPart mvX12_isPart mlX12_311 g5 rfl rfl (okX12_isPart (d := d + 4) e4) rfl rfl [.ref v0] rfl rfl (st2 := [.int t6, .ref v0]) rfl ?_
  refine J_if_eq 21 dX12_correct_10 rfl (fun q7 => ?_) (fun q7 => ?_)
  · replace H := br1 q7 H
    exact J_dr (kX12_correct_21 H ) ⟨rfl, ⟨rfl, ⟨rfl, ⟨rfl, trivial⟩⟩⟩⟩
  · replace H := br0 q7 H
    refine J_aload_n 0 dX12_correct_13 rfl rfl ?_
    refine J_iload_n 3 dX12_correct_14 rfl rfl ?_
    obtain ⟨t198, e197, H⟩ := bd H
    refine J_cV (as := [.int v3]) 11 YX12_isMachine 1 dX12_correct_15 moX12_isMachine mvX12_isMachine mlX12_363 g5 rfl rfl (okX12_isMachine (d := d + 4) e197) rfl rfl [.ref v0] rfl rfl (st2 := [.int t198, .ref v0]) rfl ?_
    refine J_if_ne 25 dX12_correct_18 rfl (fun q199 => ?_) (fun q199 => ?_)
    · replace H := br0 q199 H
      refine J_iload_n 2 dX12_correct_25 rfl rfl ?_
      refine J_iconst (0 : Int32) dX12_correct_26 kc_0 ?_
      refine J_aload_n 0 dX12_correct_27 rfl rfl ?_
      refine J_gP 11 1 dX12_correct_28 g5 flX12_8 rfl rfl ?_
      refine J_iload_n 1 dX12_correct_31 rfl rfl ?_
      obtain ⟨t201, e200, H⟩ := bd H
      refine J_cS (as := [.int v1]) YX12_part0 1 dX12_correct_32 moX12_part0 msX12_part0 mlX12_164 (okX12_part0 (d := d + 4) e200) rfl rfl [.ref (gP h3 v0 1), .int (0 : Int32), .int v2, .ref v0] rfl rfl (st2 := [.int t201, .ref (gP h3 v0 1), .int (0 : Int32), .int v2, .ref v0]) rfl ?_
      refine J_iconst (0 : Int32) dX12_correct_35 kc_0 ?_
      refine J_iadd dX12_correct_36 ?_
      obtain ⟨g202, H⟩ := gd H
      obtain ⟨g203, H⟩ := gd H
      refine J_iald dX12_correct_37 g202 (inB_ok g203) ?_
      refine J_iconst (1 : Int32) dX12_correct_38 kc_1 ?_
      refine J_isub dX12_correct_39 ?_
      obtain ⟨t205, e204, H⟩ := bd H
      refine J_cS (as := [.int v2, .int (0 : Int32), .int ((gI h3 (gP h3 v0 1) (t201 + (0 : Int32)).toNatClampNeg) - (1 : Int32))]) YX12_isIn 3 dX12_correct_40 moX12_isIn msX12_isIn mlX12_157 (okX12_isIn (d := d + 4) e204) rfl rfl [.ref v0] rfl rfl (st2 := [.int t205, .ref v0]) rfl ?_
      refine J_if_ne 50 dX12_correct_43 rfl (fun q206 => ?_) (fun q206 => ?_)
      · replace H := br0 q206 H
        refine J_iconst (0 : Int32) dX12_correct_50 kc_0 ?_
        exact J_dr (kX12_correct_51 H ) ⟨rfl, ⟨rfl, ⟨rfl, ⟨rfl, trivial⟩⟩⟩⟩
      · replace H := br1 q206 H
        refine J_iconst (1 : Int32) dX12_correct_46 kc_1 ?_
        refine J_goto 51 dX12_correct_47 rfl ?_
        exact J_dr (kX12_correct_51 H ) ⟨rfl, ⟨rfl, ⟨rfl, ⟨rfl, trivial⟩⟩⟩⟩
    · replace H := br1 q199 H
      exact J_dr (kX12_correct_21 H ) ⟨rfl, ⟨rfl, ⟨rfl, ⟨rfl, trivial⟩⟩⟩⟩
theorem okX12_correct {d : Nat} {h : Hp} {v0 : Nat} {v1 : Int32} {v2 : Int32} {v3 : Int32} {r : Int32} {h9 : Hp} (H : MX12_correct h v0 v1 v2 v3 = some (r, h9)) : CT (d + 5) YX12_correct [.ref v0, .int v1, .int v2, .int v3] h (oI r) h9 := CT_of (by decide +kernel) (Nat.le_of_ble_eq_true rfl) (eX12_correct H)
noncomputable def MX12_isWrong_61 (h : Hp) (v0 : Nat) (v2 : Int32) (v4 : Int32) (s0 : Int32) : Option ((Int32 × Int32) ⊕ Int32) :=
  some (.inl (s0, (v4 + (1 : Int32))))
set_option maxRecDepth 100000 in
set_option maxHeartbeats 8000000 in
theorem kX12_isWrong_61 {d : Nat} {h : Hp} {v0 : Nat} {v2 : Int32} {v4 : Int32} {s0 : Int32} {r : Int32} {x : ((Int32 × Int32) ⊕ Int32)} (H : MX12_isWrong_61 h v0 v2 v4 s0 = some x) (hb0 : ∀ s : Int32 × Int32, x = .inl s → J (d + 1) YX12_isWrong 10 [.ref v0, Value.null, .int v2, .int s.1, .int s.2] [] h (oI r) h) (hx : ∀ z : Int32, x = .inr (z) → z = r) : J (d + 1) YX12_isWrong 61 [.ref v0, Value.null, .int v2, Value.null, .int v4] [.int s0] h (oI r) h := by
  unfold MX12_isWrong_61 at H
  refine J_istore_n 3 dX12_isWrong_61 rfl (by decide) (ls' := [.ref v0, Value.null, .int v2, .int s0, .int v4]) rfl ?_
  refine J_iinc (v4 + (1 : Int32)) dX12_isWrong_62 rfl (congrArg (HAdd.hAdd v4) kc_1) (by decide) (ls' := [.ref v0, Value.null, .int v2, .int s0, .int (v4 + (1 : Int32))]) rfl ?_
  refine J_goto 10 dX12_isWrong_65 rfl ?_
  cases H
  exact J_dr (hb0 _ rfl) ⟨rfl, ⟨rfl, ⟨rfl, ⟨rfl, trivial⟩⟩⟩⟩
noncomputable def MX12_isWrong_56 (h : Hp) (v0 : Nat) (v2 : Int32) (v4 : Int32) : Option ((Int32 × Int32) ⊕ Int32) :=
  MX12_isWrong_61 h v0 v2 v4 (1 : Int32)
set_option maxRecDepth 100000 in
set_option maxHeartbeats 8000000 in
theorem kX12_isWrong_56 {d : Nat} {h : Hp} {v0 : Nat} {v2 : Int32} {v4 : Int32} {r : Int32} {x : ((Int32 × Int32) ⊕ Int32)} (H : MX12_isWrong_56 h v0 v2 v4 = some x) (hb0 : ∀ s : Int32 × Int32, x = .inl s → J (d + 1) YX12_isWrong 10 [.ref v0, Value.null, .int v2, .int s.1, .int s.2] [] h (oI r) h) (hx : ∀ z : Int32, x = .inr (z) → z = r) : J (d + 1) YX12_isWrong 56 [.ref v0, Value.null, .int v2, Value.null, .int v4] [] h (oI r) h := by
  unfold MX12_isWrong_56 at H
  refine J_iconst (1 : Int32) dX12_isWrong_56 kc_1 ?_
  refine J_goto 61 dX12_isWrong_57 rfl ?_
  exact J_dr (kX12_isWrong_61 H hb0 hx) ⟨rfl, ⟨rfl, ⟨rfl, trivial⟩⟩⟩
noncomputable def BX12_isWrong_10 (h : Hp) (v0 : Nat) (v2 : Int32) (v3 : Int32) (v4 : Int32) : Option ((Int32 × Int32) ⊕ Int32) :=
  gg (β := ((Int32 × Int32) ⊕ Int32)) (kd h v0 = 11) <|
  gg (β := ((Int32 × Int32) ⊕ Int32)) (kd h (gP h v0 1) = 20) <|
  gg (β := ((Int32 × Int32) ⊕ Int32)) (inB (v2 + (9 : Int32)) (ln h (gP h v0 1)) = true) <|
  if (gI h (gP h v0 1) (v2 + (9 : Int32)).toNatClampNeg) ≤ v4 then
    gg (β := ((Int32 × Int32) ⊕ Int32)) (zOk v3 = true) <|
    some (.inr (v3))
  else
    if v3 = 0 then
      gg (β := ((Int32 × Int32) ⊕ Int32)) (inB ((v2 + (12 : Int32)) + v4) (ln h (gP h v0 1)) = true) <|
      gg (β := ((Int32 × Int32) ⊕ Int32)) (inB ((v2 + (432 : Int32)) + v4) (ln h (gP h v0 1)) = true) <|
      if (gI h (gP h v0 1) ((v2 + (12 : Int32)) + v4).toNatClampNeg) = (gI h (gP h v0 1) ((v2 + (432 : Int32)) + v4).toNatClampNeg) then
        MX12_isWrong_61 h v0 v2 v4 (0 : Int32)
      else
        MX12_isWrong_56 h v0 v2 v4
    else
      MX12_isWrong_56 h v0 v2 v4
set_option maxRecDepth 100000 in
set_option maxHeartbeats 8000000 in
theorem bX12_isWrong_10 {d : Nat} {h : Hp} {v0 : Nat} {v2 : Int32} {v3 : Int32} {v4 : Int32} {r : Int32} {x : ((Int32 × Int32) ⊕ Int32)} (H : BX12_isWrong_10 h v0 v2 v3 v4 = some x) (hb0 : ∀ s : Int32 × Int32, x = .inl s → J (d + 1) YX12_isWrong 10 [.ref v0, Value.null, .int v2, .int s.1, .int s.2] [] h (oI r) h) (hx : ∀ z : Int32, x = .inr (z) → z = r) : J (d + 1) YX12_isWrong 10 [.ref v0, Value.null, .int v2, .int v3, .int v4] [] h (oI r) h := by
  unfold BX12_isWrong_10 at H
  refine J_iload dX12_isWrong_10 rfl ?_
  refine J_aload_n 0 dX12_isWrong_12 rfl rfl ?_
  obtain ⟨g3, H⟩ := gd H
  refine J_gP 11 1 dX12_isWrong_13 g3 flX12_8 rfl rfl ?_
  refine J_iload_n 2 dX12_isWrong_16 rfl rfl ?_
  refine J_bipush (9 : Int32) dX12_isWrong_17 kb_9 ?_
  refine J_iadd dX12_isWrong_19 ?_
  obtain ⟨g4, H⟩ := gd H
  obtain ⟨g5, H⟩ := gd H
  refine J_iald dX12_isWrong_20 g4 (inB_ok g5) ?_
  refine J_icmp_ge 68 dX12_isWrong_21 rfl (fun q6 => ?_) (fun q6 => ?_)
  · replace H := br1 q6 H
    refine J_iload_n 3 dX12_isWrong_68 rfl rfl ?_
    obtain ⟨g7, H⟩ := gd H
    cases H
    cases hx _ rfl
    exact J_rZ dX12_isWrong_69 rfl g7
  · replace H := br0 q6 H
    refine J_iload_n 3 dX12_isWrong_24 rfl rfl ?_
    refine J_if_ne 56 dX12_isWrong_25 rfl (fun q8 => ?_) (fun q8 => ?_)
    · replace H := br0 q8 H
      exact J_dr (kX12_isWrong_56 H hb0 hx) ⟨rfl, ⟨rfl, ⟨rfl, trivial⟩⟩⟩
    · replace H := br1 q8 H
      refine J_aload_n 0 dX12_isWrong_28 rfl rfl ?_
      refine J_gP 11 1 dX12_isWrong_29 g3 flX12_8 rfl rfl ?_
      refine J_iload_n 2 dX12_isWrong_32 rfl rfl ?_
      refine J_bipush (12 : Int32) dX12_isWrong_33 kb_12 ?_
      refine J_iadd dX12_isWrong_35 ?_
      refine J_iload dX12_isWrong_36 rfl ?_
      refine J_iadd dX12_isWrong_38 ?_
      obtain ⟨g9, H⟩ := gd H
      refine J_iald dX12_isWrong_39 g4 (inB_ok g9) ?_
      refine J_aload_n 0 dX12_isWrong_40 rfl rfl ?_
      refine J_gP 11 1 dX12_isWrong_41 g3 flX12_8 rfl rfl ?_
      refine J_iload_n 2 dX12_isWrong_44 rfl rfl ?_
      refine J_sipush (432 : Int32) dX12_isWrong_45 ks_432 ?_
      refine J_iadd dX12_isWrong_48 ?_
      refine J_iload dX12_isWrong_49 rfl ?_
      refine J_iadd dX12_isWrong_51 ?_
      obtain ⟨g10, H⟩ := gd H
      refine J_iald dX12_isWrong_52 g4 (inB_ok g10) ?_
      refine J_icmp_eq 60 dX12_isWrong_53 rfl (fun q11 => ?_) (fun q11 => ?_)
      · replace H := br1 q11 H
        refine J_iconst (0 : Int32) dX12_isWrong_60 kc_0 ?_
        exact J_dr (kX12_isWrong_61 H hb0 hx) ⟨rfl, ⟨rfl, ⟨rfl, trivial⟩⟩⟩
      · replace H := br0 q11 H
        exact J_dr (kX12_isWrong_56 H hb0 hx) ⟨rfl, ⟨rfl, ⟨rfl, trivial⟩⟩⟩
noncomputable def MX12_isWrong_10 (h : Hp) (v0 : Nat) (v2 : Int32) (v3 : Int32) (v4 : Int32) : Option Int32 := it (fun q : Int32 × Int32 => BX12_isWrong_10 h v0 v2 q.1 q.2) (v3, v4)
set_option maxRecDepth 100000 in
set_option maxHeartbeats 8000000 in
theorem kX12_isWrong_10 {d : Nat} {h : Hp} {v0 : Nat} {v2 : Int32} {v3 : Int32} {v4 : Int32} {r : Int32} (H : MX12_isWrong_10 h v0 v2 v3 v4 = some r) : J (d + 1) YX12_isWrong 10 [.ref v0, Value.null, .int v2, .int v3, .int v4] [] h (oI r) h := by
  unfold MX12_isWrong_10 at H
  refine it_J (G := (fun q : Int32 × Int32 => J (d + 1) YX12_isWrong 10 [.ref v0, Value.null, .int v2, .int q.1, .int q.2] [] h (oI r) h)) (Q := (fun y : Int32 => y = r)) (fun q x Hq hm => ?_) H rfl
  exact bX12_isWrong_10 Hq (fun s hs => by subst hs; exact hm) (fun z hz => by subst hz; exact hm)
noncomputable def MX12_isWrong (h : Hp) (v0 : Nat) (v1 : Int32) : Option Int32 :=
  Option.bind (α := Int32) (β := Int32) (MX12_slug0 h v1) fun (t2 : Int32) =>
  MX12_isWrong_10 h v0 t2 (0 : Int32) (0 : Int32)
set_option maxRecDepth 100000 in
set_option maxHeartbeats 8000000 in
theorem eX12_isWrong {d : Nat} {h : Hp} {v0 : Nat} {v1 : Int32} {r : Int32} (H : MX12_isWrong h v0 v1 = some r) : J (d + 1) YX12_isWrong 0 [.ref v0, .int v1, Value.null, Value.null, Value.null] [] h (oI r) h := by
  unfold MX12_isWrong at H
  refine J_iload_n 1 dX12_isWrong_0 rfl rfl ?_
  obtain ⟨t2, e1, H⟩ := bd H
  refine J_cS (as := [.int v1]) YX12_slug0 1 dX12_isWrong_1 moX12_slug0 msX12_slug0 mlX12_342 (okX12_slug0 (d := d) e1) rfl rfl [] rfl rfl (st2 := [.int t2]) rfl ?_
  refine J_istore_n 2 dX12_isWrong_4 rfl (by decide) (ls' := [.ref v0, .int v1, .int t2, Value.null, Value.null]) rfl ?_
  refine J_iconst (0 : Int32) dX12_isWrong_5 kc_0 ?_
  refine J_istore_n 3 dX12_isWrong_6 rfl (by decide) (ls' := [.ref v0, .int v1, .int t2, .int (0 : Int32), Value.null]) rfl ?_
  refine J_iconst (0 : Int32) dX12_isWrong_7 kc_0 ?_
  refine J_istore dX12_isWrong_8 (by decide) (ls' := [.ref v0, .int v1, .int t2, .int (0 : Int32), .int (0 : Int32)]) rfl ?_
  exact J_dr (kX12_isWrong_10 H ) ⟨rfl, ⟨rfl, ⟨rfl, ⟨rfl, trivial⟩⟩⟩⟩
theorem okX12_isWrong {d : Nat} {h : Hp} {v0 : Nat} {v1 : Int32} {r : Int32} (H : MX12_isWrong h v0 v1 = some r) : CT (d + 1) YX12_isWrong [.ref v0, .int v1] h (oI r) h := CT_of (by decide +kernel) (Nat.le_of_ble_eq_true rfl) (eX12_isWrong H)
noncomputable def MX12_count_282 (h : Hp) (v0 : Nat) (v1 : Int32) (v4 : Int32) (s0 : Int32) (s1 : Int32) : Option ((Int32 × Int32) ⊕ (Int32 × Hp)) :=
  some (.inl ((s0 + s1), (v4 + (1 : Int32))))
set_option maxRecDepth 100000 in
set_option maxHeartbeats 8000000 in
theorem kX12_count_282 {d : Nat} {h : Hp} {v0 : Nat} {v1 : Int32} {v4 : Int32} {s0 : Int32} {s1 : Int32} {r : Int32} {h9 : Hp} {x : ((Int32 × Int32) ⊕ (Int32 × Hp))} (H : MX12_count_282 h v0 v1 v4 s0 s1 = some x) (hb0 : ∀ s : Int32 × Int32, x = .inl s → J (d + 2) YX12_count 168 [.ref v0, .int v1, Value.null, .int s.1, .int s.2, Value.null, Value.null] [] h (oI r) h9) (hx : ∀ z : (Int32 × Hp), x = .inr (z) → z = (r, h9)) : J (d + 2) YX12_count 282 [.ref v0, .int v1, Value.null, Value.null, .int v4, Value.null, Value.null] [.int s1, .int s0] h (oI r) h9 := by
  unfold MX12_count_282 at H
  refine J_iadd dX12_count_282 ?_
  refine J_istore_n 3 dX12_count_283 rfl (by decide) (ls' := [.ref v0, .int v1, Value.null, .int (s0 + s1), .int v4, Value.null, Value.null]) rfl ?_
  refine J_iinc (v4 + (1 : Int32)) dX12_count_284 rfl (congrArg (HAdd.hAdd v4) kc_1) (by decide) (ls' := [.ref v0, .int v1, Value.null, .int (s0 + s1), .int (v4 + (1 : Int32)), Value.null, Value.null]) rfl ?_
  refine J_goto 168 dX12_count_287 rfl ?_
  cases H
  exact J_dr (hb0 _ rfl) ⟨rfl, ⟨rfl, ⟨rfl, ⟨rfl, trivial⟩⟩⟩⟩
noncomputable def MX12_count_269 (h : Hp) (v0 : Nat) (v1 : Int32) (v3 : Int32) (v4 : Int32) (s0 : Int32) : Option ((Int32 × Int32) ⊕ (Int32 × Hp)) :=
  if s0 = 0 then
    MX12_count_282 h v0 v1 v4 v3 (0 : Int32)
  else
    MX12_count_282 h v0 v1 v4 v3 (1 : Int32)
set_option maxRecDepth 100000 in
set_option maxHeartbeats 8000000 in
theorem kX12_count_269 {d : Nat} {h : Hp} {v0 : Nat} {v1 : Int32} {v3 : Int32} {v4 : Int32} {s0 : Int32} {r : Int32} {h9 : Hp} {x : ((Int32 × Int32) ⊕ (Int32 × Hp))} (H : MX12_count_269 h v0 v1 v3 v4 s0 = some x) (hb0 : ∀ s : Int32 × Int32, x = .inl s → J (d + 2) YX12_count 168 [.ref v0, .int v1, Value.null, .int s.1, .int s.2, Value.null, Value.null] [] h (oI r) h9) (hx : ∀ z : (Int32 × Hp), x = .inr (z) → z = (r, h9)) : J (d + 2) YX12_count 269 [.ref v0, .int v1, Value.null, .int v3, .int v4, Value.null, Value.null] [.int s0] h (oI r) h9 := by
  unfold MX12_count_269 at H
  refine J_istore dX12_count_269 (by decide) (ls' := [.ref v0, .int v1, Value.null, .int v3, .int v4, Value.null, .int s0]) rfl ?_
  refine J_iload_n 3 dX12_count_271 rfl rfl ?_
  refine J_iload dX12_count_272 rfl ?_
  refine J_if_eq 281 dX12_count_274 rfl (fun q34 => ?_) (fun q34 => ?_)
  · replace H := br1 q34 H
    refine J_iconst (0 : Int32) dX12_count_281 kc_0 ?_
    exact J_dr (kX12_count_282 H hb0 hx) ⟨rfl, ⟨rfl, ⟨rfl, trivial⟩⟩⟩
  · replace H := br0 q34 H
    refine J_iconst (1 : Int32) dX12_count_277 kc_1 ?_
    refine J_goto 282 dX12_count_278 rfl ?_
    exact J_dr (kX12_count_282 H hb0 hx) ⟨rfl, ⟨rfl, ⟨rfl, trivial⟩⟩⟩
noncomputable def MX12_count_268 (h : Hp) (v0 : Nat) (v1 : Int32) (v3 : Int32) (v4 : Int32) : Option ((Int32 × Int32) ⊕ (Int32 × Hp)) :=
  MX12_count_269 h v0 v1 v3 v4 (0 : Int32)
set_option maxRecDepth 100000 in
set_option maxHeartbeats 8000000 in
theorem kX12_count_268 {d : Nat} {h : Hp} {v0 : Nat} {v1 : Int32} {v3 : Int32} {v4 : Int32} {r : Int32} {h9 : Hp} {x : ((Int32 × Int32) ⊕ (Int32 × Hp))} (H : MX12_count_268 h v0 v1 v3 v4 = some x) (hb0 : ∀ s : Int32 × Int32, x = .inl s → J (d + 2) YX12_count 168 [.ref v0, .int v1, Value.null, .int s.1, .int s.2, Value.null, Value.null] [] h (oI r) h9) (hx : ∀ z : (Int32 × Hp), x = .inr (z) → z = (r, h9)) : J (d + 2) YX12_count 268 [.ref v0, .int v1, Value.null, .int v3, .int v4, Value.null, Value.null] [] h (oI r) h9 := by
  unfold MX12_count_268 at H
  refine J_iconst (0 : Int32) dX12_count_268 kc_0 ?_
  exact J_dr (kX12_count_269 H hb0 hx) ⟨rfl, ⟨rfl, ⟨rfl, ⟨rfl, trivial⟩⟩⟩⟩
noncomputable def BX12_count_168 (h : Hp) (v0 : Nat) (v1 : Int32) (v3 : Int32) (v4 : Int32) : Option ((Int32 × Int32) ⊕ (Int32 × Hp)) :=
  gg (β := ((Int32 × Int32) ⊕ (Int32 × Hp))) (kd h v0 = 11) <|
  gg (β := ((Int32 × Int32) ⊕ (Int32 × Hp))) (kd h (gP h v0 1) = 20) <|
  gg (β := ((Int32 × Int32) ⊕ (Int32 × Hp))) (inB (4 : Int32) (ln h (gP h v0 1)) = true) <|
  if (gI h (gP h v0 1) (4 : Int32).toNatClampNeg) ≤ v4 then
    some (.inr ((v3, h)))
  else
    Option.bind (α := Int32) (β := ((Int32 × Int32) ⊕ (Int32 × Hp))) (MX12_slug0 h v4) fun (t29 : Int32) =>
    if (8 : Int32) ≤ v1 then
      if v1 = (8 : Int32) then
        gg (β := ((Int32 × Int32) ⊕ (Int32 × Hp))) (inB (t29 + (7 : Int32)) (ln h (gP h v0 1)) = true) <|
        if (gI h (gP h v0 1) (t29 + (7 : Int32)).toNatClampNeg) = (1 : Int32) then
          MX12_count_269 h v0 v1 v3 v4 (1 : Int32)
        else
          MX12_count_269 h v0 v1 v3 v4 (0 : Int32)
      else
        gg (β := ((Int32 × Int32) ⊕ (Int32 × Hp))) (inB (t29 + (4 : Int32)) (ln h (gP h v0 1)) = true) <|
        if (gI h (gP h v0 1) (t29 + (4 : Int32)).toNatClampNeg) = 0 then
          Option.bind (α := Int32) (β := ((Int32 × Int32) ⊕ (Int32 × Hp))) (MX12_isWrong h v0 v4) fun (t36 : Int32) =>
          if t36 = 0 then
            MX12_count_268 h v0 v1 v3 v4
          else
            MX12_count_269 h v0 v1 v3 v4 (1 : Int32)
        else
          MX12_count_268 h v0 v1 v3 v4
    else
      gg (β := ((Int32 × Int32) ⊕ (Int32 × Hp))) (inB (t29 + (4 : Int32)) (ln h (gP h v0 1)) = true) <|
      if (gI h (gP h v0 1) (t29 + (4 : Int32)).toNatClampNeg) = (v1 - (5 : Int32)) then
        MX12_count_269 h v0 v1 v3 v4 (1 : Int32)
      else
        MX12_count_269 h v0 v1 v3 v4 (0 : Int32)
set_option maxRecDepth 100000 in
set_option maxHeartbeats 8000000 in
theorem bX12_count_168 {d : Nat} {h : Hp} {v0 : Nat} {v1 : Int32} {v3 : Int32} {v4 : Int32} {r : Int32} {h9 : Hp} {x : ((Int32 × Int32) ⊕ (Int32 × Hp))} (H : BX12_count_168 h v0 v1 v3 v4 = some x) (hb0 : ∀ s : Int32 × Int32, x = .inl s → J (d + 2) YX12_count 168 [.ref v0, .int v1, Value.null, .int s.1, .int s.2, Value.null, Value.null] [] h (oI r) h9) (hx : ∀ z : (Int32 × Hp), x = .inr (z) → z = (r, h9)) : J (d + 2) YX12_count 168 [.ref v0, .int v1, Value.null, .int v3, .int v4, Value.null, Value.null] [] h (oI r) h9 := by
  unfold BX12_count_168 at H
  refine J_iload dX12_count_168 rfl ?_
  refine J_aload_n 0 dX12_count_170 rfl rfl ?_
  obtain ⟨g24, H⟩ := gd H
  refine J_gP 11 1 dX12_count_171 g24 flX12_8 rfl rfl ?_
  refine J_iconst (4 : Int32) dX12_count_174 kc_4 ?_
  obtain ⟨g25, H⟩ := gd H
  obtain ⟨g26, H⟩ := gd H
  refine J_iald dX12_count_175 g25 (inB_ok g26) ?_
  refine J_icmp_ge 290 dX12_count_176 rfl (fun q27 => ?_) (fun q27 => ?_)
  · replace H := br1 q27 H
    refine J_iload_n 3 dX12_count_290 rfl rfl ?_
    cases H
    cases hx _ rfl
    exact J_iretI dX12_count_291 rfl
  · replace H := br0 q27 H
    refine J_iload dX12_count_179 rfl ?_
    obtain ⟨t29, e28, H⟩ := bd H
    refine J_cS (as := [.int v4]) YX12_slug0 1 dX12_count_181 moX12_slug0 msX12_slug0 mlX12_342 (okX12_slug0 (d := d + 1) e28) rfl rfl [] rfl rfl (st2 := [.int t29]) rfl ?_
    refine J_istore dX12_count_184 (by decide) (ls' := [.ref v0, .int v1, Value.null, .int v3, .int v4, .int t29, Value.null]) rfl ?_
    refine J_iload_n 1 dX12_count_186 rfl rfl ?_
    refine J_bipush (8 : Int32) dX12_count_187 kb_8 ?_
    refine J_icmp_ge 215 dX12_count_189 rfl (fun q30 => ?_) (fun q30 => ?_)
    · replace H := br1 q30 H
      refine J_iload_n 1 dX12_count_215 rfl rfl ?_
      refine J_bipush (8 : Int32) dX12_count_216 kb_8 ?_
      refine J_icmp_ne 243 dX12_count_218 rfl (fun q31 => ?_) (fun q31 => ?_)
      · replace H := br0 q31 H
        refine J_aload_n 0 dX12_count_243 rfl rfl ?_
        refine J_gP 11 1 dX12_count_244 g24 flX12_8 rfl rfl ?_
        refine J_iload dX12_count_247 rfl ?_
        refine J_iconst (4 : Int32) dX12_count_249 kc_4 ?_
        refine J_iadd dX12_count_250 ?_
        obtain ⟨g32, H⟩ := gd H
        refine J_iald dX12_count_251 g25 (inB_ok g32) ?_
        refine J_if_ne 268 dX12_count_252 rfl (fun q33 => ?_) (fun q33 => ?_)
        · replace H := br0 q33 H
          exact J_dr (kX12_count_268 H hb0 hx) ⟨rfl, ⟨rfl, ⟨rfl, ⟨rfl, trivial⟩⟩⟩⟩
        · replace H := br1 q33 H
          refine J_aload_n 0 dX12_count_255 rfl rfl ?_
          refine J_iload dX12_count_256 rfl ?_
          obtain ⟨t36, e35, H⟩ := bd H
          refine J_cV (as := [.int v4]) 11 YX12_isWrong 1 dX12_count_258 moX12_isWrong mvX12_isWrong mlX12_399 g24 rfl rfl (okX12_isWrong (d := d) e35) rfl rfl [] rfl rfl (st2 := [.int t36]) rfl ?_
          refine J_if_eq 268 dX12_count_261 rfl (fun q37 => ?_) (fun q37 => ?_)
          · replace H := br1 q37 H
            exact J_dr (kX12_count_268 H hb0 hx) ⟨rfl, ⟨rfl, ⟨rfl, ⟨rfl, trivial⟩⟩⟩⟩
          · replace H := br0 q37 H
            refine J_iconst (1 : Int32) dX12_count_264 kc_1 ?_
            refine J_goto 269 dX12_count_265 rfl ?_
            exact J_dr (kX12_count_269 H hb0 hx) ⟨rfl, ⟨rfl, ⟨rfl, ⟨rfl, trivial⟩⟩⟩⟩
      · replace H := br1 q31 H
        refine J_aload_n 0 dX12_count_221 rfl rfl ?_
        refine J_gP 11 1 dX12_count_222 g24 flX12_8 rfl rfl ?_
        refine J_iload dX12_count_225 rfl ?_
        refine J_bipush (7 : Int32) dX12_count_227 kb_7 ?_
        refine J_iadd dX12_count_229 ?_
        obtain ⟨g38, H⟩ := gd H
        refine J_iald dX12_count_230 g25 (inB_ok g38) ?_
        refine J_iconst (1 : Int32) dX12_count_231 kc_1 ?_
        refine J_icmp_ne 239 dX12_count_232 rfl (fun q39 => ?_) (fun q39 => ?_)
        · replace H := br0 q39 H
          refine J_iconst (0 : Int32) dX12_count_239 kc_0 ?_
          refine J_goto 269 dX12_count_240 rfl ?_
          exact J_dr (kX12_count_269 H hb0 hx) ⟨rfl, ⟨rfl, ⟨rfl, ⟨rfl, trivial⟩⟩⟩⟩
        · replace H := br1 q39 H
          refine J_iconst (1 : Int32) dX12_count_235 kc_1 ?_
          refine J_goto 269 dX12_count_236 rfl ?_
          exact J_dr (kX12_count_269 H hb0 hx) ⟨rfl, ⟨rfl, ⟨rfl, ⟨rfl, trivial⟩⟩⟩⟩
    · replace H := br0 q30 H
      refine J_aload_n 0 dX12_count_192 rfl rfl ?_
      refine J_gP 11 1 dX12_count_193 g24 flX12_8 rfl rfl ?_
      refine J_iload dX12_count_196 rfl ?_
      refine J_iconst (4 : Int32) dX12_count_198 kc_4 ?_
      refine J_iadd dX12_count_199 ?_
      obtain ⟨g40, H⟩ := gd H
      refine J_iald dX12_count_200 g25 (inB_ok g40) ?_
      refine J_iload_n 1 dX12_count_201 rfl rfl ?_
      refine J_iconst (5 : Int32) dX12_count_202 kc_5 ?_
      refine J_isub dX12_count_203 ?_
      refine J_icmp_ne 211 dX12_count_204 rfl (fun q41 => ?_) (fun q41 => ?_)
      · replace H := br0 q41 H
        refine J_iconst (0 : Int32) dX12_count_211 kc_0 ?_
        refine J_goto 269 dX12_count_212 rfl ?_
        exact J_dr (kX12_count_269 H hb0 hx) ⟨rfl, ⟨rfl, ⟨rfl, ⟨rfl, trivial⟩⟩⟩⟩
      · replace H := br1 q41 H
        refine J_iconst (1 : Int32) dX12_count_207 kc_1 ?_
        refine J_goto 269 dX12_count_208 rfl ?_
        exact J_dr (kX12_count_269 H hb0 hx) ⟨rfl, ⟨rfl, ⟨rfl, ⟨rfl, trivial⟩⟩⟩⟩
noncomputable def MX12_count_168 (h : Hp) (v0 : Nat) (v1 : Int32) (v3 : Int32) (v4 : Int32) : Option (Int32 × Hp) := it (fun q : Int32 × Int32 => BX12_count_168 h v0 v1 q.1 q.2) (v3, v4)
set_option maxRecDepth 100000 in
set_option maxHeartbeats 8000000 in
theorem kX12_count_168 {d : Nat} {h : Hp} {v0 : Nat} {v1 : Int32} {v3 : Int32} {v4 : Int32} {r : Int32} {h9 : Hp} (H : MX12_count_168 h v0 v1 v3 v4 = some (r, h9)) : J (d + 2) YX12_count 168 [.ref v0, .int v1, Value.null, .int v3, .int v4, Value.null, Value.null] [] h (oI r) h9 := by
  unfold MX12_count_168 at H
  refine it_J (G := (fun q : Int32 × Int32 => J (d + 2) YX12_count 168 [.ref v0, .int v1, Value.null, .int q.1, .int q.2, Value.null, Value.null] [] h (oI r) h9)) (Q := (fun y : (Int32 × Hp) => y = (r, h9))) (fun q x Hq hm => ?_) H rfl
  exact bX12_count_168 Hq (fun s hs => by subst hs; exact hm) (fun z hz => by subst hz; exact hm)
noncomputable def MX12_count (h : Hp) (v0 : Nat) (v1 : Int32) : Option (Int32 × Hp) :=
  gg (β := (Int32 × Hp)) (kd h v0 = 11) <|
  lt (α := Hp) (β := Option (Int32 × Hp)) (sI h v0 0 (0 : Int32)) fun (h2 : Hp) =>
  gg (β := (Int32 × Hp)) (kd h (gP h v0 1) = 20) <|
  gg (β := (Int32 × Hp)) (inB (0 : Int32) (ln h (gP h v0 1)) = true) <|
  Option.bind (α := Int32) (β := (Int32 × Hp)) (MX12_styleOf h2 v0 (gI h2 (gP h v0 1) (0 : Int32).toNatClampNeg)) fun (t10 : Int32) =>
  if v1 = 0 then
    some ((gI h2 (gP h v0 1) (0 : Int32).toNatClampNeg), h2)
  else
    if v1 = (1 : Int32) then
      gg (β := (Int32 × Hp)) (inB (1 : Int32) (ln h (gP h v0 1)) = true) <|
      some ((gI h2 (gP h v0 1) (1 : Int32).toNatClampNeg), h2)
    else
      if v1 = (2 : Int32) then
        if t10 = (-1 : Int32) then
          some ((0 : Int32), h2)
        else
          gg (β := (Int32 × Hp)) (inB (t10 + (1 : Int32)) (ln h (gP h v0 1)) = true) <|
          some ((gI h2 (gP h v0 1) (t10 + (1 : Int32)).toNatClampNeg), h2)
      else
        if v1 = (3 : Int32) then
          gg (β := (Int32 × Hp)) (inB (3 : Int32) (ln h (gP h v0 1)) = true) <|
          some ((gI h2 (gP h v0 1) (3 : Int32).toNatClampNeg), h2)
        else
          if v1 = (4 : Int32) then
            gg (β := (Int32 × Hp)) (inB (4 : Int32) (ln h (gP h v0 1)) = true) <|
            some ((gI h2 (gP h v0 1) (4 : Int32).toNatClampNeg), h2)
          else
            if v1 = (10 : Int32) then
              gg (β := (Int32 × Hp)) (inB (5 : Int32) (ln h (gP h v0 1)) = true) <|
              some ((gI h2 (gP h v0 1) (5 : Int32).toNatClampNeg), h2)
            else
              if v1 = (11 : Int32) then
                gg (β := (Int32 × Hp)) (inB (6 : Int32) (ln h (gP h v0 1)) = true) <|
                some ((gI h2 (gP h v0 1) (6 : Int32).toNatClampNeg), h2)
              else
                if v1 = (12 : Int32) then
                  Option.bind (α := Int32) (β := (Int32 × Hp)) (MX12_jobs h2 v0) fun (t45 : Int32) =>
                  some (t45, h2)
                else
                  if v1 = (13 : Int32) then
                    gg (β := (Int32 × Hp)) (inB (2 : Int32) (ln h (gP h v0 1)) = true) <|
                    some ((gI h2 (gP h v0 1) (2 : Int32).toNatClampNeg), h2)
                  else
                    if v1 = (14 : Int32) then
                      gg (β := (Int32 × Hp)) (inB (7 : Int32) (ln h (gP h v0 1)) = true) <|
                      some ((gI h2 (gP h v0 1) (7 : Int32).toNatClampNeg), h2)
                    else
                      Option.bind (α := Int32) (β := (Int32 × Hp)) (MX12_isIn h2 v1 (5 : Int32) (9 : Int32)) fun (t22 : Int32) =>
                      if t22 = 0 then
                        some ((-1 : Int32), h2)
                      else
                        MX12_count_168 h2 v0 v1 (0 : Int32) (0 : Int32)
set_option maxRecDepth 100000 in
set_option maxHeartbeats 8000000 in
theorem eX12_count {d : Nat} {h : Hp} {v0 : Nat} {v1 : Int32} {r : Int32} {h9 : Hp} (H : MX12_count h v0 v1 = some (r, h9)) : J (d + 2) YX12_count 0 [.ref v0, .int v1, Value.null, Value.null, Value.null, Value.null, Value.null] [] h (oI r) h9 := by
  unfold MX12_count at H
  refine J_aload_n 0 dX12_count_0 rfl rfl ?_
  refine J_iconst (0 : Int32) dX12_count_1 kc_0 ?_
  obtain ⟨g1, H⟩ := gd H
  obtain ⟨h2, e3, H⟩ := lt_el H
  refine J_pI 11 0 dX12_count_2 g1 flX12_122 rfl rfl e3 ?_
  have c4 := ekI e3
  have c5 := elI e3
  have c6 := epI e3
  refine J_aload_n 0 dX12_count_5 rfl rfl ?_
  refine J_aload_n 0 dX12_count_6 rfl rfl ?_
  refine J_gP 11 1 dX12_count_7 (kq c4 g1) flX12_8 rfl (congrFun (congrFun c6 v0) 1) ?_
  refine J_iconst (0 : Int32) dX12_count_10 kc_0 ?_
  obtain ⟨g7, H⟩ := gd H
  obtain ⟨g8, H⟩ := gd H
  refine J_iald dX12_count_11 (kq c4 g7) (lq c5 g8) ?_
  obtain ⟨t10, e9, H⟩ := bd H
  refine J_cV (as := [.int (gI h2 (gP h v0 1) (0 : Int32).toNatClampNeg)]) 11 YX12_styleOf 1 dX12_count_12 moX12_styleOf mvX12_styleOf mlX12_284 (kq c4 g1) rfl rfl (okX12_styleOf (d := d + 1) e9) rfl rfl [] rfl rfl (st2 := [.int t10]) rfl ?_
  refine J_istore_n 2 dX12_count_15 rfl (by decide) (ls' := [.ref v0, .int v1, .int t10, Value.null, Value.null, Value.null, Value.null]) rfl ?_
  refine J_iload_n 1 dX12_count_16 rfl rfl ?_
  refine J_if_ne 27 dX12_count_17 rfl (fun q11 => ?_) (fun q11 => ?_)
  · replace H := br0 q11 H
    refine J_iload_n 1 dX12_count_27 rfl rfl ?_
    refine J_iconst (1 : Int32) dX12_count_28 kc_1 ?_
    refine J_icmp_ne 39 dX12_count_29 rfl (fun q12 => ?_) (fun q12 => ?_)
    · replace H := br0 q12 H
      refine J_iload_n 1 dX12_count_39 rfl rfl ?_
      refine J_iconst (2 : Int32) dX12_count_40 kc_2 ?_
      refine J_icmp_ne 62 dX12_count_41 rfl (fun q13 => ?_) (fun q13 => ?_)
      · replace H := br0 q13 H
        refine J_iload_n 1 dX12_count_62 rfl rfl ?_
        refine J_iconst (3 : Int32) dX12_count_63 kc_3 ?_
        refine J_icmp_ne 74 dX12_count_64 rfl (fun q14 => ?_) (fun q14 => ?_)
        · replace H := br0 q14 H
          refine J_iload_n 1 dX12_count_74 rfl rfl ?_
          refine J_iconst (4 : Int32) dX12_count_75 kc_4 ?_
          refine J_icmp_ne 86 dX12_count_76 rfl (fun q15 => ?_) (fun q15 => ?_)
          · replace H := br0 q15 H
            refine J_iload_n 1 dX12_count_86 rfl rfl ?_
            refine J_bipush (10 : Int32) dX12_count_87 kb_10 ?_
            refine J_icmp_ne 99 dX12_count_89 rfl (fun q16 => ?_) (fun q16 => ?_)
            · replace H := br0 q16 H
              refine J_iload_n 1 dX12_count_99 rfl rfl ?_
              refine J_bipush (11 : Int32) dX12_count_100 kb_11 ?_
              refine J_icmp_ne 113 dX12_count_102 rfl (fun q17 => ?_) (fun q17 => ?_)
              · replace H := br0 q17 H
                refine J_iload_n 1 dX12_count_113 rfl rfl ?_
                refine J_bipush (12 : Int32) dX12_count_114 kb_12 ?_
                refine J_icmp_ne 124 dX12_count_116 rfl (fun q18 => ?_) (fun q18 => ?_)
                · replace H := br0 q18 H
                  refine J_iload_n 1 dX12_count_124 rfl rfl ?_
                  refine J_bipush (13 : Int32) dX12_count_125 kb_13 ?_
                  refine J_icmp_ne 137 dX12_count_127 rfl (fun q19 => ?_) (fun q19 => ?_)
                  · replace H := br0 q19 H
                    refine J_iload_n 1 dX12_count_137 rfl rfl ?_
                    refine J_bipush (14 : Int32) dX12_count_138 kb_14 ?_
                    refine J_icmp_ne 151 dX12_count_140 rfl (fun q20 => ?_) (fun q20 => ?_)
                    · replace H := br0 q20 H
                      refine J_iload_n 1 dX12_count_151 rfl rfl ?_
                      refine J_iconst (5 : Int32) dX12_count_152 kc_5 ?_
                      refine J_bipush (9 : Int32) dX12_count_153 kb_9 ?_
                      obtain ⟨t22, e21, H⟩ := bd H
                      refine J_cS (as := [.int v1, .int (5 : Int32), .int (9 : Int32)]) YX12_isIn 3 dX12_count_155 moX12_isIn msX12_isIn mlX12_157 (okX12_isIn (d := d + 1) e21) rfl rfl [] rfl rfl (st2 := [.int t22]) rfl ?_
                      refine J_if_ne 163 dX12_count_158 rfl (fun q23 => ?_) (fun q23 => ?_)
                      · replace H := br0 q23 H
                        refine J_iconst (0 : Int32) dX12_count_163 kc_0 ?_
                        refine J_istore_n 3 dX12_count_164 rfl (by decide) (ls' := [.ref v0, .int v1, .int t10, .int (0 : Int32), Value.null, Value.null, Value.null]) rfl ?_
                        refine J_iconst (0 : Int32) dX12_count_165 kc_0 ?_
                        refine J_istore dX12_count_166 (by decide) (ls' := [.ref v0, .int v1, .int t10, .int (0 : Int32), .int (0 : Int32), Value.null, Value.null]) rfl ?_
                        exact J_dr (kX12_count_168 H ) ⟨rfl, ⟨rfl, ⟨rfl, ⟨rfl, trivial⟩⟩⟩⟩
                      · replace H := br1 q23 H
                        refine J_iconst (-1 : Int32) dX12_count_161 kc_m1 ?_
                        cases H
                        exact J_iretI dX12_count_162 rfl
                    · replace H := br1 q20 H
                      refine J_aload_n 0 dX12_count_143 rfl rfl ?_
                      refine J_gP 11 1 dX12_count_144 (kq c4 g1) flX12_8 rfl (congrFun (congrFun c6 v0) 1) ?_
                      refine J_bipush (7 : Int32) dX12_count_147 kb_7 ?_
                      obtain ⟨g42, H⟩ := gd H
                      refine J_iald dX12_count_149 (kq c4 g7) (lq c5 g42) ?_
                      cases H
                      exact J_iretI dX12_count_150 rfl
                  · replace H := br1 q19 H
                    refine J_aload_n 0 dX12_count_130 rfl rfl ?_
                    refine J_gP 11 1 dX12_count_131 (kq c4 g1) flX12_8 rfl (congrFun (congrFun c6 v0) 1) ?_
                    refine J_iconst (2 : Int32) dX12_count_134 kc_2 ?_
                    obtain ⟨g43, H⟩ := gd H
                    refine J_iald dX12_count_135 (kq c4 g7) (lq c5 g43) ?_
                    cases H
                    exact J_iretI dX12_count_136 rfl
                · replace H := br1 q18 H
                  refine J_aload_n 0 dX12_count_119 rfl rfl ?_
                  obtain ⟨t45, e44, H⟩ := bd H
                  refine J_cV (as := []) 11 YX12_jobs 0 dX12_count_120 moX12_jobs mvX12_jobs mlX12_473 (kq c4 g1) rfl rfl (okX12_jobs (d := d) e44) rfl rfl [] rfl rfl (st2 := [.int t45]) rfl ?_
                  cases H
                  exact J_iretI dX12_count_123 rfl
              · replace H := br1 q17 H
                refine J_aload_n 0 dX12_count_105 rfl rfl ?_
                refine J_gP 11 1 dX12_count_106 (kq c4 g1) flX12_8 rfl (congrFun (congrFun c6 v0) 1) ?_
                refine J_bipush (6 : Int32) dX12_count_109 kb_6 ?_
                obtain ⟨g46, H⟩ := gd H
                refine J_iald dX12_count_111 (kq c4 g7) (lq c5 g46) ?_
                cases H
                exact J_iretI dX12_count_112 rfl
            · replace H := br1 q16 H
              refine J_aload_n 0 dX12_count_92 rfl rfl ?_
              refine J_gP 11 1 dX12_count_93 (kq c4 g1) flX12_8 rfl (congrFun (congrFun c6 v0) 1) ?_
              refine J_iconst (5 : Int32) dX12_count_96 kc_5 ?_
              obtain ⟨g47, H⟩ := gd H
              refine J_iald dX12_count_97 (kq c4 g7) (lq c5 g47) ?_
              cases H
              exact J_iretI dX12_count_98 rfl
          · replace H := br1 q15 H
            refine J_aload_n 0 dX12_count_79 rfl rfl ?_
            refine J_gP 11 1 dX12_count_80 (kq c4 g1) flX12_8 rfl (congrFun (congrFun c6 v0) 1) ?_
            refine J_iconst (4 : Int32) dX12_count_83 kc_4 ?_
            obtain ⟨g48, H⟩ := gd H
            refine J_iald dX12_count_84 (kq c4 g7) (lq c5 g48) ?_
            cases H
            exact J_iretI dX12_count_85 rfl
        · replace H := br1 q14 H
          refine J_aload_n 0 dX12_count_67 rfl rfl ?_
          refine J_gP 11 1 dX12_count_68 (kq c4 g1) flX12_8 rfl (congrFun (congrFun c6 v0) 1) ?_
          refine J_iconst (3 : Int32) dX12_count_71 kc_3 ?_
          obtain ⟨g49, H⟩ := gd H
          refine J_iald dX12_count_72 (kq c4 g7) (lq c5 g49) ?_
          cases H
          exact J_iretI dX12_count_73 rfl
      · replace H := br1 q13 H
        refine J_iload_n 2 dX12_count_44 rfl rfl ?_
        refine J_iconst (-1 : Int32) dX12_count_45 kc_m1 ?_
        refine J_icmp_ne 53 dX12_count_46 rfl (fun q50 => ?_) (fun q50 => ?_)
        · replace H := br0 q50 H
          refine J_aload_n 0 dX12_count_53 rfl rfl ?_
          refine J_gP 11 1 dX12_count_54 (kq c4 g1) flX12_8 rfl (congrFun (congrFun c6 v0) 1) ?_
          refine J_iload_n 2 dX12_count_57 rfl rfl ?_
          refine J_iconst (1 : Int32) dX12_count_58 kc_1 ?_
          refine J_iadd dX12_count_59 ?_
          obtain ⟨g51, H⟩ := gd H
          refine J_iald dX12_count_60 (kq c4 g7) (lq c5 g51) ?_
          cases H
          exact J_iretI dX12_count_61 rfl
        · replace H := br1 q50 H
          refine J_iconst (0 : Int32) dX12_count_49 kc_0 ?_
          refine J_goto 61 dX12_count_50 rfl ?_
          cases H
          exact J_iretI dX12_count_61 rfl
    · replace H := br1 q12 H
      refine J_aload_n 0 dX12_count_32 rfl rfl ?_
      refine J_gP 11 1 dX12_count_33 (kq c4 g1) flX12_8 rfl (congrFun (congrFun c6 v0) 1) ?_
      refine J_iconst (1 : Int32) dX12_count_36 kc_1 ?_
      obtain ⟨g52, H⟩ := gd H
      refine J_iald dX12_count_37 (kq c4 g7) (lq c5 g52) ?_
      cases H
      exact J_iretI dX12_count_38 rfl
  · replace H := br1 q11 H
    refine J_aload_n 0 dX12_count_20 rfl rfl ?_
    refine J_gP 11 1 dX12_count_21 (kq c4 g1) flX12_8 rfl (congrFun (congrFun c6 v0) 1) ?_
    refine J_iconst (0 : Int32) dX12_count_24 kc_0 ?_
    refine J_iald dX12_count_25 (kq c4 g7) (lq c5 g8) ?_
    cases H
    exact J_iretI dX12_count_26 rfl
theorem okX12_count {d : Nat} {h : Hp} {v0 : Nat} {v1 : Int32} {r : Int32} {h9 : Hp} (H : MX12_count h v0 v1 = some (r, h9)) : CT (d + 2) YX12_count [.ref v0, .int v1] h (oI r) h9 := CT_of (by decide +kernel) (Nat.le_of_ble_eq_true rfl) (eX12_count H)
noncomputable def MX12_edition_137 (h : Hp) (v0 : Nat) (v1 : Int32) : Option (Int32 × Hp) :=
  gg (β := (Int32 × Hp)) (kd h v0 = 11) <|
  gg (β := (Int32 × Hp)) (kd h (gP h v0 1) = 20) <|
  gg (β := (Int32 × Hp)) (inB (6 : Int32) (ln h (gP h v0 1)) = true) <|
  lt (α := Hp) (β := Option (Int32 × Hp)) (sI h (gP h v0 1) (6 : Int32).toNatClampNeg ((gI h (gP h v0 1) (6 : Int32).toNatClampNeg) + (1 : Int32))) fun (h19 : Hp) =>
  some (v1, h19)
set_option maxRecDepth 100000 in
set_option maxHeartbeats 8000000 in
theorem kX12_edition_137 {d : Nat} {h : Hp} {v0 : Nat} {v1 : Int32} {r : Int32} {h9 : Hp} (H : MX12_edition_137 h v0 v1 = some (r, h9)) : J (d + 1) YX12_edition 137 [.ref v0, .int v1, Value.null, Value.null] [] h (oI r) h9 := by
  unfold MX12_edition_137 at H
  refine J_aload_n 0 dX12_edition_137 rfl rfl ?_
  obtain ⟨g16, H⟩ := gd H
  refine J_gP 11 1 dX12_edition_138 g16 flX12_8 rfl rfl ?_
  refine J_bipush (6 : Int32) dX12_edition_141 kb_6 ?_
  refine J_dup2 dX12_edition_143 rfl rfl ?_
  obtain ⟨g17, H⟩ := gd H
  obtain ⟨g18, H⟩ := gd H
  refine J_iald dX12_edition_144 g17 (inB_ok g18) ?_
  refine J_iconst (1 : Int32) dX12_edition_145 kc_1 ?_
  refine J_iadd dX12_edition_146 ?_
  obtain ⟨h19, e20, H⟩ := lt_el H
  refine J_sI dX12_edition_147 g17 (inB_ok g18) e20 ?_
  have c21 := ekI e20
  have c22 := elI e20
  have c23 := epI e20
  refine J_iload_n 1 dX12_edition_148 rfl rfl ?_
  cases H
  exact J_iretI dX12_edition_149 rfl
noncomputable def BX12_edition_74 (h : Hp) (v0 : Nat) (v1 : Int32) (v2 : Int32) (v3 : Int32) : Option ((Int32 × Hp) ⊕ ((Int32 × Hp) ⊕ (Int32 × Hp))) :=
  gg (β := ((Int32 × Hp) ⊕ ((Int32 × Hp) ⊕ (Int32 × Hp)))) (kd h v0 = 11) <|
  gg (β := ((Int32 × Hp) ⊕ ((Int32 × Hp) ⊕ (Int32 × Hp)))) (kd h (gP h v0 1) = 20) <|
  gg (β := ((Int32 × Hp) ⊕ ((Int32 × Hp) ⊕ (Int32 × Hp)))) (inB (((327382 : Int32) + ((185 : Int32) * v2)) + (2 : Int32)) (ln h (gP h v0 1)) = true) <|
  if (gI h (gP h v0 1) (((327382 : Int32) + ((185 : Int32) * v2)) + (2 : Int32)).toNatClampNeg) ≤ v3 then
    some (.inr (.inl ((v2 + (1 : Int32)), h)))
  else
    Option.bind (α := Int32) (β := ((Int32 × Hp) ⊕ ((Int32 × Hp) ⊕ (Int32 × Hp)))) (MX12_many0 h v0 v2 v1) fun (t40 : Int32) =>
    gg (β := ((Int32 × Hp) ⊕ ((Int32 × Hp) ⊕ (Int32 × Hp)))) (inB ((((327382 : Int32) + ((185 : Int32) * v2)) + (5 : Int32)) + v3) (ln h (gP h v0 1)) = true) <|
    gg (β := ((Int32 × Hp) ⊕ ((Int32 × Hp) ⊕ (Int32 × Hp)))) (inB ((t40 + (1 : Int32)) + v3) (ln h (gP h v0 1)) = true) <|
    lt (α := Hp) (β := Option ((Int32 × Hp) ⊕ ((Int32 × Hp) ⊕ (Int32 × Hp)))) (sI h (gP h v0 1) ((t40 + (1 : Int32)) + v3).toNatClampNeg (gI h (gP h v0 1) ((((327382 : Int32) + ((185 : Int32) * v2)) + (5 : Int32)) + v3).toNatClampNeg)) fun (h43 : Hp) =>
    some (.inl ((v3 + (1 : Int32)), h43))
set_option maxRecDepth 100000 in
set_option maxHeartbeats 8000000 in
theorem bX12_edition_74 {d : Nat} {h : Hp} {v0 : Nat} {v1 : Int32} {v2 : Int32} {v3 : Int32} {r : Int32} {h9 : Hp} {x : ((Int32 × Hp) ⊕ ((Int32 × Hp) ⊕ (Int32 × Hp)))} (H : BX12_edition_74 h v0 v1 v2 v3 = some x) (hb0 : ∀ s : Int32 × Hp, x = .inl s → J (d + 1) YX12_edition 74 [.ref v0, .int v1, .int v2, .int s.1] [] s.2 (oI r) h9) (hb1 : ∀ s : Int32 × Hp, x = .inr (.inl s) → J (d + 1) YX12_edition 40 [.ref v0, .int v1, .int s.1, Value.null] [] s.2 (oI r) h9) (hx : ∀ z : (Int32 × Hp), x = .inr (.inr (z)) → z = (r, h9)) : J (d + 1) YX12_edition 74 [.ref v0, .int v1, .int v2, .int v3] [] h (oI r) h9 := by
  unfold BX12_edition_74 at H
  refine J_iload_n 3 dX12_edition_74 rfl rfl ?_
  refine J_aload_n 0 dX12_edition_75 rfl rfl ?_
  obtain ⟨g35, H⟩ := gd H
  refine J_gP 11 1 dX12_edition_76 g35 flX12_8 rfl rfl ?_
  refine J_ldc (327382 : Int32) coX12_121 dX12_edition_79 ?_
  refine J_sipush (185 : Int32) dX12_edition_81 ks_185 ?_
  refine J_iload_n 2 dX12_edition_84 rfl rfl ?_
  refine J_imul dX12_edition_85 ?_
  refine J_iadd dX12_edition_86 ?_
  refine J_iconst (2 : Int32) dX12_edition_87 kc_2 ?_
  refine J_iadd dX12_edition_88 ?_
  obtain ⟨g36, H⟩ := gd H
  obtain ⟨g37, H⟩ := gd H
  refine J_iald dX12_edition_89 g36 (inB_ok g37) ?_
  refine J_icmp_ge 131 dX12_edition_90 rfl (fun q38 => ?_) (fun q38 => ?_)
  · replace H := br1 q38 H
    refine J_iinc (v2 + (1 : Int32)) dX12_edition_131 rfl (congrArg (HAdd.hAdd v2) kc_1) (by decide) (ls' := [.ref v0, .int v1, .int (v2 + (1 : Int32)), .int v3]) rfl ?_
    refine J_goto 40 dX12_edition_134 rfl ?_
    cases H
    exact J_dr (hb1 _ rfl) ⟨rfl, ⟨rfl, ⟨rfl, trivial⟩⟩⟩
  · replace H := br0 q38 H
    refine J_aload_n 0 dX12_edition_93 rfl rfl ?_
    refine J_gP 11 1 dX12_edition_94 g35 flX12_8 rfl rfl ?_
    refine J_aload_n 0 dX12_edition_97 rfl rfl ?_
    refine J_iload_n 2 dX12_edition_98 rfl rfl ?_
    refine J_iload_n 1 dX12_edition_99 rfl rfl ?_
    obtain ⟨t40, e39, H⟩ := bd H
    refine J_cV (as := [.int v2, .int v1]) 11 YX12_many0 2 dX12_edition_100 moX12_many0 mvX12_many0 mlX12_443 g35 rfl rfl (okX12_many0 (d := d) e39) rfl rfl [.ref (gP h v0 1)] rfl rfl (st2 := [.int t40, .ref (gP h v0 1)]) rfl ?_
    refine J_iconst (1 : Int32) dX12_edition_103 kc_1 ?_
    refine J_iadd dX12_edition_104 ?_
    refine J_iload_n 3 dX12_edition_105 rfl rfl ?_
    refine J_iadd dX12_edition_106 ?_
    refine J_aload_n 0 dX12_edition_107 rfl rfl ?_
    refine J_gP 11 1 dX12_edition_108 g35 flX12_8 rfl rfl ?_
    refine J_ldc (327382 : Int32) coX12_121 dX12_edition_111 ?_
    refine J_sipush (185 : Int32) dX12_edition_113 ks_185 ?_
    refine J_iload_n 2 dX12_edition_116 rfl rfl ?_
    refine J_imul dX12_edition_117 ?_
    refine J_iadd dX12_edition_118 ?_
    refine J_iconst (5 : Int32) dX12_edition_119 kc_5 ?_
    refine J_iadd dX12_edition_120 ?_
    refine J_iload_n 3 dX12_edition_121 rfl rfl ?_
    refine J_iadd dX12_edition_122 ?_
    obtain ⟨g41, H⟩ := gd H
    refine J_iald dX12_edition_123 g36 (inB_ok g41) ?_
    obtain ⟨g42, H⟩ := gd H
    obtain ⟨h43, e44, H⟩ := lt_el H
    refine J_sI dX12_edition_124 g36 (inB_ok g42) e44 ?_
    have c45 := ekI e44
    have c46 := elI e44
    have c47 := epI e44
    refine J_iinc (v3 + (1 : Int32)) dX12_edition_125 rfl (congrArg (HAdd.hAdd v3) kc_1) (by decide) (ls' := [.ref v0, .int v1, .int v2, .int (v3 + (1 : Int32))]) rfl ?_
    refine J_goto 74 dX12_edition_128 rfl ?_
    cases H
    exact J_dr (hb0 _ rfl) ⟨rfl, ⟨rfl, ⟨rfl, ⟨rfl, trivial⟩⟩⟩⟩
noncomputable def MX12_edition_74 (h : Hp) (v0 : Nat) (v1 : Int32) (v2 : Int32) (v3 : Int32) : Option ((Int32 × Hp) ⊕ (Int32 × Hp)) := it (fun q : Int32 × Hp => BX12_edition_74 q.2 v0 v1 v2 q.1) (v3, h)
set_option maxRecDepth 100000 in
set_option maxHeartbeats 8000000 in
theorem kX12_edition_74 {d : Nat} {h : Hp} {v0 : Nat} {v1 : Int32} {v2 : Int32} {v3 : Int32} {r : Int32} {h9 : Hp} {x : ((Int32 × Hp) ⊕ (Int32 × Hp))} (H : MX12_edition_74 h v0 v1 v2 v3 = some x) (hb0 : ∀ s : Int32 × Hp, x = .inl s → J (d + 1) YX12_edition 40 [.ref v0, .int v1, .int s.1, Value.null] [] s.2 (oI r) h9) (hx : ∀ z : (Int32 × Hp), x = .inr (z) → z = (r, h9)) : J (d + 1) YX12_edition 74 [.ref v0, .int v1, .int v2, .int v3] [] h (oI r) h9 := by
  unfold MX12_edition_74 at H
  refine it_J (G := (fun q : Int32 × Hp => J (d + 1) YX12_edition 74 [.ref v0, .int v1, .int v2, .int q.1] [] q.2 (oI r) h9)) (Q := (fun y : ((Int32 × Hp) ⊕ (Int32 × Hp)) => (∀ s : Int32 × Hp, y = .inl s → J (d + 1) YX12_edition 40 [.ref v0, .int v1, .int s.1, Value.null] [] s.2 (oI r) h9) ∧ (∀ z : (Int32 × Hp), y = .inr (z) → z = (r, h9)))) (fun q x Hq hm => ?_) H ⟨hb0, hx⟩
  exact bX12_edition_74 Hq (fun s hs => by subst hs; exact hm) (fun s hs => by subst hs; exact (hm.1) s rfl) (fun z hz => by subst hz; exact (hm.2) z rfl)
noncomputable def BX12_edition_40 (h : Hp) (v0 : Nat) (v1 : Int32) (v2 : Int32) : Option ((Int32 × Hp) ⊕ (Int32 × Hp)) :=
  if (6 : Int32) ≤ v2 then
    up1 (MX12_edition_137 h v0 v1)
  else
    gg (β := ((Int32 × Hp) ⊕ (Int32 × Hp))) (kd h v0 = 11) <|
    Option.bind (α := Int32) (β := ((Int32 × Hp) ⊕ (Int32 × Hp))) (MX12_many0 h v0 v2 v1) fun (t26 : Int32) =>
    gg (β := ((Int32 × Hp) ⊕ (Int32 × Hp))) (kd h (gP h v0 1) = 20) <|
    gg (β := ((Int32 × Hp) ⊕ (Int32 × Hp))) (inB (((327382 : Int32) + ((185 : Int32) * v2)) + (2 : Int32)) (ln h (gP h v0 1)) = true) <|
    gg (β := ((Int32 × Hp) ⊕ (Int32 × Hp))) (inB t26 (ln h (gP h v0 1)) = true) <|
    lt (α := Hp) (β := Option ((Int32 × Hp) ⊕ (Int32 × Hp))) (sI h (gP h v0 1) t26.toNatClampNeg (gI h (gP h v0 1) (((327382 : Int32) + ((185 : Int32) * v2)) + (2 : Int32)).toNatClampNeg)) fun (h30 : Hp) =>
    MX12_edition_74 h30 v0 v1 v2 (0 : Int32)
set_option maxRecDepth 100000 in
set_option maxHeartbeats 8000000 in
theorem bX12_edition_40 {d : Nat} {h : Hp} {v0 : Nat} {v1 : Int32} {v2 : Int32} {r : Int32} {h9 : Hp} {x : ((Int32 × Hp) ⊕ (Int32 × Hp))} (H : BX12_edition_40 h v0 v1 v2 = some x) (hb0 : ∀ s : Int32 × Hp, x = .inl s → J (d + 1) YX12_edition 40 [.ref v0, .int v1, .int s.1, Value.null] [] s.2 (oI r) h9) (hx : ∀ z : (Int32 × Hp), x = .inr (z) → z = (r, h9)) : J (d + 1) YX12_edition 40 [.ref v0, .int v1, .int v2, Value.null] [] h (oI r) h9 := by
  unfold BX12_edition_40 at H
  refine J_iload_n 2 dX12_edition_40 rfl rfl ?_
  refine J_bipush (6 : Int32) dX12_edition_41 kb_6 ?_
  refine J_icmp_ge 137 dX12_edition_43 rfl (fun q15 => ?_) (fun q15 => ?_)
  · replace H := br1 q15 H
    obtain ⟨y0, H90, rfl⟩ := up1_el H
    replace H := H90
    obtain rfl := hx _ rfl
    exact J_dr (kX12_edition_137 H ) ⟨rfl, ⟨rfl, trivial⟩⟩
  · replace H := br0 q15 H
    refine J_aload_n 0 dX12_edition_46 rfl rfl ?_
    obtain ⟨g24, H⟩ := gd H
    refine J_gP 11 1 dX12_edition_47 g24 flX12_8 rfl rfl ?_
    refine J_aload_n 0 dX12_edition_50 rfl rfl ?_
    refine J_iload_n 2 dX12_edition_51 rfl rfl ?_
    refine J_iload_n 1 dX12_edition_52 rfl rfl ?_
    obtain ⟨t26, e25, H⟩ := bd H
    refine J_cV (as := [.int v2, .int v1]) 11 YX12_many0 2 dX12_edition_53 moX12_many0 mvX12_many0 mlX12_443 g24 rfl rfl (okX12_many0 (d := d) e25) rfl rfl [.ref (gP h v0 1)] rfl rfl (st2 := [.int t26, .ref (gP h v0 1)]) rfl ?_
    refine J_aload_n 0 dX12_edition_56 rfl rfl ?_
    refine J_gP 11 1 dX12_edition_57 g24 flX12_8 rfl rfl ?_
    refine J_ldc (327382 : Int32) coX12_121 dX12_edition_60 ?_
    refine J_sipush (185 : Int32) dX12_edition_62 ks_185 ?_
    refine J_iload_n 2 dX12_edition_65 rfl rfl ?_
    refine J_imul dX12_edition_66 ?_
    refine J_iadd dX12_edition_67 ?_
    refine J_iconst (2 : Int32) dX12_edition_68 kc_2 ?_
    refine J_iadd dX12_edition_69 ?_
    obtain ⟨g27, H⟩ := gd H
    obtain ⟨g28, H⟩ := gd H
    refine J_iald dX12_edition_70 g27 (inB_ok g28) ?_
    obtain ⟨g29, H⟩ := gd H
    obtain ⟨h30, e31, H⟩ := lt_el H
    refine J_sI dX12_edition_71 g27 (inB_ok g29) e31 ?_
    have c32 := ekI e31
    have c33 := elI e31
    have c34 := epI e31
    refine J_iconst (0 : Int32) dX12_edition_72 kc_0 ?_
    refine J_istore_n 3 dX12_edition_73 rfl (by decide) (ls' := [.ref v0, .int v1, .int v2, .int (0 : Int32)]) rfl ?_
    exact J_dr (kX12_edition_74 H hb0 hx) ⟨rfl, ⟨rfl, ⟨rfl, ⟨rfl, trivial⟩⟩⟩⟩
noncomputable def MX12_edition_40 (h : Hp) (v0 : Nat) (v1 : Int32) (v2 : Int32) : Option (Int32 × Hp) := it (fun q : Int32 × Hp => BX12_edition_40 q.2 v0 v1 q.1) (v2, h)
set_option maxRecDepth 100000 in
set_option maxHeartbeats 8000000 in
theorem kX12_edition_40 {d : Nat} {h : Hp} {v0 : Nat} {v1 : Int32} {v2 : Int32} {r : Int32} {h9 : Hp} (H : MX12_edition_40 h v0 v1 v2 = some (r, h9)) : J (d + 1) YX12_edition 40 [.ref v0, .int v1, .int v2, Value.null] [] h (oI r) h9 := by
  unfold MX12_edition_40 at H
  refine it_J (G := (fun q : Int32 × Hp => J (d + 1) YX12_edition 40 [.ref v0, .int v1, .int q.1, Value.null] [] q.2 (oI r) h9)) (Q := (fun y : (Int32 × Hp) => y = (r, h9))) (fun q x Hq hm => ?_) H rfl
  exact bX12_edition_40 Hq (fun s hs => by subst hs; exact hm) (fun z hz => by subst hz; exact hm)
noncomputable def MX12_edition_18 (h : Hp) (v0 : Nat) (s0 : Nat) (s1 : Int32) : Option (Int32 × Hp) :=
  gg (β := (Int32 × Hp)) (kd h s0 = 11) <|
  lt (α := Hp) (β := Option (Int32 × Hp)) (sI h s0 0 s1) fun (h6 : Hp) =>
  gg (β := (Int32 × Hp)) (kd h v0 = 11) <|
  if (gI h6 v0 0) ≤ 0 then
    gg (β := (Int32 × Hp)) (kd h (gP h v0 1) = 20) <|
    gg (β := (Int32 × Hp)) (inB (6 : Int32) (ln h (gP h v0 1)) = true) <|
    MX12_edition_40 h6 v0 (gI h6 (gP h v0 1) (6 : Int32).toNatClampNeg) (0 : Int32)
  else
    some ((0 : Int32), h6)
set_option maxRecDepth 100000 in
set_option maxHeartbeats 8000000 in
theorem kX12_edition_18 {d : Nat} {h : Hp} {v0 : Nat} {s0 : Nat} {s1 : Int32} {r : Int32} {h9 : Hp} (H : MX12_edition_18 h v0 s0 s1 = some (r, h9)) : J (d + 1) YX12_edition 18 [.ref v0, Value.null, Value.null, Value.null] [.int s1, .ref s0] h (oI r) h9 := by
  unfold MX12_edition_18 at H
  obtain ⟨g5, H⟩ := gd H
  obtain ⟨h6, e7, H⟩ := lt_el H
  refine J_pI 11 0 dX12_edition_18 g5 flX12_122 rfl rfl e7 ?_
  have c8 := ekI e7
  have c9 := elI e7
  have c10 := epI e7
  refine J_aload_n 0 dX12_edition_21 rfl rfl ?_
  obtain ⟨g11, H⟩ := gd H
  refine J_getI 11 0 dX12_edition_22 (kq c8 g11) flX12_122 rfl ?_
  refine J_if_le 30 dX12_edition_25 rfl (fun q12 => ?_) (fun q12 => ?_)
  · replace H := br1 q12 H
    refine J_aload_n 0 dX12_edition_30 rfl rfl ?_
    refine J_gP 11 1 dX12_edition_31 (kq c8 g11) flX12_8 rfl (congrFun (congrFun c10 v0) 1) ?_
    refine J_bipush (6 : Int32) dX12_edition_34 kb_6 ?_
    obtain ⟨g13, H⟩ := gd H
    obtain ⟨g14, H⟩ := gd H
    refine J_iald dX12_edition_36 (kq c8 g13) (lq c9 g14) ?_
    refine J_istore_n 1 dX12_edition_37 rfl (by decide) (ls' := [.ref v0, .int (gI h6 (gP h v0 1) (6 : Int32).toNatClampNeg), Value.null, Value.null]) rfl ?_
    refine J_iconst (0 : Int32) dX12_edition_38 kc_0 ?_
    refine J_istore_n 2 dX12_edition_39 rfl (by decide) (ls' := [.ref v0, .int (gI h6 (gP h v0 1) (6 : Int32).toNatClampNeg), .int (0 : Int32), Value.null]) rfl ?_
    exact J_dr (kX12_edition_40 H ) ⟨rfl, ⟨rfl, ⟨rfl, trivial⟩⟩⟩
  · replace H := br0 q12 H
    refine J_iconst (0 : Int32) dX12_edition_28 kc_0 ?_
    cases H
    exact J_iretI dX12_edition_29 rfl
noncomputable def MX12_edition (h : Hp) (v0 : Nat) : Option (Int32 × Hp) :=
  gg (β := (Int32 × Hp)) (kd h v0 = 11) <|
  gg (β := (Int32 × Hp)) (kd h (gP h v0 1) = 20) <|
  gg (β := (Int32 × Hp)) (inB (6 : Int32) (ln h (gP h v0 1)) = true) <|
  if (gI h (gP h v0 1) (6 : Int32).toNatClampNeg) = (8 : Int32) then
    MX12_edition_18 h v0 v0 (1 : Int32)
  else
    MX12_edition_18 h v0 v0 (0 : Int32)
set_option maxRecDepth 100000 in
set_option maxHeartbeats 8000000 in
theorem eX12_edition {d : Nat} {h : Hp} {v0 : Nat} {r : Int32} {h9 : Hp} (H : MX12_edition h v0 = some (r, h9)) : J (d + 1) YX12_edition 0 [.ref v0, Value.null, Value.null, Value.null] [] h (oI r) h9 := by
  unfold MX12_edition at H
  refine J_aload_n 0 dX12_edition_0 rfl rfl ?_
  refine J_aload_n 0 dX12_edition_1 rfl rfl ?_
  obtain ⟨g1, H⟩ := gd H
  refine J_gP 11 1 dX12_edition_2 g1 flX12_8 rfl rfl ?_
  refine J_bipush (6 : Int32) dX12_edition_5 kb_6 ?_
  obtain ⟨g2, H⟩ := gd H
  obtain ⟨g3, H⟩ := gd H
  refine J_iald dX12_edition_7 g2 (inB_ok g3) ?_
  refine J_bipush (8 : Int32) dX12_edition_8 kb_8 ?_
  refine J_icmp_ne 17 dX12_edition_10 rfl (fun q4 => ?_) (fun q4 => ?_)
  · replace H := br0 q4 H
    refine J_iconst (0 : Int32) dX12_edition_17 kc_0 ?_
    exact J_dr (kX12_edition_18 H ) ⟨rfl, trivial⟩
  · replace H := br1 q4 H
    refine J_iconst (1 : Int32) dX12_edition_13 kc_1 ?_
    refine J_goto 18 dX12_edition_14 rfl ?_
    exact J_dr (kX12_edition_18 H ) ⟨rfl, trivial⟩
theorem okX12_edition {d : Nat} {h : Hp} {v0 : Nat} {r : Int32} {h9 : Hp} (H : MX12_edition h v0 = some (r, h9)) : CT (d + 1) YX12_edition [.ref v0] h (oI r) h9 := CT_of (by decide +kernel) (Nat.le_of_ble_eq_true rfl) (eX12_edition H)
noncomputable def MX12_end (h : Hp) (v0 : Nat) (v1 : Int32) : Option (Int32 × Hp) :=
  gg (β := (Int32 × Hp)) (kd h v0 = 11) <|
  lt (α := Hp) (β := Option (Int32 × Hp)) (sI h v0 0 (0 : Int32)) fun (h2 : Hp) =>
  if v1 < 0 then
    some ((0 : Int32), h2)
  else
    if v1 ≤ (gI h2 v0 6) then
      lt (α := Hp) (β := Option (Int32 × Hp)) (sI h2 v0 6 v1) fun (h9 : Hp) =>
      some ((1 : Int32), h9)
    else
      some ((0 : Int32), h2)
set_option maxRecDepth 100000 in
set_option maxHeartbeats 8000000 in
theorem eX12_end {d : Nat} {h : Hp} {v0 : Nat} {v1 : Int32} {r : Int32} {h9 : Hp} (H : MX12_end h v0 v1 = some (r, h9)) : J (d) YX12_end 0 [.ref v0, .int v1] [] h (oI r) h9 := by
  unfold MX12_end at H
  refine J_aload_n 0 dX12_end_0 rfl rfl ?_
  refine J_iconst (0 : Int32) dX12_end_1 kc_0 ?_
  obtain ⟨g1, H⟩ := gd H
  obtain ⟨h2, e3, H⟩ := lt_el H
  refine J_pI 11 0 dX12_end_2 g1 flX12_122 rfl rfl e3 ?_
  have c4 := ekI e3
  have c5 := elI e3
  have c6 := epI e3
  refine J_iload_n 1 dX12_end_5 rfl rfl ?_
  refine J_if_lt 17 dX12_end_6 rfl (fun q7 => ?_) (fun q7 => ?_)
  · replace H := br1 q7 H
    refine J_iconst (0 : Int32) dX12_end_17 kc_0 ?_
    cases H
    exact J_rZ dX12_end_18 rfl rfl
  · replace H := br0 q7 H
    refine J_iload_n 1 dX12_end_9 rfl rfl ?_
    refine J_aload_n 0 dX12_end_10 rfl rfl ?_
    refine J_getI 11 6 dX12_end_11 (kq c4 g1) flX12_127 rfl ?_
    refine J_icmp_le 19 dX12_end_14 rfl (fun q8 => ?_) (fun q8 => ?_)
    · replace H := br1 q8 H
      refine J_aload_n 0 dX12_end_19 rfl rfl ?_
      refine J_iload_n 1 dX12_end_20 rfl rfl ?_
      obtain ⟨h9, e10, H⟩ := lt_el H
      refine J_pI 11 6 dX12_end_21 (kq c4 g1) flX12_127 rfl rfl e10 ?_
      have c11 := (ekI e10).trans c4
      have c12 := (elI e10).trans c5
      have c13 := (epI e10).trans c6
      refine J_iconst (1 : Int32) dX12_end_24 kc_1 ?_
      cases H
      exact J_rZ dX12_end_25 rfl rfl
    · replace H := br0 q8 H
      refine J_iconst (0 : Int32) dX12_end_17 kc_0 ?_
      cases H
      exact J_rZ dX12_end_18 rfl rfl
theorem okX12_end {d : Nat} {h : Hp} {v0 : Nat} {v1 : Int32} {r : Int32} {h9 : Hp} (H : MX12_end h v0 v1 = some (r, h9)) : CT (d) YX12_end [.ref v0, .int v1] h (oI r) h9 := CT_of (by decide +kernel) (Nat.le_of_ble_eq_true rfl) (eX12_end H)
noncomputable def MX12_ends_142 (h : Hp) (v0 : Nat) (v4 : Int32) : Option (Int32 × Hp) :=
  gg (β := (Int32 × Hp)) (kd h v0 = 11) <|
  gg (β := (Int32 × Hp)) (kd h (gP h v0 33) = 20) <|
  gg (β := (Int32 × Hp)) (inB v4 (ln h (gP h v0 33)) = true) <|
  some (((gI h (gP h v0 33) v4.toNatClampNeg) - (1 : Int32)), h)
set_option maxRecDepth 100000 in
set_option maxHeartbeats 8000000 in
theorem kX12_ends_142 {d : Nat} {h : Hp} {v0 : Nat} {v4 : Int32} {r : Int32} {h9 : Hp} (H : MX12_ends_142 h v0 v4 = some (r, h9)) : J (d + 5) YX12_ends 142 [.ref v0, Value.null, Value.null, Value.null, .int v4, Value.null] [] h (oI r) h9 := by
  unfold MX12_ends_142 at H
  refine J_aload_n 0 dX12_ends_142 rfl rfl ?_
  obtain ⟨g31, H⟩ := gd H
  refine J_gP 11 33 dX12_ends_143 g31 flX12_61 rfl rfl ?_
  refine J_iload dX12_ends_146 rfl ?_
  obtain ⟨g32, H⟩ := gd H
  obtain ⟨g33, H⟩ := gd H
  refine J_iald dX12_ends_148 g32 (inB_ok g33) ?_
  refine J_iconst (1 : Int32) dX12_ends_149 kc_1 ?_
  refine J_isub dX12_ends_150 ?_
  cases H
  exact J_iretI dX12_ends_151 rfl
noncomputable def BX12_ends_121 (h : Hp) (v0 : Nat) (v2 : Int32) (v4 : Int32) (v5 : Int32) : Option ((Int32 × Int32) ⊕ (Int32 × Hp)) :=
  if v2 ≤ v5 then
    up1 (MX12_ends_142 h v0 v4)
  else
    gg (β := ((Int32 × Int32) ⊕ (Int32 × Hp))) (kd h v0 = 11) <|
    gg (β := ((Int32 × Int32) ⊕ (Int32 × Hp))) (kd h (gP h v0 33) = 20) <|
    gg (β := ((Int32 × Int32) ⊕ (Int32 × Hp))) (inB v4 (ln h (gP h v0 33)) = true) <|
    some (.inl ((gI h (gP h v0 33) v4.toNatClampNeg), (v5 + (1 : Int32))))
set_option maxRecDepth 100000 in
set_option maxHeartbeats 8000000 in
theorem bX12_ends_121 {d : Nat} {h : Hp} {v0 : Nat} {v2 : Int32} {v4 : Int32} {v5 : Int32} {r : Int32} {h9 : Hp} {x : ((Int32 × Int32) ⊕ (Int32 × Hp))} (H : BX12_ends_121 h v0 v2 v4 v5 = some x) (hb0 : ∀ s : Int32 × Int32, x = .inl s → J (d + 5) YX12_ends 121 [.ref v0, Value.null, .int v2, Value.null, .int s.1, .int s.2] [] h (oI r) h9) (hx : ∀ z : (Int32 × Hp), x = .inr (z) → z = (r, h9)) : J (d + 5) YX12_ends 121 [.ref v0, Value.null, .int v2, Value.null, .int v4, .int v5] [] h (oI r) h9 := by
  unfold BX12_ends_121 at H
  refine J_iload dX12_ends_121 rfl ?_
  refine J_iload_n 2 dX12_ends_123 rfl rfl ?_
  refine J_icmp_ge 142 dX12_ends_124 rfl (fun q30 => ?_) (fun q30 => ?_)
  · replace H := br1 q30 H
    obtain ⟨y0, H90, rfl⟩ := up1_el H
    replace H := H90
    obtain rfl := hx _ rfl
    exact J_dr (kX12_ends_142 H ) ⟨rfl, ⟨rfl, trivial⟩⟩
  · replace H := br0 q30 H
    refine J_aload_n 0 dX12_ends_127 rfl rfl ?_
    obtain ⟨g34, H⟩ := gd H
    refine J_gP 11 33 dX12_ends_128 g34 flX12_61 rfl rfl ?_
    refine J_iload dX12_ends_131 rfl ?_
    obtain ⟨g35, H⟩ := gd H
    obtain ⟨g36, H⟩ := gd H
    refine J_iald dX12_ends_133 g35 (inB_ok g36) ?_
    refine J_istore dX12_ends_134 (by decide) (ls' := [.ref v0, Value.null, .int v2, Value.null, .int (gI h (gP h v0 33) v4.toNatClampNeg), .int v5]) rfl ?_
    refine J_iinc (v5 + (1 : Int32)) dX12_ends_136 rfl (congrArg (HAdd.hAdd v5) kc_1) (by decide) (ls' := [.ref v0, Value.null, .int v2, Value.null, .int (gI h (gP h v0 33) v4.toNatClampNeg), .int (v5 + (1 : Int32))]) rfl ?_
    refine J_goto 121 dX12_ends_139 rfl ?_
    cases H
    exact J_dr (hb0 _ rfl) ⟨rfl, ⟨rfl, ⟨rfl, ⟨rfl, trivial⟩⟩⟩⟩
noncomputable def MX12_ends_121 (h : Hp) (v0 : Nat) (v2 : Int32) (v4 : Int32) (v5 : Int32) : Option (Int32 × Hp) := it (fun q : Int32 × Int32 => BX12_ends_121 h v0 v2 q.1 q.2) (v4, v5)
set_option maxRecDepth 100000 in
set_option maxHeartbeats 8000000 in
theorem kX12_ends_121 {d : Nat} {h : Hp} {v0 : Nat} {v2 : Int32} {v4 : Int32} {v5 : Int32} {r : Int32} {h9 : Hp} (H : MX12_ends_121 h v0 v2 v4 v5 = some (r, h9)) : J (d + 5) YX12_ends 121 [.ref v0, Value.null, .int v2, Value.null, .int v4, .int v5] [] h (oI r) h9 := by
  unfold MX12_ends_121 at H
  refine it_J (G := (fun q : Int32 × Int32 => J (d + 5) YX12_ends 121 [.ref v0, Value.null, .int v2, Value.null, .int q.1, .int q.2] [] h (oI r) h9)) (Q := (fun y : (Int32 × Hp) => y = (r, h9))) (fun q x Hq hm => ?_) H rfl
  exact bX12_ends_121 Hq (fun s hs => by subst hs; exact hm) (fun z hz => by subst hz; exact hm)
noncomputable def MX12_ends_14 (h : Hp) (v0 : Nat) (v1 : Int32) (v2 : Int32) (s0 : Nat) (s1 : Int32) : Option (Int32 × Hp) :=
  gg (β := (Int32 × Hp)) (kd h s0 = 11) <|
  lt (α := Hp) (β := Option (Int32 × Hp)) (sI h s0 0 s1) fun (h6 : Hp) =>
  gg (β := (Int32 × Hp)) (kd h v0 = 11) <|
  if (gI h6 v0 0) ≤ 0 then
    Option.bind (α := Int32) (β := (Int32 × Hp)) (MX12_part0 h6 v1) fun (t14 : Int32) =>
    gg (β := (Int32 × Hp)) (kd h (gP h v0 1) = 20) <|
    gg (β := (Int32 × Hp)) (inB (t14 + (3 : Int32)) (ln h (gP h v0 1)) = true) <|
    if (gI h6 (gP h v0 1) (t14 + (3 : Int32)).toNatClampNeg) = (1 : Int32) then
      gg (β := (Int32 × Hp)) (inB (t14 + (4 : Int32)) (ln h (gP h v0 1)) = true) <|
      Option.bind (α := Int32) (β := (Int32 × Hp)) (MX12_isIn h6 v2 (0 : Int32) ((gI h6 (gP h v0 1) (t14 + (4 : Int32)).toNatClampNeg) - (1 : Int32))) fun (t39 : Int32) =>
      if t39 = 0 then
        some ((-1 : Int32), h6)
      else
        gg (β := (Int32 × Hp)) (inB ((t14 + (5 : Int32)) + v2) (ln h (gP h v0 1)) = true) <|
        some ((gI h6 (gP h v0 1) ((t14 + (5 : Int32)) + v2).toNatClampNeg), h6)
    else
      gg (β := (Int32 × Hp)) (inB (0 : Int32) (ln h (gP h v0 1)) = true) <|
      Option.bind (α := Hp) (β := (Int32 × Hp)) (MX12_work h6 v0 v1 (gI h6 (gP h v0 1) (0 : Int32).toNatClampNeg)) fun (h20 : Hp) =>
      gg (β := (Int32 × Hp)) (kd h20 v0 = 11) <|
      gg (β := (Int32 × Hp)) (kd h20 (gP h20 v0 31) = 20) <|
      gg (β := (Int32 × Hp)) (inB (0 : Int32) (ln h20 (gP h20 v0 31)) = true) <|
      if (gI h20 (gP h20 v0 31) (0 : Int32).toNatClampNeg) = (-1 : Int32) then
        some ((-1 : Int32), h20)
      else
        gg (β := (Int32 × Hp)) (kd h20 (gP h20 v0 32) = 20) <|
        gg (β := (Int32 × Hp)) (inB (0 : Int32) (ln h20 (gP h20 v0 32)) = true) <|
        Option.bind (α := Int32) (β := (Int32 × Hp)) (MX12_isIn h20 v2 (0 : Int32) ((gI h20 (gP h20 v0 32) (0 : Int32).toNatClampNeg) - (1 : Int32))) fun (t28 : Int32) =>
        if t28 = 0 then
          some ((-1 : Int32), h20)
        else
          MX12_ends_121 h20 v0 v2 (0 : Int32) (0 : Int32)
  else
    some ((0 : Int32), h6)
set_option maxRecDepth 100000 in
set_option maxHeartbeats 8000000 in
theorem kX12_ends_14 {d : Nat} {h : Hp} {v0 : Nat} {v1 : Int32} {v2 : Int32} {s0 : Nat} {s1 : Int32} {r : Int32} {h9 : Hp} (H : MX12_ends_14 h v0 v1 v2 s0 s1 = some (r, h9)) : J (d + 5) YX12_ends 14 [.ref v0, .int v1, .int v2, Value.null, Value.null, Value.null] [.int s1, .ref s0] h (oI r) h9 := by
  unfold MX12_ends_14 at H
  obtain ⟨g5, H⟩ := gd H
  obtain ⟨h6, e7, H⟩ := lt_el H
  refine J_pI 11 0 dX12_ends_14 g5 flX12_122 rfl rfl e7 ?_
  have c8 := ekI e7
  have c9 := elI e7
  have c10 := epI e7
  refine J_aload_n 0 dX12_ends_17 rfl rfl ?_
  obtain ⟨g11, H⟩ := gd H
  refine J_getI 11 0 dX12_ends_18 (kq c8 g11) flX12_122 rfl ?_
  refine J_if_le 26 dX12_ends_21 rfl (fun q12 => ?_) (fun q12 => ?_)
  · replace H := br1 q12 H
    refine J_iload_n 1 dX12_ends_26 rfl rfl ?_
    obtain ⟨t14, e13, H⟩ := bd H
    refine J_cS (as := [.int v1]) YX12_part0 1 dX12_ends_27 moX12_part0 msX12_part0 mlX12_164 (okX12_part0 (d := d + 4) e13) rfl rfl [] rfl rfl (st2 := [.int t14]) rfl ?_
    refine J_istore_n 3 dX12_ends_30 rfl (by decide) (ls' := [.ref v0, .int v1, .int v2, .int t14, Value.null, Value.null]) rfl ?_
    refine J_aload_n 0 dX12_ends_31 rfl rfl ?_
    refine J_gP 11 1 dX12_ends_32 (kq c8 g11) flX12_8 rfl (congrFun (congrFun c10 v0) 1) ?_
    refine J_iload_n 3 dX12_ends_35 rfl rfl ?_
    refine J_iconst (3 : Int32) dX12_ends_36 kc_3 ?_
    refine J_iadd dX12_ends_37 ?_
    obtain ⟨g15, H⟩ := gd H
    obtain ⟨g16, H⟩ := gd H
    refine J_iald dX12_ends_38 (kq c8 g15) (lq c9 g16) ?_
    refine J_iconst (1 : Int32) dX12_ends_39 kc_1 ?_
    refine J_icmp_ne 76 dX12_ends_40 rfl (fun q17 => ?_) (fun q17 => ?_)
    · replace H := br0 q17 H
      refine J_aload_n 0 dX12_ends_76 rfl rfl ?_
      refine J_iload_n 1 dX12_ends_77 rfl rfl ?_
      refine J_aload_n 0 dX12_ends_78 rfl rfl ?_
      refine J_gP 11 1 dX12_ends_79 (kq c8 g11) flX12_8 rfl (congrFun (congrFun c10 v0) 1) ?_
      refine J_iconst (0 : Int32) dX12_ends_82 kc_0 ?_
      obtain ⟨g18, H⟩ := gd H
      refine J_iald dX12_ends_83 (kq c8 g15) (lq c9 g18) ?_
      obtain ⟨h20, e19, H⟩ := bd H
      refine J_cV (as := [.int v1, .int (gI h6 (gP h v0 1) (0 : Int32).toNatClampNeg)]) 11 YX12_work 2 dX12_ends_84 moX12_work mvX12_work mlX12_345 (kq c8 g11) rfl rfl (okX12_work (d := d) e19) rfl rfl [] rfl rfl (st2 := []) rfl ?_
      refine J_aload_n 0 dX12_ends_87 rfl rfl ?_
      obtain ⟨g21, H⟩ := gd H
      refine J_gP 11 31 dX12_ends_88 g21 flX12_55 rfl rfl ?_
      refine J_iconst (0 : Int32) dX12_ends_91 kc_0 ?_
      obtain ⟨g22, H⟩ := gd H
      obtain ⟨g23, H⟩ := gd H
      refine J_iald dX12_ends_92 g22 (inB_ok g23) ?_
      refine J_iconst (-1 : Int32) dX12_ends_93 kc_m1 ?_
      refine J_icmp_eq 113 dX12_ends_94 rfl (fun q24 => ?_) (fun q24 => ?_)
      · replace H := br1 q24 H
        refine J_iconst (-1 : Int32) dX12_ends_113 kc_m1 ?_
        cases H
        exact J_iretI dX12_ends_114 rfl
      · replace H := br0 q24 H
        refine J_iload_n 2 dX12_ends_97 rfl rfl ?_
        refine J_iconst (0 : Int32) dX12_ends_98 kc_0 ?_
        refine J_aload_n 0 dX12_ends_99 rfl rfl ?_
        refine J_gP 11 32 dX12_ends_100 g21 flX12_58 rfl rfl ?_
        refine J_iconst (0 : Int32) dX12_ends_103 kc_0 ?_
        obtain ⟨g25, H⟩ := gd H
        obtain ⟨g26, H⟩ := gd H
        refine J_iald dX12_ends_104 g25 (inB_ok g26) ?_
        refine J_iconst (1 : Int32) dX12_ends_105 kc_1 ?_
        refine J_isub dX12_ends_106 ?_
        obtain ⟨t28, e27, H⟩ := bd H
        refine J_cS (as := [.int v2, .int (0 : Int32), .int ((gI h20 (gP h20 v0 32) (0 : Int32).toNatClampNeg) - (1 : Int32))]) YX12_isIn 3 dX12_ends_107 moX12_isIn msX12_isIn mlX12_157 (okX12_isIn (d := d + 4) e27) rfl rfl [] rfl rfl (st2 := [.int t28]) rfl ?_
        refine J_if_ne 115 dX12_ends_110 rfl (fun q29 => ?_) (fun q29 => ?_)
        · replace H := br0 q29 H
          refine J_iconst (0 : Int32) dX12_ends_115 kc_0 ?_
          refine J_istore dX12_ends_116 (by decide) (ls' := [.ref v0, .int v1, .int v2, .int t14, .int (0 : Int32), Value.null]) rfl ?_
          refine J_iconst (0 : Int32) dX12_ends_118 kc_0 ?_
          refine J_istore dX12_ends_119 (by decide) (ls' := [.ref v0, .int v1, .int v2, .int t14, .int (0 : Int32), .int (0 : Int32)]) rfl ?_
          exact J_dr (kX12_ends_121 H ) ⟨rfl, ⟨rfl, ⟨rfl, ⟨rfl, trivial⟩⟩⟩⟩
        · replace H := br1 q29 H
          refine J_iconst (-1 : Int32) dX12_ends_113 kc_m1 ?_
          cases H
          exact J_iretI dX12_ends_114 rfl
    · replace H := br1 q17 H
      refine J_iload_n 2 dX12_ends_43 rfl rfl ?_
      refine J_iconst (0 : Int32) dX12_ends_44 kc_0 ?_
      refine J_aload_n 0 dX12_ends_45 rfl rfl ?_
      refine J_gP 11 1 dX12_ends_46 (kq c8 g11) flX12_8 rfl (congrFun (congrFun c10 v0) 1) ?_
      refine J_iload_n 3 dX12_ends_49 rfl rfl ?_
      refine J_iconst (4 : Int32) dX12_ends_50 kc_4 ?_
      refine J_iadd dX12_ends_51 ?_
      obtain ⟨g37, H⟩ := gd H
      refine J_iald dX12_ends_52 (kq c8 g15) (lq c9 g37) ?_
      refine J_iconst (1 : Int32) dX12_ends_53 kc_1 ?_
      refine J_isub dX12_ends_54 ?_
      obtain ⟨t39, e38, H⟩ := bd H
      refine J_cS (as := [.int v2, .int (0 : Int32), .int ((gI h6 (gP h v0 1) (t14 + (4 : Int32)).toNatClampNeg) - (1 : Int32))]) YX12_isIn 3 dX12_ends_55 moX12_isIn msX12_isIn mlX12_157 (okX12_isIn (d := d + 4) e38) rfl rfl [] rfl rfl (st2 := [.int t39]) rfl ?_
      refine J_if_eq 74 dX12_ends_58 rfl (fun q40 => ?_) (fun q40 => ?_)
      · replace H := br1 q40 H
        refine J_iconst (-1 : Int32) dX12_ends_74 kc_m1 ?_
        cases H
        exact J_iretI dX12_ends_75 rfl
      · replace H := br0 q40 H
        refine J_aload_n 0 dX12_ends_61 rfl rfl ?_
        refine J_gP 11 1 dX12_ends_62 (kq c8 g11) flX12_8 rfl (congrFun (congrFun c10 v0) 1) ?_
        refine J_iload_n 3 dX12_ends_65 rfl rfl ?_
        refine J_iconst (5 : Int32) dX12_ends_66 kc_5 ?_
        refine J_iadd dX12_ends_67 ?_
        refine J_iload_n 2 dX12_ends_68 rfl rfl ?_
        refine J_iadd dX12_ends_69 ?_
        obtain ⟨g41, H⟩ := gd H
        refine J_iald dX12_ends_70 (kq c8 g15) (lq c9 g41) ?_
        refine J_goto 75 dX12_ends_71 rfl ?_
        cases H
        exact J_iretI dX12_ends_75 rfl
  · replace H := br0 q12 H
    refine J_iconst (0 : Int32) dX12_ends_24 kc_0 ?_
    cases H
    exact J_iretI dX12_ends_25 rfl
noncomputable def MX12_ends (h : Hp) (v0 : Nat) (v1 : Int32) (v2 : Int32) : Option (Int32 × Hp) :=
  gg (β := (Int32 × Hp)) (kd h v0 = 11) <|
  Option.bind (α := Int32) (β := (Int32 × Hp)) (MX12_isPart h v0 v1) fun (t3 : Int32) =>
  if t3 = 0 then
    MX12_ends_14 h v0 v1 v2 v0 (1 : Int32)
  else
    MX12_ends_14 h v0 v1 v2 v0 (0 : Int32)
set_option maxRecDepth 100000 in
set_option maxHeartbeats 8000000 in
theorem eX12_ends {d : Nat} {h : Hp} {v0 : Nat} {v1 : Int32} {v2 : Int32} {r : Int32} {h9 : Hp} (H : MX12_ends h v0 v1 v2 = some (r, h9)) : J (d + 5) YX12_ends 0 [.ref v0, .int v1, .int v2, Value.null, Value.null, Value.null] [] h (oI r) h9 := by
  unfold MX12_ends at H
  refine J_aload_n 0 dX12_ends_0 rfl rfl ?_
  refine J_aload_n 0 dX12_ends_1 rfl rfl ?_
  refine J_iload_n 1 dX12_ends_2 rfl rfl ?_
  obtain ⟨g2, H⟩ := gd H
  obtain ⟨t3, e1, H⟩ := bd H
  refine J_cV (as := [.int v1]) 11 YX12_isPart 1 dX12_ends_3 moX12_isPart mvX12_isPart mlX12_311 g2 rfl rfl (okX12_isPart (d := d + 4) e1) rfl rfl [.ref v0] rfl rfl (st2 := [.int t3, .ref v0]) rfl ?_
  refine J_if_ne 13 dX12_ends_6 rfl (fun q4 => ?_) (fun q4 => ?_)
  · replace H := br0 q4 H
    refine J_iconst (0 : Int32) dX12_ends_13 kc_0 ?_
    exact J_dr (kX12_ends_14 H ) ⟨rfl, ⟨rfl, ⟨rfl, trivial⟩⟩⟩
  · replace H := br1 q4 H
    refine J_iconst (1 : Int32) dX12_ends_9 kc_1 ?_
    refine J_goto 14 dX12_ends_10 rfl ?_
    exact J_dr (kX12_ends_14 H ) ⟨rfl, ⟨rfl, ⟨rfl, trivial⟩⟩⟩
theorem okX12_ends {d : Nat} {h : Hp} {v0 : Nat} {v1 : Int32} {v2 : Int32} {r : Int32} {h9 : Hp} (H : MX12_ends h v0 v1 v2 = some (r, h9)) : CT (d + 5) YX12_ends [.ref v0, .int v1, .int v2] h (oI r) h9 := CT_of (by decide +kernel) (Nat.le_of_ble_eq_true rfl) (eX12_ends H)
noncomputable def BX12_wordEnd_5 (h : Hp) (v0 : Nat) (v1 : Int32) : Option ((Int32) ⊕ Int32) :=
  gg (β := ((Int32) ⊕ Int32)) (kd h v0 = 11) <|
  if (gI h v0 7) ≤ v1 then
    some (.inr (v1))
  else
    gg (β := ((Int32) ⊕ Int32)) (kd h (gP h v0 5) = 20) <|
    gg (β := ((Int32) ⊕ Int32)) (inB v1 (ln h (gP h v0 5)) = true) <|
    Option.bind (α := Int32) (β := ((Int32) ⊕ Int32)) (MX12_isLetter h (gI h (gP h v0 5) v1.toNatClampNeg)) fun (t7 : Int32) =>
    if t7 = 0 then
      some (.inr (v1))
    else
      some (.inl (v1 + (1 : Int32)))
set_option maxRecDepth 100000 in
set_option maxHeartbeats 8000000 in
theorem bX12_wordEnd_5 {d : Nat} {h : Hp} {v0 : Nat} {v1 : Int32} {r : Int32} {x : ((Int32) ⊕ Int32)} (H : BX12_wordEnd_5 h v0 v1 = some x) (hb0 : ∀ s : Int32, x = .inl s → J (d + 1) YX12_wordEnd 5 [.ref v0, .int s] [] h (oI r) h) (hx : ∀ z : Int32, x = .inr (z) → z = r) : J (d + 1) YX12_wordEnd 5 [.ref v0, .int v1] [] h (oI r) h := by
  unfold BX12_wordEnd_5 at H
  refine J_iload_n 1 dX12_wordEnd_5 rfl rfl ?_
  refine J_aload_n 0 dX12_wordEnd_6 rfl rfl ?_
  obtain ⟨g2, H⟩ := gd H
  refine J_getI 11 7 dX12_wordEnd_7 g2 flX12_134 rfl ?_
  refine J_icmp_ge 31 dX12_wordEnd_10 rfl (fun q3 => ?_) (fun q3 => ?_)
  · replace H := br1 q3 H
    refine J_iload_n 1 dX12_wordEnd_31 rfl rfl ?_
    cases H
    cases hx _ rfl
    exact J_iretI dX12_wordEnd_32 rfl
  · replace H := br0 q3 H
    refine J_aload_n 0 dX12_wordEnd_13 rfl rfl ?_
    refine J_gP 11 5 dX12_wordEnd_14 g2 flX12_20 rfl rfl ?_
    refine J_iload_n 1 dX12_wordEnd_17 rfl rfl ?_
    obtain ⟨g4, H⟩ := gd H
    obtain ⟨g5, H⟩ := gd H
    refine J_iald dX12_wordEnd_18 g4 (inB_ok g5) ?_
    obtain ⟨t7, e6, H⟩ := bd H
    refine J_cS (as := [.int (gI h (gP h v0 5) v1.toNatClampNeg)]) YX12_isLetter 1 dX12_wordEnd_19 moX12_isLetter msX12_isLetter mlX12_143 (okX12_isLetter (d := d) e6) rfl rfl [] rfl rfl (st2 := [.int t7]) rfl ?_
    refine J_if_eq 31 dX12_wordEnd_22 rfl (fun q8 => ?_) (fun q8 => ?_)
    · replace H := br1 q8 H
      refine J_iload_n 1 dX12_wordEnd_31 rfl rfl ?_
      cases H
      cases hx _ rfl
      exact J_iretI dX12_wordEnd_32 rfl
    · replace H := br0 q8 H
      refine J_iinc (v1 + (1 : Int32)) dX12_wordEnd_25 rfl (congrArg (HAdd.hAdd v1) kc_1) (by decide) (ls' := [.ref v0, .int (v1 + (1 : Int32))]) rfl ?_
      refine J_goto 5 dX12_wordEnd_28 rfl ?_
      cases H
      exact J_dr (hb0 _ rfl) ⟨rfl, ⟨rfl, trivial⟩⟩
noncomputable def MX12_wordEnd_5 (h : Hp) (v0 : Nat) (v1 : Int32) : Option Int32 := it (fun q : Int32 => BX12_wordEnd_5 h v0 q) (v1)
set_option maxRecDepth 100000 in
set_option maxHeartbeats 8000000 in
theorem kX12_wordEnd_5 {d : Nat} {h : Hp} {v0 : Nat} {v1 : Int32} {r : Int32} (H : MX12_wordEnd_5 h v0 v1 = some r) : J (d + 1) YX12_wordEnd 5 [.ref v0, .int v1] [] h (oI r) h := by
  unfold MX12_wordEnd_5 at H
  refine it_J (G := (fun q : Int32 => J (d + 1) YX12_wordEnd 5 [.ref v0, .int q] [] h (oI r) h)) (Q := (fun y : Int32 => y = r)) (fun q x Hq hm => ?_) H rfl
  exact bX12_wordEnd_5 Hq (fun s hs => by subst hs; exact hm) (fun z hz => by subst hz; exact hm)
noncomputable def MX12_wordEnd (h : Hp) (v0 : Nat) : Option Int32 :=
  gg (β := Int32) (kd h v0 = 11) <|
  MX12_wordEnd_5 h v0 (gI h v0 8)
set_option maxRecDepth 100000 in
set_option maxHeartbeats 8000000 in
theorem eX12_wordEnd {d : Nat} {h : Hp} {v0 : Nat} {r : Int32} (H : MX12_wordEnd h v0 = some r) : J (d + 1) YX12_wordEnd 0 [.ref v0, Value.null] [] h (oI r) h := by
  unfold MX12_wordEnd at H
  refine J_aload_n 0 dX12_wordEnd_0 rfl rfl ?_
  obtain ⟨g1, H⟩ := gd H
  refine J_getI 11 8 dX12_wordEnd_1 g1 flX12_137 rfl ?_
  refine J_istore_n 1 dX12_wordEnd_4 rfl (by decide) (ls' := [.ref v0, .int (gI h v0 8)]) rfl ?_
  exact J_dr (kX12_wordEnd_5 H ) ⟨rfl, ⟨rfl, trivial⟩⟩
theorem okX12_wordEnd {d : Nat} {h : Hp} {v0 : Nat} {r : Int32} (H : MX12_wordEnd h v0 = some r) : CT (d + 1) YX12_wordEnd [.ref v0] h (oI r) h := CT_of (by decide +kernel) (Nat.le_of_ble_eq_true rfl) (eX12_wordEnd H)
noncomputable def MX12_takes_71 (h : Hp) (v0 : Nat) (v1 : Nat) (v2 : Int32) : Option (Int32 × Hp) :=
  if v2 = 0 then
    gg (β := (Int32 × Hp)) (zOk v2 = true) <|
    some (v2, h)
  else
    gg (β := (Int32 × Hp)) (kd h v0 = 11) <|
    gg (β := (Int32 × Hp)) (Nat.blt v1 21 = true) <|
    lt (α := Hp) (β := Option (Int32 × Hp)) (sI h v0 8 ((gI h v0 8) + (sLen v1))) fun (h15 : Hp) =>
    gg (β := (Int32 × Hp)) (zOk v2 = true) <|
    some (v2, h15)
set_option maxRecDepth 100000 in
set_option maxHeartbeats 8000000 in
theorem kX12_takes_71 {d : Nat} {h : Hp} {v0 : Nat} {v1 : Nat} {v2 : Int32} {r : Int32} {h9 : Hp} (H : MX12_takes_71 h v0 v1 v2 = some (r, h9)) : J (d + 4) YX12_takes 71 [.ref v0, .retAddr v1, .int v2, Value.null] [] h (oI r) h9 := by
  unfold MX12_takes_71 at H
  refine J_iload_n 2 dX12_takes_71 rfl rfl ?_
  refine J_if_eq 88 dX12_takes_72 rfl (fun q11 => ?_) (fun q11 => ?_)
  · replace H := br1 q11 H
    refine J_iload_n 2 dX12_takes_88 rfl rfl ?_
    obtain ⟨g12, H⟩ := gd H
    cases H
    exact J_rZ dX12_takes_89 rfl g12
  · replace H := br0 q11 H
    refine J_aload_n 0 dX12_takes_75 rfl rfl ?_
    refine J_dup dX12_takes_76 rfl ?_
    obtain ⟨g13, H⟩ := gd H
    refine J_getI 11 8 dX12_takes_77 g13 flX12_137 rfl ?_
    refine J_aload_nT 1 dX12_takes_80 rfl rfl ?_
    obtain ⟨g14, H⟩ := gd H
    refine J_sl dX12_takes_81 mlX12_172 g14 rfl ?_
    refine J_iadd dX12_takes_84 ?_
    obtain ⟨h15, e16, H⟩ := lt_el H
    refine J_pI 11 8 dX12_takes_85 g13 flX12_137 rfl rfl e16 ?_
    have c17 := ekI e16
    have c18 := elI e16
    have c19 := epI e16
    refine J_iload_n 2 dX12_takes_88 rfl rfl ?_
    obtain ⟨g20, H⟩ := gd H
    cases H
    exact J_rZ dX12_takes_89 rfl g20
noncomputable def MX12_takes_64 (h : Hp) (v0 : Nat) (v1 : Nat) (v3 : Int32) (s0 : Int32) : Option ((Int32 × Int32) ⊕ (Int32 × Hp)) :=
  some (.inl (s0, (v3 + (1 : Int32))))
set_option maxRecDepth 100000 in
set_option maxHeartbeats 8000000 in
theorem kX12_takes_64 {d : Nat} {h : Hp} {v0 : Nat} {v1 : Nat} {v3 : Int32} {s0 : Int32} {r : Int32} {h9 : Hp} {x : ((Int32 × Int32) ⊕ (Int32 × Hp))} (H : MX12_takes_64 h v0 v1 v3 s0 = some x) (hb0 : ∀ s : Int32 × Int32, x = .inl s → J (d + 4) YX12_takes 28 [.ref v0, .retAddr v1, .int s.1, .int s.2] [] h (oI r) h9) (hx : ∀ z : (Int32 × Hp), x = .inr (z) → z = (r, h9)) : J (d + 4) YX12_takes 64 [.ref v0, .retAddr v1, Value.null, .int v3] [.int s0] h (oI r) h9 := by
  unfold MX12_takes_64 at H
  refine J_istore_n 2 dX12_takes_64 rfl (by decide) (ls' := [.ref v0, .retAddr v1, .int s0, .int v3]) rfl ?_
  refine J_iinc (v3 + (1 : Int32)) dX12_takes_65 rfl (congrArg (HAdd.hAdd v3) kc_1) (by decide) (ls' := [.ref v0, .retAddr v1, .int s0, .int (v3 + (1 : Int32))]) rfl ?_
  refine J_goto 28 dX12_takes_68 rfl ?_
  cases H
  exact J_dr (hb0 _ rfl) ⟨rfl, ⟨rfl, ⟨rfl, ⟨rfl, trivial⟩⟩⟩⟩
noncomputable def BX12_takes_28 (h : Hp) (v0 : Nat) (v1 : Nat) (v2 : Int32) (v3 : Int32) : Option ((Int32 × Int32) ⊕ (Int32 × Hp)) :=
  gg (β := ((Int32 × Int32) ⊕ (Int32 × Hp))) (Nat.blt v1 21 = true) <|
  if (sLen v1) ≤ v3 then
    up1 (MX12_takes_71 h v0 v1 v2)
  else
    if v2 = 0 then
      up1 (MX12_takes_71 h v0 v1 v2)
    else
      gg (β := ((Int32 × Int32) ⊕ (Int32 × Hp))) (kd h v0 = 11) <|
      gg (β := ((Int32 × Int32) ⊕ (Int32 × Hp))) (kd h (gP h v0 5) = 20) <|
      gg (β := ((Int32 × Int32) ⊕ (Int32 × Hp))) (inB ((gI h v0 8) + v3) (ln h (gP h v0 5)) = true) <|
      gg (β := ((Int32 × Int32) ⊕ (Int32 × Hp))) (inB v3 (sN v1) = true) <|
      if (gI h (gP h v0 5) ((gI h v0 8) + v3).toNatClampNeg) = (sAt v1 v3) then
        MX12_takes_64 h v0 v1 v3 (1 : Int32)
      else
        MX12_takes_64 h v0 v1 v3 (0 : Int32)
set_option maxRecDepth 100000 in
set_option maxHeartbeats 8000000 in
theorem bX12_takes_28 {d : Nat} {h : Hp} {v0 : Nat} {v1 : Nat} {v2 : Int32} {v3 : Int32} {r : Int32} {h9 : Hp} {x : ((Int32 × Int32) ⊕ (Int32 × Hp))} (H : BX12_takes_28 h v0 v1 v2 v3 = some x) (hb0 : ∀ s : Int32 × Int32, x = .inl s → J (d + 4) YX12_takes 28 [.ref v0, .retAddr v1, .int s.1, .int s.2] [] h (oI r) h9) (hx : ∀ z : (Int32 × Hp), x = .inr (z) → z = (r, h9)) : J (d + 4) YX12_takes 28 [.ref v0, .retAddr v1, .int v2, .int v3] [] h (oI r) h9 := by
  unfold BX12_takes_28 at H
  refine J_iload_n 3 dX12_takes_28 rfl rfl ?_
  refine J_aload_nT 1 dX12_takes_29 rfl rfl ?_
  obtain ⟨g9, H⟩ := gd H
  refine J_sl dX12_takes_30 mlX12_172 g9 rfl ?_
  refine J_icmp_ge 71 dX12_takes_33 rfl (fun q10 => ?_) (fun q10 => ?_)
  · replace H := br1 q10 H
    obtain ⟨y0, H90, rfl⟩ := up1_el H
    replace H := H90
    obtain rfl := hx _ rfl
    exact J_dr (kX12_takes_71 H ) ⟨rfl, ⟨rfl, ⟨rfl, trivial⟩⟩⟩
  · replace H := br0 q10 H
    refine J_iload_n 2 dX12_takes_36 rfl rfl ?_
    refine J_if_eq 71 dX12_takes_37 rfl (fun q21 => ?_) (fun q21 => ?_)
    · replace H := br1 q21 H
      obtain ⟨y0, H90, rfl⟩ := up1_el H
      replace H := H90
      obtain rfl := hx _ rfl
      exact J_dr (kX12_takes_71 H ) ⟨rfl, ⟨rfl, ⟨rfl, trivial⟩⟩⟩
    · replace H := br0 q21 H
      refine J_aload_n 0 dX12_takes_40 rfl rfl ?_
      obtain ⟨g22, H⟩ := gd H
      refine J_gP 11 5 dX12_takes_41 g22 flX12_20 rfl rfl ?_
      refine J_aload_n 0 dX12_takes_44 rfl rfl ?_
      refine J_getI 11 8 dX12_takes_45 g22 flX12_137 rfl ?_
      refine J_iload_n 3 dX12_takes_48 rfl rfl ?_
      refine J_iadd dX12_takes_49 ?_
      obtain ⟨g23, H⟩ := gd H
      obtain ⟨g24, H⟩ := gd H
      refine J_iald dX12_takes_50 g23 (inB_ok g24) ?_
      refine J_aload_nT 1 dX12_takes_51 rfl rfl ?_
      refine J_iload_n 3 dX12_takes_52 rfl rfl ?_
      obtain ⟨g25, H⟩ := gd H
      refine J_sc dX12_takes_53 mlX12_177 g9 g25 rfl ?_
      refine J_icmp_ne 63 dX12_takes_56 rfl (fun q26 => ?_) (fun q26 => ?_)
      · replace H := br0 q26 H
        refine J_iconst (0 : Int32) dX12_takes_63 kc_0 ?_
        exact J_dr (kX12_takes_64 H hb0 hx) ⟨rfl, ⟨rfl, ⟨rfl, trivial⟩⟩⟩
      · replace H := br1 q26 H
        refine J_iconst (1 : Int32) dX12_takes_59 kc_1 ?_
        refine J_goto 64 dX12_takes_60 rfl ?_
        exact J_dr (kX12_takes_64 H hb0 hx) ⟨rfl, ⟨rfl, ⟨rfl, trivial⟩⟩⟩
noncomputable def MX12_takes_28 (h : Hp) (v0 : Nat) (v1 : Nat) (v2 : Int32) (v3 : Int32) : Option (Int32 × Hp) := it (fun q : Int32 × Int32 => BX12_takes_28 h v0 v1 q.1 q.2) (v2, v3)
set_option maxRecDepth 100000 in
set_option maxHeartbeats 8000000 in
theorem kX12_takes_28 {d : Nat} {h : Hp} {v0 : Nat} {v1 : Nat} {v2 : Int32} {v3 : Int32} {r : Int32} {h9 : Hp} (H : MX12_takes_28 h v0 v1 v2 v3 = some (r, h9)) : J (d + 4) YX12_takes 28 [.ref v0, .retAddr v1, .int v2, .int v3] [] h (oI r) h9 := by
  unfold MX12_takes_28 at H
  refine it_J (G := (fun q : Int32 × Int32 => J (d + 4) YX12_takes 28 [.ref v0, .retAddr v1, .int q.1, .int q.2] [] h (oI r) h9)) (Q := (fun y : (Int32 × Hp) => y = (r, h9))) (fun q x Hq hm => ?_) H rfl
  exact bX12_takes_28 Hq (fun s hs => by subst hs; exact hm) (fun z hz => by subst hz; exact hm)
noncomputable def MX12_takes_25 (h : Hp) (v0 : Nat) (v1 : Nat) (s0 : Int32) : Option (Int32 × Hp) :=
  MX12_takes_28 h v0 v1 s0 (0 : Int32)
set_option maxRecDepth 100000 in
set_option maxHeartbeats 8000000 in
theorem kX12_takes_25 {d : Nat} {h : Hp} {v0 : Nat} {v1 : Nat} {s0 : Int32} {r : Int32} {h9 : Hp} (H : MX12_takes_25 h v0 v1 s0 = some (r, h9)) : J (d + 4) YX12_takes 25 [.ref v0, .retAddr v1, Value.null, Value.null] [.int s0] h (oI r) h9 := by
  unfold MX12_takes_25 at H
  refine J_istore_n 2 dX12_takes_25 rfl (by decide) (ls' := [.ref v0, .retAddr v1, .int s0, Value.null]) rfl ?_
  refine J_iconst (0 : Int32) dX12_takes_26 kc_0 ?_
  refine J_istore_n 3 dX12_takes_27 rfl (by decide) (ls' := [.ref v0, .retAddr v1, .int s0, .int (0 : Int32)]) rfl ?_
  exact J_dr (kX12_takes_28 H ) ⟨rfl, ⟨rfl, ⟨rfl, ⟨rfl, trivial⟩⟩⟩⟩
noncomputable def MX12_takes (h : Hp) (v0 : Nat) (v1 : Nat) : Option (Int32 × Hp) :=
  gg (β := (Int32 × Hp)) (kd h v0 = 11) <|
  Option.bind (α := Hp) (β := (Int32 × Hp)) (MX12_blanks h v0) fun (h3 : Hp) =>
  gg (β := (Int32 × Hp)) (kd h3 v0 = 11) <|
  Option.bind (α := Int32) (β := (Int32 × Hp)) (MX12_wordEnd h3 v0) fun (t6 : Int32) =>
  gg (β := (Int32 × Hp)) (Nat.blt v1 21 = true) <|
  if (t6 - (gI h3 v0 8)) = (sLen v1) then
    MX12_takes_25 h3 v0 v1 (1 : Int32)
  else
    MX12_takes_25 h3 v0 v1 (0 : Int32)
set_option maxRecDepth 100000 in
set_option maxHeartbeats 8000000 in
theorem eX12_takes {d : Nat} {h : Hp} {v0 : Nat} {v1 : Nat} {r : Int32} {h9 : Hp} (H : MX12_takes h v0 v1 = some (r, h9)) : J (d + 4) YX12_takes 0 [.ref v0, .retAddr v1, Value.null, Value.null] [] h (oI r) h9 := by
  unfold MX12_takes at H
  refine J_aload_n 0 dX12_takes_0 rfl rfl ?_
  obtain ⟨g2, H⟩ := gd H
  obtain ⟨h3, e1, H⟩ := bd H
  refine J_cV (as := []) 11 YX12_blanks 0 dX12_takes_1 moX12_blanks mvX12_blanks mlX12_147 g2 rfl rfl (okX12_blanks (d := d + 3) e1) rfl rfl [] rfl rfl (st2 := []) rfl ?_
  refine J_aload_n 0 dX12_takes_4 rfl rfl ?_
  obtain ⟨g5, H⟩ := gd H
  obtain ⟨t6, e4, H⟩ := bd H
  refine J_cV (as := []) 11 YX12_wordEnd 0 dX12_takes_5 moX12_wordEnd mvX12_wordEnd mlX12_168 g5 rfl rfl (okX12_wordEnd (d := d + 2) e4) rfl rfl [] rfl rfl (st2 := [.int t6]) rfl ?_
  refine J_aload_n 0 dX12_takes_8 rfl rfl ?_
  refine J_getI 11 8 dX12_takes_9 g5 flX12_137 rfl ?_
  refine J_isub dX12_takes_12 ?_
  refine J_aload_nT 1 dX12_takes_13 rfl rfl ?_
  obtain ⟨g7, H⟩ := gd H
  refine J_sl dX12_takes_14 mlX12_172 g7 rfl ?_
  refine J_icmp_ne 24 dX12_takes_17 rfl (fun q8 => ?_) (fun q8 => ?_)
  · replace H := br0 q8 H
    refine J_iconst (0 : Int32) dX12_takes_24 kc_0 ?_
    exact J_dr (kX12_takes_25 H ) ⟨rfl, ⟨rfl, trivial⟩⟩
  · replace H := br1 q8 H
    refine J_iconst (1 : Int32) dX12_takes_20 kc_1 ?_
    refine J_goto 25 dX12_takes_21 rfl ?_
    exact J_dr (kX12_takes_25 H ) ⟨rfl, ⟨rfl, trivial⟩⟩
theorem okX12_takes {d : Nat} {h : Hp} {v0 : Nat} {v1 : Nat} {r : Int32} {h9 : Hp} (H : MX12_takes h v0 v1 = some (r, h9)) : CT (d + 4) YX12_takes [.ref v0, .retAddr v1] h (oI r) h9 := CT_of (by decide +kernel) (Nat.le_of_ble_eq_true rfl) (eX12_takes H)
