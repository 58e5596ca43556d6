/-! correct: a line is spelled, its lines given apart -/
section
variable {h h1 h' : Hp} {m : Nat → Int32} {p q a b l X : Nat}
theorem c_spellG (PS : PtS h p) (PV : PtX h p m q) (B : MIb m) (J : MIx m q) (hX : kd h X = 21 ∧ ln h X = 512) (n0 : Nq X p) (n1 : ∀ k, k ≤ 4 → Nq X (gP h p k)) {nl : Nat} (c9 : gI h p 9 = nI nl) (n40 : nl ≤ 40) (hl : l < nl) (cl : ∀ j, j ≤ l → gI h (gP h p 3) j = m (130 + 645 * q + 5 + j)) (H : Ln m q l a b) : ∃ h1, MX5_spell h p (nI l) X = some (nI (wtX m q a b).length, h1) ∧ Fr (fun c => c = X) h h1 ∧ PLs h1 X (wtX m q a b) := by
  obtain ⟨j1, j40, j3⟩ := J.n
  have inner := fun d hd g G W => c_spIX (a := a) (b := b) PS PV B J hX n0 n1 (d := d) hd H.2.2.2.2.1 H.2.2.2.2.2 g G W
  obtain ⟨l40, eb, ea, hab, hbn, hlen⟩ := H
  have s0 := PS.1
  obtain ⟨-, s1k, s1l⟩ := PS.2.2.1
  obtain ⟨-, s2k, s2l⟩ := PS.2.2.2.1
  obtain ⟨-, s3k, s3l⟩ := PS.2.2.2.2.1
  have bg := PtX.bg PS PV J
  have c5 : gI h p 5 = nI (nP m q) := by rw [PV.1, j1]
  have fb : MX5_firstBitOfLine h p (nI l) = some (nI a) := by
    unfold MX5_firstBitOfLine
    simp only [ZL]
    rcases ea with ⟨z1, z2⟩ | ⟨z1, z2, z3⟩
    · rw [if_pos (nI_le (by omega) (by omega)), z2]
    · have := cl (l - 1) (by omega)
      rw [if_neg (nI_ge (by omega) (by omega)), gg_t s0, c9, if_neg (nI_nlt (by omega) (by omega)), gg_t s3k, s3l, pk_sub (by omega), gg_in (by omega) (by omega), nCl (by omega), this, z3, nAdd]
      exact congrArg (fun z => some (nI z)) (by omega)
  clear ea
  have e0 : MX5_spell h p (nI l) X = MX5_spell_36 h p X (nI b) (nI 0) (nI a) := by
    unfold MX5_spell
    simp only [ZL]
    rw [gg_t s0, c_hasLine_t s0 c9 (by omega) hl, ob_some, if_neg (by decide), gg_t s3k, s3l, gg_in (by omega) (by omega), fb, ob_some, nCl (by omega), cl l (Nat.le_refl l), eb, c5, pk_sub (by omega)]
    have : jmin (nI b) (nI (nP m q - 1)) = nI b := by
      unfold jmin
      rw [if_neg (nI_nlt (by omega) (by omega))]
    rw [this]
  rw [e0]
  unfold MX5_spell_36
  have keep : ∀ {g1 : Hp}, Fr (fun c => c = X) h g1 → gI g1 (gP h p 1) = gI h (gP h p 1) ∧ gI g1 (gP h p 2) = gI h (gP h p 2) := fun G1 => ⟨G1.2.2.2.2.2.2 _ (fun z => (n1 1 (by omega)).n z.symm), G1.2.2.2.2.2.2 _ (fun z => (n1 2 (by omega)).n z.symm)⟩
  have clo : ∀ k, k < nP m q → (ewN m q k → gI h (gP h p 2) k = nI 1) ∧ (¬ ewN m q k → gI h (gP h p 2) k = nI 0) := fun k hk => by
    obtain ⟨-, -, -, -, -, -, a7, -⟩ := PV
    rw [(a7 k (by show k < nP m q; omega)).2.1]
    exact ⟨fun z => if_pos z, fun z => if_neg z⟩
  -- what the class has behind d pieces
  obtain ⟨T, hT⟩ : ∃ T : Nat → List Nat, ∀ d, T d = if a + d ≤ b then txR m q a d ++ blL m q a d else wtX m q a b := ⟨_, fun _ => rfl⟩
  have K : ∃ r, it (fun s : Int32 × Int32 × Hp => BX5_spell_36 s.2.2 p X (nI b) s.1 s.2.1) (nI 0, nI a, h) = some r ∧ (r.1 = nI (wtX m q a b).length ∧ Fr (fun c => c = X) h r.2 ∧ PLs r.2 X (wtX m q a b)) := by
    refine it_cnt (fun d s => s.1 = nI (T d).length ∧ s.2.1 = nI (a + d) ∧ Fr (fun c => c = X) h s.2.2 ∧ PLs s.2.2 X (T d)) (b + 1 - a) (fun d s hd pp => ?_) (fun s pp => ?_) ⟨?_, rfl, Fr.rfl, ?_⟩
    · obtain ⟨y1, y2, g⟩ := s
      obtain ⟨p1, p2, G, W⟩ := pp
      replace p1 : y1 = nI (T d).length := p1
      replace p2 : y2 = nI (a + d) := p2
      replace G : Fr (fun c => c = X) h g := G
      replace W : PLs g X (T d) := W
      subst p1 p2
      have eT : T d = txR m q a d ++ blL m q a d := by rw [hT, if_pos (by omega)]
      rw [eT] at W ⊢
      obtain ⟨g1, G1, W1, k1⟩ := inner d (by omega) g G W
      have ls0 := ls_leX J (a + d) (by omega)
      have st : BX5_spell_36 g p X (nI b) (nI (txR m q a d ++ blL m q a d).length) (nI (a + d)) = MX5_spell_96 g1 p X (nI b) (nI (txR m q a (d + 1)).length) (nI (a + d)) := by
        unfold BX5_spell_36
        rw [if_neg (nI_nlt (by omega) (by omega)), G.1, G.2.1, G.2.2.1, gg_t s0, gg_t s1k, s1l, gg_in (by omega) (by omega), nCl (by omega), (keep G).1, bg (a + d) (by omega)]
        exact k1
      show ∃ s', BX5_spell_36 g p X (nI b) (nI (txR m q a d ++ blL m q a d).length) (nI (a + d)) = some (.inl s') ∧ _
      rw [st]
      obtain ⟨L, hL⟩ : ∃ L, L = txR m q a (d + 1) := ⟨_, rfl⟩
      have lb := wt_pre (m := m) (q := q) (a := a) (b := b) (d := d) (x := Nn m (130 + 645 * q + 125 + (a + d))) (by omega)
      rw [show (bitL m q (a + d)).take (Nn m (130 + 645 * q + 125 + (a + d))) = bitL m q (a + d) by rw [← bitL_len]; exact List.take_length, ← txR_s, ← hL] at lb
      rw [← hL] at W1 ⊢
      obtain ⟨c1, c2⟩ := clo (a + d) (by omega)
      have k2 := (keep G1).2
      have pd := pd_iffX J (b := a + d) (by omega)
      have w174 : ∀ x, x < 128 → MX5_spell_174 g1 p X (nI b) (nI L.length) (nI (a + d)) X (nI L.length) (nI x) = some (.inl (nI (L.length + 1), nI (a + (d + 1)), sI g1 X L.length (nI x))) := fun x hx => by
        unfold MX5_spell_174
        rw [G1.1, G1.2.1, gg_t hX.1, hX.2, gg_in (by omega) (by omega), nCl (by omega), bB x hx, lt_eq]
        simp only [ZL]
        rw [nAdd, nAdd]
        rfl
      have w152 : ∀ v6 : Int32, ∀ x, x < 128 → (if v6 = nI 0 then nI 45 else nI 32) = nI x → MX5_spell_152 g1 p X (nI b) (nI L.length) (nI (a + d)) v6 = some (.inl (nI (L.length + 1), nI (a + (d + 1)), sI g1 X L.length (nI x))) := fun v6 x hx hv => by
        unfold MX5_spell_152
        rw [G1.1, G1.2.1, gg_t hX.1, hX.2, if_neg (nI_ge (by omega) (by omega))]
        simp only [ZL]
        by_cases z : v6 = nI 0
        · rw [if_pos z] at hv ⊢
          rw [hv]
          exact w174 x hx
        · rw [if_neg z] at hv ⊢
          rw [hv]
          exact w174 x hx
      by_cases zl : a + d = b
      · -- the last piece
        have eT1 : T (d + 1) = wtX m q a b := by rw [hT, if_neg (by omega)]
        have eL : L = txR m q a (b + 1 - a) := by rw [hL]; exact congrArg (txR m q a) (by omega)
        have e96 : MX5_spell_96 g1 p X (nI b) (nI L.length) (nI (a + d)) = MX5_spell_117 g1 p X (nI b) (nI L.length) (nI (a + d)) (nI 0) := by
          unfold MX5_spell_96 MX5_spell_116
          rw [if_pos (nI_le (by omega) (by omega))]
          simp only [ZL]
        have e117 : MX5_spell_117 g1 p X (nI b) (nI L.length) (nI (a + d)) (nI 0) = if gI h (gP h p 2) (a + d) = nI 0 then MX5_spell_140 g1 p X (nI b) (nI L.length) (nI (a + d)) (nI 0) (nI 1) else MX5_spell_139 g1 p X (nI b) (nI L.length) (nI (a + d)) (nI 0) := by
          unfold MX5_spell_117
          rw [if_pos (by rw [zl]), G1.1, G1.2.1, G1.2.2.1, gg_t s0, gg_t s2k, s2l, gg_in (by omega) (by omega), nCl (by omega), k2]
          simp only [ZL]
        rw [e96, e117]
        by_cases z : weN m q (b + 1) = weN m q b
        · have eW : wtX m q a b = L ++ [45] := by
            unfold wtX
            rw [← eL, show hyL m q b = [45] from if_pos z]
          rw [c2 (pd.mp (by rw [zl]; exact z)), if_pos rfl]
          refine ⟨(nI (L.length + 1), nI (a + (d + 1)), sI g1 X L.length (nI 45)), ?_, ?_⟩
          · unfold MX5_spell_140
            simp only [ZL, if_true]
            rw [if_neg (by rw [n10]; exact id)]
            exact w152 (nI 0) 45 (by omega) (if_pos rfl)
          · rw [eT1, eW]
            exact ⟨by rw [List.length_append]; rfl, rfl, G1.trans (Fr.sI (S := fun c => c = X) rfl), W1.w⟩
        · have eW : wtX m q a b = L := by
            unfold wtX
            rw [← eL, show hyL m q b = [] from if_neg z, List.append_nil]
          have ew : ewN m q (a + d) := Classical.byContradiction fun w => z (by rw [zl] at pd w; exact pd.mpr w)
          rw [c1 ew, if_neg (by decide)]
          refine ⟨(nI L.length, nI (a + (d + 1)), g1), ?_, ?_⟩
          · unfold MX5_spell_139 MX5_spell_140
            simp only [ZL, if_true]
            rw [nAdd]
            rfl
          · rw [eT1, eW]
            exact ⟨rfl, rfl, G1, W1⟩
      · have eT1 : T (d + 1) = L ++ blL m q a (d + 1) := by rw [hT, if_pos (by omega), hL]
        have e117 : ∀ v, MX5_spell_117 g1 p X (nI b) (nI L.length) (nI (a + d)) v = MX5_spell_139 g1 p X (nI b) (nI L.length) (nI (a + d)) v := fun v => by
          unfold MX5_spell_117
          rw [if_neg (by rw [nEq (by omega) (by omega)]; exact zl)]
        have e96 : MX5_spell_96 g1 p X (nI b) (nI L.length) (nI (a + d)) = if gI h (gP h p 2) (a + d) = nI 0 then MX5_spell_139 g1 p X (nI b) (nI L.length) (nI (a + d)) (nI 0) else MX5_spell_139 g1 p X (nI b) (nI L.length) (nI (a + d)) (nI 1) := by
          unfold MX5_spell_96 MX5_spell_116
          rw [if_neg (nI_ge (by omega) (by omega)), G1.1, G1.2.1, G1.2.2.1, gg_t s0, gg_t s2k, s2l, gg_in (by omega) (by omega), nCl (by omega), k2]
          simp only [ZL]
          rw [e117, e117]
        rw [e96]
        have e1 := (we_sX J (k := a + d) (by omega)).2.2
        have e2 := (we_sX J (k := a + d + 1) (by omega)).2.2
        by_cases z : weN m q (a + d + 1) = weN m q (a + d)
        · have eB : blL m q a (d + 1) = [] := if_neg (fun w => w.2 (by rw [show a + (d + 1) = a + d + 1 by omega, Nat.add_sub_cancel, ← e1, ← e2]; exact z))
          rw [c2 (pd.mp z), if_pos rfl]
          refine ⟨(nI L.length, nI (a + (d + 1)), g1), ?_, ?_⟩
          · unfold MX5_spell_139 MX5_spell_140
            simp only [ZL, if_true]
            rw [nAdd]
            rfl
          · rw [eT1, eB, List.append_nil]
            exact ⟨rfl, rfl, G1, W1⟩
        · have eB : blL m q a (d + 1) = [32] := if_pos ⟨by omega, by rw [show a + (d + 1) = a + d + 1 by omega, Nat.add_sub_cancel, ← e1, ← e2]; exact z⟩
          have ew : ewN m q (a + d) := Classical.byContradiction fun w => z (pd.mpr w)
          rw [c1 ew, if_neg (by decide)]
          refine ⟨(nI (L.length + 1), nI (a + (d + 1)), sI g1 X L.length (nI 32)), ?_, ?_⟩
          · unfold MX5_spell_139 MX5_spell_140
            simp only [ZL]
            rw [if_neg (by rw [n10]; exact id)]
            exact w152 (nI 1) 32 (by omega) (if_neg (by decide))
          · rw [eT1, eB]
            exact ⟨by rw [List.length_append]; rfl, rfl, G1.trans (Fr.sI (S := fun c => c = X) rfl), W1.w⟩
    · obtain ⟨y1, y2, g⟩ := s
      obtain ⟨p1, p2, G, W⟩ := pp
      replace p1 : y1 = nI (T (b + 1 - a)).length := p1
      replace p2 : y2 = nI (a + (b + 1 - a)) := p2
      replace G : Fr (fun c => c = X) h g := G
      replace W : PLs g X (T (b + 1 - a)) := W
      have eT : T (b + 1 - a) = wtX m q a b := by rw [hT, if_neg (by omega)]
      rw [eT] at p1 W
      rw [show a + (b + 1 - a) = b + 1 by omega] at p2
      subst p1 p2
      refine ⟨(nI (wtX m q a b).length, g), ?_, rfl, G, W⟩
      show BX5_spell_36 g p X (nI b) (nI (wtX m q a b).length) (nI (b + 1)) = _
      unfold BX5_spell_36
      rw [if_pos (nI_lt (by omega) (by omega))]
    · show nI 0 = nI (T 0).length
      rw [hT, if_pos (by omega)]
      rfl
    · show PLs h X (T 0)
      rw [hT, if_pos (by omega)]
      exact fun j hj => absurd hj (by simp [txR, blL])
  obtain ⟨⟨y1, g⟩, k1, k2, k3, k4⟩ := K
  replace k2 : y1 = nI (wtX m q a b).length := k2
  exact ⟨g, by rw [k1, k2], k3, k4⟩
end
