/-! THE LAW'S METHODS THAT CATCH: what each does, as a function -/
theorem ca_1 : Cond.castable (exN 1) (exN 1) ∈ lw_tbl := tb4 (List.mem_of_getElem? (i := 149) rfl)
theorem ca_2 : Cond.castable (exN 2) (exN 2) ∈ lw_tbl := tb4 (List.mem_of_getElem? (i := 214) rfl)
theorem ca_3 : Cond.castable (exN 3) (exN 3) ∈ lw_tbl := tb5 (List.mem_of_getElem? (i := 10) rfl)
theorem ca_4 : Cond.castable (exN 4) (exN 4) ∈ lw_tbl := tb6 (List.mem_of_getElem? (i := 1) rfl)
theorem ca_5 : Cond.castable (exN 5) (exN 5) ∈ lw_tbl := tb6 (List.mem_of_getElem? (i := 216) rfl)
theorem nc_2_1 : (exN 2, exN 1) ∈ ncL := List.mem_of_getElem? (i := 0) rfl
theorem nc_3_1 : (exN 3, exN 1) ∈ ncL := List.mem_of_getElem? (i := 1) rfl
theorem nc_4_1 : (exN 4, exN 1) ∈ ncL := List.mem_of_getElem? (i := 2) rfl
theorem nc_5_1 : (exN 5, exN 1) ∈ ncL := List.mem_of_getElem? (i := 3) rfl
theorem nc_3_2 : (exN 3, exN 2) ∈ ncL := List.mem_of_getElem? (i := 4) rfl
theorem nc_4_2 : (exN 4, exN 2) ∈ ncL := List.mem_of_getElem? (i := 5) rfl
theorem nc_5_2 : (exN 5, exN 2) ∈ ncL := List.mem_of_getElem? (i := 6) rfl
theorem nc_3_5 : (exN 3, exN 5) ∈ ncL := List.mem_of_getElem? (i := 7) rfl
def YL_width : Mt := (yL_width, cL_width, 5, some .int)
def hhL_width : List (Nat × Nat × Nat × Nat) := [(0, 7, 10, 13), (0, 7, 14, 15)]
theorem moL_width : MOW YL_width hhL_width 4 := ⟨tb4 (List.mem_of_getElem? (i := 134) rfl), tb1 (List.mem_of_getElem? (i := 0) rfl), by decide +kernel, by decide +kernel, by decide⟩
theorem msL_width : Cond.static yL_width ∈ lw_tbl := tb4 (List.mem_of_getElem? (i := 133) rfl)
noncomputable def ML_width (h : Hp) (v0 : Nat) (v1 : Int32) (v2 : Int32) (v3 : Int32) : Option (Int32 × Hp) :=
  gg (β := (Int32 × Hp)) (kd h v0 = 10) <|
  bC (MX11_width h v0 v1 v2 v3)
    (fun t1 h1 =>
      some ((0 : Int32), h1))
    (fun k h1 =>
      if k = 1 then some ((1 : Int32), h1) else
      if k = 2 then some ((2 : Int32), h1) else
      none)
set_option maxRecDepth 100000 in
set_option maxHeartbeats 8000000 in
theorem eL_width {d : Nat} {h : Hp} {v0 : Nat} {v1 : Int32} {v2 : Int32} {v3 : Int32} {r : Int32} {h9 : Hp} (H : ML_width h v0 v1 v2 v3 = some (r, h9)) : JP (PH hhL_width) (d + 1 + 1) YL_width 0 [.ref v0, .int v1, .int v2, .int v3, Value.null] [] h (oI r) h9 := by
  unfold ML_width at H
  obtain ⟨g1, H⟩ := gd H
  refine J_aload_n 0 dL_width_0 rfl rfl ?_
  refine J_iload_n 1 dL_width_1 rfl rfl ?_
  refine J_iload_n 2 dL_width_2 rfl rfl ?_
  refine J_iload_n 3 dL_width_3 rfl rfl ?_
  rcases bC_el H with ⟨t1, h1, e1, H⟩ | ⟨k, h1, e1, H⟩
  · refine J_cV (as := [.int v1, .int v2, .int v3]) 10 YX11_width 3 dL_width_4 moX11_width mvX11_width mlL_7 g1 rfl rfl (okX11_width (d := d) e1) rfl rfl [] rfl rfl (st2 := []) rfl ?_
    refine J_goto 18 dL_width_7 rfl ?_
    cases H
    refine J_iconst (0 : Int32) dL_width_18 kc_0 ?_
    exact J_iretI dL_width_19 rfl
  · by_cases q1 : k = 1
    · subst q1
      replace H := br1 rfl H
      cases H
      refine J_cVC (as := [.int v1, .int v2, .int v3]) 10 YX11_width 3 dL_width_4 moX11_width mvX11_width mlL_7 g1 rfl rfl (okX11_width (d := d) e1) rfl rfl [] rfl rfl (JX_catch (E := 1) (h := h9) [] ⟨0, 7, 10, 13⟩ [⟨0, 7, 14, 15⟩] 4 2 rfl (List.forall_mem_nil _) (by decide) (by decide) clL_13 ca_1 (Or.inl ⟨dL_width_10, rfl⟩) (by decide) ?_)
      refine J_iconst (1 : Int32) dL_width_12 kc_1 ?_
      exact J_iretI dL_width_13 rfl
    replace H := br0 q1 H
    by_cases q2 : k = 2
    · subst q2
      replace H := br1 rfl H
      cases H
      refine J_cVC (as := [.int v1, .int v2, .int v3]) 10 YX11_width 3 dL_width_4 moX11_width mvX11_width mlL_7 g1 rfl rfl (okX11_width (d := d) e1) rfl rfl [] rfl rfl (JX_catch (E := 2) (h := h9) [⟨0, 7, 10, 13⟩] ⟨0, 7, 14, 15⟩ [] 4 2 rfl (List.forall_mem_cons.mpr ⟨⟨by decide, 1, clL_13, nc_2_1⟩, List.forall_mem_nil _⟩) (by decide) (by decide) clL_15 ca_2 (Or.inl ⟨dL_width_14, rfl⟩) (by decide) ?_)
      refine J_iconst (2 : Int32) dL_width_16 kc_2 ?_
      exact J_iretI dL_width_17 rfl
    replace H := br0 q2 H
    cases H
theorem okL_width {d : Nat} {h : Hp} {v0 : Nat} {v1 : Int32} {v2 : Int32} {v3 : Int32} {r : Int32} {h9 : Hp} (H : ML_width h v0 v1 v2 v3 = some (r, h9)) : CTW (d + 2) YL_width hhL_width [.ref v0, .int v1, .int v2, .int v3] h (oI r) h9 := CTW_of (by decide +kernel) (Nat.le_of_ble_eq_true rfl) (eL_width H)
def YL_story : Mt := (yL_story, cL_story, 5, some .int)
def hhL_story : List (Nat × Nat × Nat × Nat) := [(0, 10, 13, 13), (0, 10, 17, 15), (0, 10, 21, 21)]
theorem moL_story : MOW YL_story hhL_story 4 := ⟨tb4 (List.mem_of_getElem? (i := 229) rfl), tb1 (List.mem_of_getElem? (i := 0) rfl), by decide +kernel, by decide +kernel, by decide⟩
theorem msL_story : Cond.static yL_story ∈ lw_tbl := tb4 (List.mem_of_getElem? (i := 228) rfl)
noncomputable def ML_story (h : Hp) (v0 : Nat) (v1 : Int32) (v2 : Int32) (v3 : Nat) : Option (Int32 × Hp) :=
  gg (β := (Int32 × Hp)) (kd h v0 = 10) <|
  bC (MX11_story h v0 v1 v2)
    (fun t1 h1 =>
      gg (β := (Int32 × Hp)) (kd h1 v3 = 23) <|
      gg (β := (Int32 × Hp)) (inB (0 : Int32) (ln h1 v3) = true) <|
      lt (α := Hp) (β := Option (Int32 × Hp)) (sI h1 v3 (0 : Int32).toNatClampNeg t1) fun (h2 : Hp) =>
      some ((0 : Int32), h2))
    (fun k h1 =>
      if k = 1 then some ((1 : Int32), h1) else
      if k = 2 then some ((2 : Int32), h1) else
      if k = 3 then some ((3 : Int32), h1) else
      none)
set_option maxRecDepth 100000 in
set_option maxHeartbeats 8000000 in
theorem eL_story {d : Nat} {h : Hp} {v0 : Nat} {v1 : Int32} {v2 : Int32} {v3 : Nat} {r : Int32} {h9 : Hp} (H : ML_story h v0 v1 v2 v3 = some (r, h9)) : JP (PH hhL_story) (d + 3 + 1) YL_story 0 [.ref v0, .int v1, .int v2, .ref v3, Value.null] [] h (oI r) h9 := by
  unfold ML_story at H
  obtain ⟨g1, H⟩ := gd H
  refine J_aload_n 3 dL_story_0 rfl rfl ?_
  refine J_iconst (0 : Int32) dL_story_1 kc_0 ?_
  refine J_aload_n 0 dL_story_2 rfl rfl ?_
  refine J_iload_n 1 dL_story_3 rfl rfl ?_
  refine J_iload_n 2 dL_story_4 rfl rfl ?_
  rcases bC_el H with ⟨t1, h1, e1, H⟩ | ⟨k, h1, e1, H⟩
  · refine J_cV (as := [.int v1, .int v2]) 10 YX11_story 2 dL_story_5 moX11_story mvX11_story mlL_17 g1 rfl rfl (okX11_story (d := d) e1) rfl rfl [.int (0 : Int32), .ref v3] rfl rfl (st2 := [.int t1, .int (0 : Int32), .ref v3]) rfl ?_
    obtain ⟨g2, H⟩ := gd H
    obtain ⟨g3, H⟩ := gd H
    refine J_i2l dL_story_8 ?_
    obtain ⟨h2, e2, H⟩ := lt_el H
    refine J_lS2 dL_story_9 g2 (inB_ok g3) e2 ?_
    refine J_goto 25 dL_story_10 rfl ?_
    cases H
    refine J_iconst (0 : Int32) dL_story_25 kc_0 ?_
    exact J_iretI dL_story_26 rfl
  · by_cases q1 : k = 1
    · subst q1
      replace H := br1 rfl H
      cases H
      refine J_cVC (as := [.int v1, .int v2]) 10 YX11_story 2 dL_story_5 moX11_story mvX11_story mlL_17 g1 rfl rfl (okX11_story (d := d) e1) rfl rfl [.int (0 : Int32), .ref v3] rfl rfl (JX_catch (E := 1) (h := h9) [] ⟨0, 10, 13, 13⟩ [⟨0, 10, 17, 15⟩, ⟨0, 10, 21, 21⟩] 4 2 rfl (List.forall_mem_nil _) (by decide) (by decide) clL_13 ca_1 (Or.inl ⟨dL_story_13, rfl⟩) (by decide) ?_)
      refine J_iconst (1 : Int32) dL_story_15 kc_1 ?_
      exact J_iretI dL_story_16 rfl
    replace H := br0 q1 H
    by_cases q2 : k = 2
    · subst q2
      replace H := br1 rfl H
      cases H
      refine J_cVC (as := [.int v1, .int v2]) 10 YX11_story 2 dL_story_5 moX11_story mvX11_story mlL_17 g1 rfl rfl (okX11_story (d := d) e1) rfl rfl [.int (0 : Int32), .ref v3] rfl rfl (JX_catch (E := 2) (h := h9) [⟨0, 10, 13, 13⟩] ⟨0, 10, 17, 15⟩ [⟨0, 10, 21, 21⟩] 4 2 rfl (List.forall_mem_cons.mpr ⟨⟨by decide, 1, clL_13, nc_2_1⟩, List.forall_mem_nil _⟩) (by decide) (by decide) clL_15 ca_2 (Or.inl ⟨dL_story_17, rfl⟩) (by decide) ?_)
      refine J_iconst (2 : Int32) dL_story_19 kc_2 ?_
      exact J_iretI dL_story_20 rfl
    replace H := br0 q2 H
    by_cases q3 : k = 3
    · subst q3
      replace H := br1 rfl H
      cases H
      refine J_cVC (as := [.int v1, .int v2]) 10 YX11_story 2 dL_story_5 moX11_story mvX11_story mlL_17 g1 rfl rfl (okX11_story (d := d) e1) rfl rfl [.int (0 : Int32), .ref v3] rfl rfl (JX_catch (E := 3) (h := h9) [⟨0, 10, 13, 13⟩, ⟨0, 10, 17, 15⟩] ⟨0, 10, 21, 21⟩ [] 4 2 rfl (List.forall_mem_cons.mpr ⟨⟨by decide, 1, clL_13, nc_3_1⟩, List.forall_mem_cons.mpr ⟨⟨by decide, 2, clL_15, nc_3_2⟩, List.forall_mem_nil _⟩⟩) (by decide) (by decide) clL_21 ca_3 (Or.inl ⟨dL_story_21, rfl⟩) (by decide) ?_)
      refine J_iconst (3 : Int32) dL_story_23 kc_3 ?_
      exact J_iretI dL_story_24 rfl
    replace H := br0 q3 H
    cases H
theorem okL_story {d : Nat} {h : Hp} {v0 : Nat} {v1 : Int32} {v2 : Int32} {v3 : Nat} {r : Int32} {h9 : Hp} (H : ML_story h v0 v1 v2 v3 = some (r, h9)) : CTW (d + 4) YL_story hhL_story [.ref v0, .int v1, .int v2, .ref v3] h (oI r) h9 := CTW_of (by decide +kernel) (Nat.le_of_ble_eq_true rfl) (eL_story H)
def YL_style : Mt := (yL_style, cL_style, 4, some .int)
def hhL_style : List (Nat × Nat × Nat × Nat) := [(0, 9, 12, 15), (0, 9, 15, 21)]
theorem moL_style : MOW YL_style hhL_style 3 := ⟨tb5 (List.mem_of_getElem? (i := 42) rfl), tb1 (List.mem_of_getElem? (i := 0) rfl), by decide +kernel, by decide +kernel, by decide⟩
theorem msL_style : Cond.static yL_style ∈ lw_tbl := tb5 (List.mem_of_getElem? (i := 41) rfl)
noncomputable def ML_style (h : Hp) (v0 : Nat) (v1 : Int32) (v2 : Nat) : Option (Int32 × Hp) :=
  gg (β := (Int32 × Hp)) (kd h v0 = 10) <|
  bC (MX11_style h v0 v1)
    (fun t1 h1 =>
      gg (β := (Int32 × Hp)) (kd h1 v2 = 23) <|
      gg (β := (Int32 × Hp)) (inB (0 : Int32) (ln h1 v2) = true) <|
      lt (α := Hp) (β := Option (Int32 × Hp)) (sI h1 v2 (0 : Int32).toNatClampNeg t1) fun (h2 : Hp) =>
      some ((0 : Int32), h2))
    (fun k h1 =>
      if k = 2 then some ((1 : Int32), h1) else
      if k = 3 then some ((2 : Int32), h1) else
      none)
set_option maxRecDepth 100000 in
set_option maxHeartbeats 8000000 in
theorem eL_style {d : Nat} {h : Hp} {v0 : Nat} {v1 : Int32} {v2 : Nat} {r : Int32} {h9 : Hp} (H : ML_style h v0 v1 v2 = some (r, h9)) : JP (PH hhL_style) (d + 38 + 1) YL_style 0 [.ref v0, .int v1, .ref v2, Value.null] [] h (oI r) h9 := by
  unfold ML_style at H
  obtain ⟨g1, H⟩ := gd H
  refine J_aload_n 2 dL_style_0 rfl rfl ?_
  refine J_iconst (0 : Int32) dL_style_1 kc_0 ?_
  refine J_aload_n 0 dL_style_2 rfl rfl ?_
  refine J_iload_n 1 dL_style_3 rfl rfl ?_
  rcases bC_el H with ⟨t1, h1, e1, H⟩ | ⟨k, h1, e1, H⟩
  · refine J_cV (as := [.int v1]) 10 YX11_style 1 dL_style_4 moX11_style mvX11_style mlL_23 g1 rfl rfl (okX11_style (d := d) e1) rfl rfl [.int (0 : Int32), .ref v2] rfl rfl (st2 := [.int t1, .int (0 : Int32), .ref v2]) rfl ?_
    obtain ⟨g2, H⟩ := gd H
    obtain ⟨g3, H⟩ := gd H
    refine J_i2l dL_style_7 ?_
    obtain ⟨h2, e2, H⟩ := lt_el H
    refine J_lS2 dL_style_8 g2 (inB_ok g3) e2 ?_
    refine J_goto 18 dL_style_9 rfl ?_
    cases H
    refine J_iconst (0 : Int32) dL_style_18 kc_0 ?_
    exact J_iretI dL_style_19 rfl
  · by_cases q2 : k = 2
    · subst q2
      replace H := br1 rfl H
      cases H
      refine J_cVC (as := [.int v1]) 10 YX11_style 1 dL_style_4 moX11_style mvX11_style mlL_23 g1 rfl rfl (okX11_style (d := d) e1) rfl rfl [.int (0 : Int32), .ref v2] rfl rfl (JX_catch (E := 2) (h := h9) [] ⟨0, 9, 12, 15⟩ [⟨0, 9, 15, 21⟩] 3 1 rfl (List.forall_mem_nil _) (by decide) (by decide) clL_15 ca_2 (Or.inr ⟨_, dL_style_12, rfl, rfl⟩) (by decide) ?_)
      refine J_iconst (1 : Int32) dL_style_13 kc_1 ?_
      exact J_iretI dL_style_14 rfl
    replace H := br0 q2 H
    by_cases q3 : k = 3
    · subst q3
      replace H := br1 rfl H
      cases H
      refine J_cVC (as := [.int v1]) 10 YX11_style 1 dL_style_4 moX11_style mvX11_style mlL_23 g1 rfl rfl (okX11_style (d := d) e1) rfl rfl [.int (0 : Int32), .ref v2] rfl rfl (JX_catch (E := 3) (h := h9) [⟨0, 9, 12, 15⟩] ⟨0, 9, 15, 21⟩ [] 3 1 rfl (List.forall_mem_cons.mpr ⟨⟨by decide, 2, clL_15, nc_3_2⟩, List.forall_mem_nil _⟩) (by decide) (by decide) clL_21 ca_3 (Or.inr ⟨_, dL_style_15, rfl, rfl⟩) (by decide) ?_)
      refine J_iconst (2 : Int32) dL_style_16 kc_2 ?_
      exact J_iretI dL_style_17 rfl
    replace H := br0 q3 H
    cases H
theorem okL_style {d : Nat} {h : Hp} {v0 : Nat} {v1 : Int32} {v2 : Nat} {r : Int32} {h9 : Hp} (H : ML_style h v0 v1 v2 = some (r, h9)) : CTW (d + 39) YL_style hhL_style [.ref v0, .int v1, .ref v2] h (oI r) h9 := CTW_of (by decide +kernel) (Nat.le_of_ble_eq_true rfl) (eL_style H)
def YL_part : Mt := (yL_part, cL_part, 5, some .int)
def hhL_part : List (Nat × Nat × Nat × Nat) := [(0, 10, 13, 13), (0, 10, 17, 30)]
theorem moL_part : MOW YL_part hhL_part 4 := ⟨tb5 (List.mem_of_getElem? (i := 195) rfl), tb1 (List.mem_of_getElem? (i := 0) rfl), by decide +kernel, by decide +kernel, by decide⟩
theorem msL_part : Cond.static yL_part ∈ lw_tbl := tb5 (List.mem_of_getElem? (i := 194) rfl)
noncomputable def ML_part (h : Hp) (v0 : Nat) (v1 : Int32) (v2 : Int32) (v3 : Nat) : Option (Int32 × Hp) :=
  gg (β := (Int32 × Hp)) (kd h v0 = 10) <|
  bC (MX11_part h v0 v1 v2)
    (fun t1 h1 =>
      gg (β := (Int32 × Hp)) (kd h1 v3 = 23) <|
      gg (β := (Int32 × Hp)) (inB (0 : Int32) (ln h1 v3) = true) <|
      lt (α := Hp) (β := Option (Int32 × Hp)) (sI h1 v3 (0 : Int32).toNatClampNeg t1) fun (h2 : Hp) =>
      some ((0 : Int32), h2))
    (fun k h1 =>
      if k = 1 then some ((1 : Int32), h1) else
      if k = 4 then some ((2 : Int32), h1) else
      none)
set_option maxRecDepth 100000 in
set_option maxHeartbeats 8000000 in
theorem eL_part {d : Nat} {h : Hp} {v0 : Nat} {v1 : Int32} {v2 : Int32} {v3 : Nat} {r : Int32} {h9 : Hp} (H : ML_part h v0 v1 v2 v3 = some (r, h9)) : JP (PH hhL_part) (d + 4 + 1) YL_part 0 [.ref v0, .int v1, .int v2, .ref v3, Value.null] [] h (oI r) h9 := by
  unfold ML_part at H
  obtain ⟨g1, H⟩ := gd H
  refine J_aload_n 3 dL_part_0 rfl rfl ?_
  refine J_iconst (0 : Int32) dL_part_1 kc_0 ?_
  refine J_aload_n 0 dL_part_2 rfl rfl ?_
  refine J_iload_n 1 dL_part_3 rfl rfl ?_
  refine J_iload_n 2 dL_part_4 rfl rfl ?_
  rcases bC_el H with ⟨t1, h1, e1, H⟩ | ⟨k, h1, e1, H⟩
  · refine J_cV (as := [.int v1, .int v2]) 10 YX11_part 2 dL_part_5 moX11_part mvX11_part mlL_27 g1 rfl rfl (okX11_part (d := d) e1) rfl rfl [.int (0 : Int32), .ref v3] rfl rfl (st2 := [.int t1, .int (0 : Int32), .ref v3]) rfl ?_
    obtain ⟨g2, H⟩ := gd H
    obtain ⟨g3, H⟩ := gd H
    refine J_i2l dL_part_8 ?_
    obtain ⟨h2, e2, H⟩ := lt_el H
    refine J_lS2 dL_part_9 g2 (inB_ok g3) e2 ?_
    refine J_goto 21 dL_part_10 rfl ?_
    cases H
    refine J_iconst (0 : Int32) dL_part_21 kc_0 ?_
    exact J_iretI dL_part_22 rfl
  · by_cases q1 : k = 1
    · subst q1
      replace H := br1 rfl H
      cases H
      refine J_cVC (as := [.int v1, .int v2]) 10 YX11_part 2 dL_part_5 moX11_part mvX11_part mlL_27 g1 rfl rfl (okX11_part (d := d) e1) rfl rfl [.int (0 : Int32), .ref v3] rfl rfl (JX_catch (E := 1) (h := h9) [] ⟨0, 10, 13, 13⟩ [⟨0, 10, 17, 30⟩] 4 2 rfl (List.forall_mem_nil _) (by decide) (by decide) clL_13 ca_1 (Or.inl ⟨dL_part_13, rfl⟩) (by decide) ?_)
      refine J_iconst (1 : Int32) dL_part_15 kc_1 ?_
      exact J_iretI dL_part_16 rfl
    replace H := br0 q1 H
    by_cases q4 : k = 4
    · subst q4
      replace H := br1 rfl H
      cases H
      refine J_cVC (as := [.int v1, .int v2]) 10 YX11_part 2 dL_part_5 moX11_part mvX11_part mlL_27 g1 rfl rfl (okX11_part (d := d) e1) rfl rfl [.int (0 : Int32), .ref v3] rfl rfl (JX_catch (E := 4) (h := h9) [⟨0, 10, 13, 13⟩] ⟨0, 10, 17, 30⟩ [] 4 2 rfl (List.forall_mem_cons.mpr ⟨⟨by decide, 1, clL_13, nc_4_1⟩, List.forall_mem_nil _⟩) (by decide) (by decide) clL_30 ca_4 (Or.inl ⟨dL_part_17, rfl⟩) (by decide) ?_)
      refine J_iconst (2 : Int32) dL_part_19 kc_2 ?_
      exact J_iretI dL_part_20 rfl
    replace H := br0 q4 H
    cases H
theorem okL_part {d : Nat} {h : Hp} {v0 : Nat} {v1 : Int32} {v2 : Int32} {v3 : Nat} {r : Int32} {h9 : Hp} (H : ML_part h v0 v1 v2 v3 = some (r, h9)) : CTW (d + 5) YL_part hhL_part [.ref v0, .int v1, .int v2, .ref v3] h (oI r) h9 := CTW_of (by decide +kernel) (Nat.le_of_ble_eq_true rfl) (eL_part H)
def YL_rule : Mt := (yL_rule, cL_rule, 6, some .int)
def hhL_rule : List (Nat × Nat × Nat × Nat) := [(0, 12, 15, 13), (0, 12, 19, 15), (0, 12, 23, 30)]
theorem moL_rule : MOW YL_rule hhL_rule 5 := ⟨tb6 (List.mem_of_getElem? (i := 16) rfl), tb1 (List.mem_of_getElem? (i := 0) rfl), by decide +kernel, by decide +kernel, by decide⟩
theorem msL_rule : Cond.static yL_rule ∈ lw_tbl := tb6 (List.mem_of_getElem? (i := 15) rfl)
noncomputable def ML_rule (h : Hp) (v0 : Nat) (v1 : Int32) (v2 : Int32) (v3 : Int32) (v4 : Nat) : Option (Int32 × Hp) :=
  gg (β := (Int32 × Hp)) (kd h v0 = 10) <|
  bC (MX11_rule h v0 v1 v2 v3)
    (fun t1 h1 =>
      gg (β := (Int32 × Hp)) (kd h1 v4 = 23) <|
      gg (β := (Int32 × Hp)) (inB (0 : Int32) (ln h1 v4) = true) <|
      lt (α := Hp) (β := Option (Int32 × Hp)) (sI h1 v4 (0 : Int32).toNatClampNeg t1) fun (h2 : Hp) =>
      some ((0 : Int32), h2))
    (fun k h1 =>
      if k = 1 then some ((1 : Int32), h1) else
      if k = 2 then some ((2 : Int32), h1) else
      if k = 4 then some ((3 : Int32), h1) else
      none)
set_option maxRecDepth 100000 in
set_option maxHeartbeats 8000000 in
theorem eL_rule {d : Nat} {h : Hp} {v0 : Nat} {v1 : Int32} {v2 : Int32} {v3 : Int32} {v4 : Nat} {r : Int32} {h9 : Hp} (H : ML_rule h v0 v1 v2 v3 v4 = some (r, h9)) : JP (PH hhL_rule) (d + 4 + 1) YL_rule 0 [.ref v0, .int v1, .int v2, .int v3, .ref v4, Value.null] [] h (oI r) h9 := by
  unfold ML_rule at H
  obtain ⟨g1, H⟩ := gd H
  refine J_aload dL_rule_0 rfl ?_
  refine J_iconst (0 : Int32) dL_rule_2 kc_0 ?_
  refine J_aload_n 0 dL_rule_3 rfl rfl ?_
  refine J_iload_n 1 dL_rule_4 rfl rfl ?_
  refine J_iload_n 2 dL_rule_5 rfl rfl ?_
  refine J_iload_n 3 dL_rule_6 rfl rfl ?_
  rcases bC_el H with ⟨t1, h1, e1, H⟩ | ⟨k, h1, e1, H⟩
  · refine J_cV (as := [.int v1, .int v2, .int v3]) 10 YX11_rule 3 dL_rule_7 moX11_rule mvX11_rule mlL_32 g1 rfl rfl (okX11_rule (d := d) e1) rfl rfl [.int (0 : Int32), .ref v4] rfl rfl (st2 := [.int t1, .int (0 : Int32), .ref v4]) rfl ?_
    obtain ⟨g2, H⟩ := gd H
    obtain ⟨g3, H⟩ := gd H
    refine J_i2l dL_rule_10 ?_
    obtain ⟨h2, e2, H⟩ := lt_el H
    refine J_lS2 dL_rule_11 g2 (inB_ok g3) e2 ?_
    refine J_goto 27 dL_rule_12 rfl ?_
    cases H
    refine J_iconst (0 : Int32) dL_rule_27 kc_0 ?_
    exact J_iretI dL_rule_28 rfl
  · by_cases q1 : k = 1
    · subst q1
      replace H := br1 rfl H
      cases H
      refine J_cVC (as := [.int v1, .int v2, .int v3]) 10 YX11_rule 3 dL_rule_7 moX11_rule mvX11_rule mlL_32 g1 rfl rfl (okX11_rule (d := d) e1) rfl rfl [.int (0 : Int32), .ref v4] rfl rfl (JX_catch (E := 1) (h := h9) [] ⟨0, 12, 15, 13⟩ [⟨0, 12, 19, 15⟩, ⟨0, 12, 23, 30⟩] 5 2 rfl (List.forall_mem_nil _) (by decide) (by decide) clL_13 ca_1 (Or.inl ⟨dL_rule_15, rfl⟩) (by decide) ?_)
      refine J_iconst (1 : Int32) dL_rule_17 kc_1 ?_
      exact J_iretI dL_rule_18 rfl
    replace H := br0 q1 H
    by_cases q2 : k = 2
    · subst q2
      replace H := br1 rfl H
      cases H
      refine J_cVC (as := [.int v1, .int v2, .int v3]) 10 YX11_rule 3 dL_rule_7 moX11_rule mvX11_rule mlL_32 g1 rfl rfl (okX11_rule (d := d) e1) rfl rfl [.int (0 : Int32), .ref v4] rfl rfl (JX_catch (E := 2) (h := h9) [⟨0, 12, 15, 13⟩] ⟨0, 12, 19, 15⟩ [⟨0, 12, 23, 30⟩] 5 2 rfl (List.forall_mem_cons.mpr ⟨⟨by decide, 1, clL_13, nc_2_1⟩, List.forall_mem_nil _⟩) (by decide) (by decide) clL_15 ca_2 (Or.inl ⟨dL_rule_19, rfl⟩) (by decide) ?_)
      refine J_iconst (2 : Int32) dL_rule_21 kc_2 ?_
      exact J_iretI dL_rule_22 rfl
    replace H := br0 q2 H
    by_cases q4 : k = 4
    · subst q4
      replace H := br1 rfl H
      cases H
      refine J_cVC (as := [.int v1, .int v2, .int v3]) 10 YX11_rule 3 dL_rule_7 moX11_rule mvX11_rule mlL_32 g1 rfl rfl (okX11_rule (d := d) e1) rfl rfl [.int (0 : Int32), .ref v4] rfl rfl (JX_catch (E := 4) (h := h9) [⟨0, 12, 15, 13⟩, ⟨0, 12, 19, 15⟩] ⟨0, 12, 23, 30⟩ [] 5 2 rfl (List.forall_mem_cons.mpr ⟨⟨by decide, 1, clL_13, nc_4_1⟩, List.forall_mem_cons.mpr ⟨⟨by decide, 2, clL_15, nc_4_2⟩, List.forall_mem_nil _⟩⟩) (by decide) (by decide) clL_30 ca_4 (Or.inl ⟨dL_rule_23, rfl⟩) (by decide) ?_)
      refine J_iconst (3 : Int32) dL_rule_25 kc_3 ?_
      exact J_iretI dL_rule_26 rfl
    replace H := br0 q4 H
    cases H
theorem okL_rule {d : Nat} {h : Hp} {v0 : Nat} {v1 : Int32} {v2 : Int32} {v3 : Int32} {v4 : Nat} {r : Int32} {h9 : Hp} (H : ML_rule h v0 v1 v2 v3 v4 = some (r, h9)) : CTW (d + 5) YL_rule hhL_rule [.ref v0, .int v1, .int v2, .int v3, .ref v4] h (oI r) h9 := CTW_of (by decide +kernel) (Nat.le_of_ble_eq_true rfl) (eL_rule H)
def YL_best : Mt := (yL_best, cL_best, 5, some .int)
def hhL_best : List (Nat × Nat × Nat × Nat) := [(0, 10, 13, 13), (0, 10, 17, 30)]
theorem moL_best : MOW YL_best hhL_best 4 := ⟨tb6 (List.mem_of_getElem? (i := 24) rfl), tb1 (List.mem_of_getElem? (i := 0) rfl), by decide +kernel, by decide +kernel, by decide⟩
theorem msL_best : Cond.static yL_best ∈ lw_tbl := tb6 (List.mem_of_getElem? (i := 23) rfl)
noncomputable def ML_best (h : Hp) (v0 : Nat) (v1 : Int32) (v2 : Int32) (v3 : Nat) : Option (Int32 × Hp) :=
  gg (β := (Int32 × Hp)) (kd h v0 = 10) <|
  bC (MX11_best h v0 v1 v2)
    (fun t1 h1 =>
      gg (β := (Int32 × Hp)) (kd h1 v3 = 23) <|
      gg (β := (Int32 × Hp)) (inB (0 : Int32) (ln h1 v3) = true) <|
      lt (α := Hp) (β := Option (Int32 × Hp)) (sI h1 v3 (0 : Int32).toNatClampNeg t1) fun (h2 : Hp) =>
      some ((0 : Int32), h2))
    (fun k h1 =>
      if k = 1 then some ((1 : Int32), h1) else
      if k = 4 then some ((2 : Int32), h1) else
      none)
set_option maxRecDepth 100000 in
set_option maxHeartbeats 8000000 in
theorem eL_best {d : Nat} {h : Hp} {v0 : Nat} {v1 : Int32} {v2 : Int32} {v3 : Nat} {r : Int32} {h9 : Hp} (H : ML_best h v0 v1 v2 v3 = some (r, h9)) : JP (PH hhL_best) (d + 4 + 1) YL_best 0 [.ref v0, .int v1, .int v2, .ref v3, Value.null] [] h (oI r) h9 := by
  unfold ML_best at H
  obtain ⟨g1, H⟩ := gd H
  refine J_aload_n 3 dL_best_0 rfl rfl ?_
  refine J_iconst (0 : Int32) dL_best_1 kc_0 ?_
  refine J_aload_n 0 dL_best_2 rfl rfl ?_
  refine J_iload_n 1 dL_best_3 rfl rfl ?_
  refine J_iload_n 2 dL_best_4 rfl rfl ?_
  rcases bC_el H with ⟨t1, h1, e1, H⟩ | ⟨k, h1, e1, H⟩
  · refine J_cV (as := [.int v1, .int v2]) 10 YX11_best 2 dL_best_5 moX11_best mvX11_best mlL_36 g1 rfl rfl (okX11_best (d := d) e1) rfl rfl [.int (0 : Int32), .ref v3] rfl rfl (st2 := [.int t1, .int (0 : Int32), .ref v3]) rfl ?_
    obtain ⟨g2, H⟩ := gd H
    obtain ⟨g3, H⟩ := gd H
    refine J_i2l dL_best_8 ?_
    obtain ⟨h2, e2, H⟩ := lt_el H
    refine J_lS2 dL_best_9 g2 (inB_ok g3) e2 ?_
    refine J_goto 21 dL_best_10 rfl ?_
    cases H
    refine J_iconst (0 : Int32) dL_best_21 kc_0 ?_
    exact J_iretI dL_best_22 rfl
  · by_cases q1 : k = 1
    · subst q1
      replace H := br1 rfl H
      cases H
      refine J_cVC (as := [.int v1, .int v2]) 10 YX11_best 2 dL_best_5 moX11_best mvX11_best mlL_36 g1 rfl rfl (okX11_best (d := d) e1) rfl rfl [.int (0 : Int32), .ref v3] rfl rfl (JX_catch (E := 1) (h := h9) [] ⟨0, 10, 13, 13⟩ [⟨0, 10, 17, 30⟩] 4 2 rfl (List.forall_mem_nil _) (by decide) (by decide) clL_13 ca_1 (Or.inl ⟨dL_best_13, rfl⟩) (by decide) ?_)
      refine J_iconst (1 : Int32) dL_best_15 kc_1 ?_
      exact J_iretI dL_best_16 rfl
    replace H := br0 q1 H
    by_cases q4 : k = 4
    · subst q4
      replace H := br1 rfl H
      cases H
      refine J_cVC (as := [.int v1, .int v2]) 10 YX11_best 2 dL_best_5 moX11_best mvX11_best mlL_36 g1 rfl rfl (okX11_best (d := d) e1) rfl rfl [.int (0 : Int32), .ref v3] rfl rfl (JX_catch (E := 4) (h := h9) [⟨0, 10, 13, 13⟩] ⟨0, 10, 17, 30⟩ [] 4 2 rfl (List.forall_mem_cons.mpr ⟨⟨by decide, 1, clL_13, nc_4_1⟩, List.forall_mem_nil _⟩) (by decide) (by decide) clL_30 ca_4 (Or.inl ⟨dL_best_17, rfl⟩) (by decide) ?_)
      refine J_iconst (2 : Int32) dL_best_19 kc_2 ?_
      exact J_iretI dL_best_20 rfl
    replace H := br0 q4 H
    cases H
theorem okL_best {d : Nat} {h : Hp} {v0 : Nat} {v1 : Int32} {v2 : Int32} {v3 : Nat} {r : Int32} {h9 : Hp} (H : ML_best h v0 v1 v2 v3 = some (r, h9)) : CTW (d + 5) YL_best hhL_best [.ref v0, .int v1, .int v2, .ref v3] h (oI r) h9 := CTW_of (by decide +kernel) (Nat.le_of_ble_eq_true rfl) (eL_best H)
def YL_ends : Mt := (yL_ends, cL_ends, 5, some .int)
def hhL_ends : List (Nat × Nat × Nat × Nat) := [(0, 10, 13, 13)]
theorem moL_ends : MOW YL_ends hhL_ends 4 := ⟨tb6 (List.mem_of_getElem? (i := 41) rfl), tb1 (List.mem_of_getElem? (i := 0) rfl), by decide +kernel, by decide +kernel, by decide⟩
theorem msL_ends : Cond.static yL_ends ∈ lw_tbl := tb6 (List.mem_of_getElem? (i := 40) rfl)
noncomputable def ML_ends (h : Hp) (v0 : Nat) (v1 : Int32) (v2 : Int32) (v3 : Nat) : Option (Int32 × Hp) :=
  gg (β := (Int32 × Hp)) (kd h v0 = 10) <|
  bC (MX11_ends h v0 v1 v2)
    (fun t1 h1 =>
      gg (β := (Int32 × Hp)) (kd h1 v3 = 23) <|
      gg (β := (Int32 × Hp)) (inB (0 : Int32) (ln h1 v3) = true) <|
      lt (α := Hp) (β := Option (Int32 × Hp)) (sI h1 v3 (0 : Int32).toNatClampNeg t1) fun (h2 : Hp) =>
      some ((0 : Int32), h2))
    (fun k h1 =>
      if k = 1 then some ((1 : Int32), h1) else
      none)
set_option maxRecDepth 100000 in
set_option maxHeartbeats 8000000 in
theorem eL_ends {d : Nat} {h : Hp} {v0 : Nat} {v1 : Int32} {v2 : Int32} {v3 : Nat} {r : Int32} {h9 : Hp} (H : ML_ends h v0 v1 v2 v3 = some (r, h9)) : JP (PH hhL_ends) (d + 4 + 1) YL_ends 0 [.ref v0, .int v1, .int v2, .ref v3, Value.null] [] h (oI r) h9 := by
  unfold ML_ends at H
  obtain ⟨g1, H⟩ := gd H
  refine J_aload_n 3 dL_ends_0 rfl rfl ?_
  refine J_iconst (0 : Int32) dL_ends_1 kc_0 ?_
  refine J_aload_n 0 dL_ends_2 rfl rfl ?_
  refine J_iload_n 1 dL_ends_3 rfl rfl ?_
  refine J_iload_n 2 dL_ends_4 rfl rfl ?_
  rcases bC_el H with ⟨t1, h1, e1, H⟩ | ⟨k, h1, e1, H⟩
  · refine J_cV (as := [.int v1, .int v2]) 10 YX11_ends 2 dL_ends_5 moX11_ends mvX11_ends mlL_39 g1 rfl rfl (okX11_ends (d := d) e1) rfl rfl [.int (0 : Int32), .ref v3] rfl rfl (st2 := [.int t1, .int (0 : Int32), .ref v3]) rfl ?_
    obtain ⟨g2, H⟩ := gd H
    obtain ⟨g3, H⟩ := gd H
    refine J_i2l dL_ends_8 ?_
    obtain ⟨h2, e2, H⟩ := lt_el H
    refine J_lS2 dL_ends_9 g2 (inB_ok g3) e2 ?_
    refine J_goto 17 dL_ends_10 rfl ?_
    cases H
    refine J_iconst (0 : Int32) dL_ends_17 kc_0 ?_
    exact J_iretI dL_ends_18 rfl
  · by_cases q1 : k = 1
    · subst q1
      replace H := br1 rfl H
      cases H
      refine J_cVC (as := [.int v1, .int v2]) 10 YX11_ends 2 dL_ends_5 moX11_ends mvX11_ends mlL_39 g1 rfl rfl (okX11_ends (d := d) e1) rfl rfl [.int (0 : Int32), .ref v3] rfl rfl (JX_catch (E := 1) (h := h9) [] ⟨0, 10, 13, 13⟩ [] 4 2 rfl (List.forall_mem_nil _) (by decide) (by decide) clL_13 ca_1 (Or.inl ⟨dL_ends_13, rfl⟩) (by decide) ?_)
      refine J_iconst (1 : Int32) dL_ends_15 kc_1 ?_
      exact J_iretI dL_ends_16 rfl
    replace H := br0 q1 H
    cases H
theorem okL_ends {d : Nat} {h : Hp} {v0 : Nat} {v1 : Int32} {v2 : Int32} {v3 : Nat} {r : Int32} {h9 : Hp} (H : ML_ends h v0 v1 v2 v3 = some (r, h9)) : CTW (d + 5) YL_ends hhL_ends [.ref v0, .int v1, .int v2, .ref v3] h (oI r) h9 := CTW_of (by decide +kernel) (Nat.le_of_ble_eq_true rfl) (eL_ends H)
def YL_hand : Mt := (yL_hand, cL_hand, 5, some .int)
def hhL_hand : List (Nat × Nat × Nat × Nat) := [(0, 10, 13, 13)]
theorem moL_hand : MOW YL_hand hhL_hand 4 := ⟨tb6 (List.mem_of_getElem? (i := 53) rfl), tb1 (List.mem_of_getElem? (i := 0) rfl), by decide +kernel, by decide +kernel, by decide⟩
theorem msL_hand : Cond.static yL_hand ∈ lw_tbl := tb6 (List.mem_of_getElem? (i := 52) rfl)
noncomputable def ML_hand (h : Hp) (v0 : Nat) (v1 : Int32) (v2 : Int32) (v3 : Nat) : Option (Int32 × Hp) :=
  gg (β := (Int32 × Hp)) (kd h v0 = 10) <|
  bC (MX11_hand h v0 v1 v2)
    (fun t1 h1 =>
      gg (β := (Int32 × Hp)) (kd h1 v3 = 23) <|
      gg (β := (Int32 × Hp)) (inB (0 : Int32) (ln h1 v3) = true) <|
      lt (α := Hp) (β := Option (Int32 × Hp)) (sI h1 v3 (0 : Int32).toNatClampNeg t1) fun (h2 : Hp) =>
      some ((0 : Int32), h2))
    (fun k h1 =>
      if k = 1 then some ((1 : Int32), h1) else
      none)
set_option maxRecDepth 100000 in
set_option maxHeartbeats 8000000 in
theorem eL_hand {d : Nat} {h : Hp} {v0 : Nat} {v1 : Int32} {v2 : Int32} {v3 : Nat} {r : Int32} {h9 : Hp} (H : ML_hand h v0 v1 v2 v3 = some (r, h9)) : JP (PH hhL_hand) (d + 4 + 1) YL_hand 0 [.ref v0, .int v1, .int v2, .ref v3, Value.null] [] h (oI r) h9 := by
  unfold ML_hand at H
  obtain ⟨g1, H⟩ := gd H
  refine J_aload_n 3 dL_hand_0 rfl rfl ?_
  refine J_iconst (0 : Int32) dL_hand_1 kc_0 ?_
  refine J_aload_n 0 dL_hand_2 rfl rfl ?_
  refine J_iload_n 1 dL_hand_3 rfl rfl ?_
  refine J_iload_n 2 dL_hand_4 rfl rfl ?_
  rcases bC_el H with ⟨t1, h1, e1, H⟩ | ⟨k, h1, e1, H⟩
  · refine J_cV (as := [.int v1, .int v2]) 10 YX11_hand 2 dL_hand_5 moX11_hand mvX11_hand mlL_42 g1 rfl rfl (okX11_hand (d := d) e1) rfl rfl [.int (0 : Int32), .ref v3] rfl rfl (st2 := [.int t1, .int (0 : Int32), .ref v3]) rfl ?_
    obtain ⟨g2, H⟩ := gd H
    obtain ⟨g3, H⟩ := gd H
    refine J_i2l dL_hand_8 ?_
    obtain ⟨h2, e2, H⟩ := lt_el H
    refine J_lS2 dL_hand_9 g2 (inB_ok g3) e2 ?_
    refine J_goto 17 dL_hand_10 rfl ?_
    cases H
    refine J_iconst (0 : Int32) dL_hand_17 kc_0 ?_
    exact J_iretI dL_hand_18 rfl
  · by_cases q1 : k = 1
    · subst q1
      replace H := br1 rfl H
      cases H
      refine J_cVC (as := [.int v1, .int v2]) 10 YX11_hand 2 dL_hand_5 moX11_hand mvX11_hand mlL_42 g1 rfl rfl (okX11_hand (d := d) e1) rfl rfl [.int (0 : Int32), .ref v3] rfl rfl (JX_catch (E := 1) (h := h9) [] ⟨0, 10, 13, 13⟩ [] 4 2 rfl (List.forall_mem_nil _) (by decide) (by decide) clL_13 ca_1 (Or.inl ⟨dL_hand_13, rfl⟩) (by decide) ?_)
      refine J_iconst (1 : Int32) dL_hand_15 kc_1 ?_
      exact J_iretI dL_hand_16 rfl
    replace H := br0 q1 H
    cases H
theorem okL_hand {d : Nat} {h : Hp} {v0 : Nat} {v1 : Int32} {v2 : Int32} {v3 : Nat} {r : Int32} {h9 : Hp} (H : ML_hand h v0 v1 v2 v3 = some (r, h9)) : CTW (d + 5) YL_hand hhL_hand [.ref v0, .int v1, .int v2, .ref v3] h (oI r) h9 := CTW_of (by decide +kernel) (Nat.le_of_ble_eq_true rfl) (eL_hand H)
def YL_machine : Mt := (yL_machine, cL_machine, 5, some .int)
def hhL_machine : List (Nat × Nat × Nat × Nat) := [(0, 10, 13, 15), (0, 10, 17, 21)]
theorem moL_machine : MOW YL_machine hhL_machine 4 := ⟨tb6 (List.mem_of_getElem? (i := 68) rfl), tb1 (List.mem_of_getElem? (i := 0) rfl), by decide +kernel, by decide +kernel, by decide⟩
theorem msL_machine : Cond.static yL_machine ∈ lw_tbl := tb6 (List.mem_of_getElem? (i := 67) rfl)
noncomputable def ML_machine (h : Hp) (v0 : Nat) (v1 : Int32) (v2 : Int32) (v3 : Nat) : Option (Int32 × Hp) :=
  gg (β := (Int32 × Hp)) (kd h v0 = 10) <|
  bC (MX11_machine h v0 v1 v2)
    (fun t1 h1 =>
      gg (β := (Int32 × Hp)) (kd h1 v3 = 23) <|
      gg (β := (Int32 × Hp)) (inB (0 : Int32) (ln h1 v3) = true) <|
      lt (α := Hp) (β := Option (Int32 × Hp)) (sI h1 v3 (0 : Int32).toNatClampNeg t1) fun (h2 : Hp) =>
      some ((0 : Int32), h2))
    (fun k h1 =>
      if k = 2 then some ((1 : Int32), h1) else
      if k = 3 then some ((2 : Int32), h1) else
      none)
set_option maxRecDepth 100000 in
set_option maxHeartbeats 8000000 in
theorem eL_machine {d : Nat} {h : Hp} {v0 : Nat} {v1 : Int32} {v2 : Int32} {v3 : Nat} {r : Int32} {h9 : Hp} (H : ML_machine h v0 v1 v2 v3 = some (r, h9)) : JP (PH hhL_machine) (d + 3 + 1) YL_machine 0 [.ref v0, .int v1, .int v2, .ref v3, Value.null] [] h (oI r) h9 := by
  unfold ML_machine at H
  obtain ⟨g1, H⟩ := gd H
  refine J_aload_n 3 dL_machine_0 rfl rfl ?_
  refine J_iconst (0 : Int32) dL_machine_1 kc_0 ?_
  refine J_aload_n 0 dL_machine_2 rfl rfl ?_
  refine J_iload_n 1 dL_machine_3 rfl rfl ?_
  refine J_iload_n 2 dL_machine_4 rfl rfl ?_
  rcases bC_el H with ⟨t1, h1, e1, H⟩ | ⟨k, h1, e1, H⟩
  · refine J_cV (as := [.int v1, .int v2]) 10 YX11_machine 2 dL_machine_5 moX11_machine mvX11_machine mlL_46 g1 rfl rfl (okX11_machine (d := d) e1) rfl rfl [.int (0 : Int32), .ref v3] rfl rfl (st2 := [.int t1, .int (0 : Int32), .ref v3]) rfl ?_
    obtain ⟨g2, H⟩ := gd H
    obtain ⟨g3, H⟩ := gd H
    refine J_i2l dL_machine_8 ?_
    obtain ⟨h2, e2, H⟩ := lt_el H
    refine J_lS2 dL_machine_9 g2 (inB_ok g3) e2 ?_
    refine J_goto 21 dL_machine_10 rfl ?_
    cases H
    refine J_iconst (0 : Int32) dL_machine_21 kc_0 ?_
    exact J_iretI dL_machine_22 rfl
  · by_cases q2 : k = 2
    · subst q2
      replace H := br1 rfl H
      cases H
      refine J_cVC (as := [.int v1, .int v2]) 10 YX11_machine 2 dL_machine_5 moX11_machine mvX11_machine mlL_46 g1 rfl rfl (okX11_machine (d := d) e1) rfl rfl [.int (0 : Int32), .ref v3] rfl rfl (JX_catch (E := 2) (h := h9) [] ⟨0, 10, 13, 15⟩ [⟨0, 10, 17, 21⟩] 4 2 rfl (List.forall_mem_nil _) (by decide) (by decide) clL_15 ca_2 (Or.inl ⟨dL_machine_13, rfl⟩) (by decide) ?_)
      refine J_iconst (1 : Int32) dL_machine_15 kc_1 ?_
      exact J_iretI dL_machine_16 rfl
    replace H := br0 q2 H
    by_cases q3 : k = 3
    · subst q3
      replace H := br1 rfl H
      cases H
      refine J_cVC (as := [.int v1, .int v2]) 10 YX11_machine 2 dL_machine_5 moX11_machine mvX11_machine mlL_46 g1 rfl rfl (okX11_machine (d := d) e1) rfl rfl [.int (0 : Int32), .ref v3] rfl rfl (JX_catch (E := 3) (h := h9) [⟨0, 10, 13, 15⟩] ⟨0, 10, 17, 21⟩ [] 4 2 rfl (List.forall_mem_cons.mpr ⟨⟨by decide, 2, clL_15, nc_3_2⟩, List.forall_mem_nil _⟩) (by decide) (by decide) clL_21 ca_3 (Or.inl ⟨dL_machine_17, rfl⟩) (by decide) ?_)
      refine J_iconst (2 : Int32) dL_machine_19 kc_2 ?_
      exact J_iretI dL_machine_20 rfl
    replace H := br0 q3 H
    cases H
theorem okL_machine {d : Nat} {h : Hp} {v0 : Nat} {v1 : Int32} {v2 : Int32} {v3 : Nat} {r : Int32} {h9 : Hp} (H : ML_machine h v0 v1 v2 v3 = some (r, h9)) : CTW (d + 4) YL_machine hhL_machine [.ref v0, .int v1, .int v2, .ref v3] h (oI r) h9 := CTW_of (by decide +kernel) (Nat.le_of_ble_eq_true rfl) (eL_machine H)
def YL_brass : Mt := (yL_brass, cL_brass, 6, some .int)
def hhL_brass : List (Nat × Nat × Nat × Nat) := [(0, 12, 15, 13), (0, 12, 19, 15)]
theorem moL_brass : MOW YL_brass hhL_brass 5 := ⟨tb6 (List.mem_of_getElem? (i := 86) rfl), tb1 (List.mem_of_getElem? (i := 0) rfl), by decide +kernel, by decide +kernel, by decide⟩
theorem msL_brass : Cond.static yL_brass ∈ lw_tbl := tb6 (List.mem_of_getElem? (i := 85) rfl)
noncomputable def ML_brass (h : Hp) (v0 : Nat) (v1 : Int32) (v2 : Int32) (v3 : Int32) (v4 : Nat) : Option (Int32 × Hp) :=
  gg (β := (Int32 × Hp)) (kd h v0 = 10) <|
  bC (MX11_brass h v0 v1 v2 v3)
    (fun t1 h1 =>
      gg (β := (Int32 × Hp)) (kd h1 v4 = 23) <|
      gg (β := (Int32 × Hp)) (inB (0 : Int32) (ln h1 v4) = true) <|
      lt (α := Hp) (β := Option (Int32 × Hp)) (sI h1 v4 (0 : Int32).toNatClampNeg t1) fun (h2 : Hp) =>
      some ((0 : Int32), h2))
    (fun k h1 =>
      if k = 1 then some ((1 : Int32), h1) else
      if k = 2 then some ((2 : Int32), h1) else
      none)
set_option maxRecDepth 100000 in
set_option maxHeartbeats 8000000 in
theorem eL_brass {d : Nat} {h : Hp} {v0 : Nat} {v1 : Int32} {v2 : Int32} {v3 : Int32} {v4 : Nat} {r : Int32} {h9 : Hp} (H : ML_brass h v0 v1 v2 v3 v4 = some (r, h9)) : JP (PH hhL_brass) (d + 3 + 1) YL_brass 0 [.ref v0, .int v1, .int v2, .int v3, .ref v4, Value.null] [] h (oI r) h9 := by
  unfold ML_brass at H
  obtain ⟨g1, H⟩ := gd H
  refine J_aload dL_brass_0 rfl ?_
  refine J_iconst (0 : Int32) dL_brass_2 kc_0 ?_
  refine J_aload_n 0 dL_brass_3 rfl rfl ?_
  refine J_iload_n 1 dL_brass_4 rfl rfl ?_
  refine J_iload_n 2 dL_brass_5 rfl rfl ?_
  refine J_iload_n 3 dL_brass_6 rfl rfl ?_
  rcases bC_el H with ⟨t1, h1, e1, H⟩ | ⟨k, h1, e1, H⟩
  · refine J_cV (as := [.int v1, .int v2, .int v3]) 10 YX11_brass 3 dL_brass_7 moX11_brass mvX11_brass mlL_49 g1 rfl rfl (okX11_brass (d := d) e1) rfl rfl [.int (0 : Int32), .ref v4] rfl rfl (st2 := [.int t1, .int (0 : Int32), .ref v4]) rfl ?_
    obtain ⟨g2, H⟩ := gd H
    obtain ⟨g3, H⟩ := gd H
    refine J_i2l dL_brass_10 ?_
    obtain ⟨h2, e2, H⟩ := lt_el H
    refine J_lS2 dL_brass_11 g2 (inB_ok g3) e2 ?_
    refine J_goto 23 dL_brass_12 rfl ?_
    cases H
    refine J_iconst (0 : Int32) dL_brass_23 kc_0 ?_
    exact J_iretI dL_brass_24 rfl
  · by_cases q1 : k = 1
    · subst q1
      replace H := br1 rfl H
      cases H
      refine J_cVC (as := [.int v1, .int v2, .int v3]) 10 YX11_brass 3 dL_brass_7 moX11_brass mvX11_brass mlL_49 g1 rfl rfl (okX11_brass (d := d) e1) rfl rfl [.int (0 : Int32), .ref v4] rfl rfl (JX_catch (E := 1) (h := h9) [] ⟨0, 12, 15, 13⟩ [⟨0, 12, 19, 15⟩] 5 2 rfl (List.forall_mem_nil _) (by decide) (by decide) clL_13 ca_1 (Or.inl ⟨dL_brass_15, rfl⟩) (by decide) ?_)
      refine J_iconst (1 : Int32) dL_brass_17 kc_1 ?_
      exact J_iretI dL_brass_18 rfl
    replace H := br0 q1 H
    by_cases q2 : k = 2
    · subst q2
      replace H := br1 rfl H
      cases H
      refine J_cVC (as := [.int v1, .int v2, .int v3]) 10 YX11_brass 3 dL_brass_7 moX11_brass mvX11_brass mlL_49 g1 rfl rfl (okX11_brass (d := d) e1) rfl rfl [.int (0 : Int32), .ref v4] rfl rfl (JX_catch (E := 2) (h := h9) [⟨0, 12, 15, 13⟩] ⟨0, 12, 19, 15⟩ [] 5 2 rfl (List.forall_mem_cons.mpr ⟨⟨by decide, 1, clL_13, nc_2_1⟩, List.forall_mem_nil _⟩) (by decide) (by decide) clL_15 ca_2 (Or.inl ⟨dL_brass_19, rfl⟩) (by decide) ?_)
      refine J_iconst (2 : Int32) dL_brass_21 kc_2 ?_
      exact J_iretI dL_brass_22 rfl
    replace H := br0 q2 H
    cases H
theorem okL_brass {d : Nat} {h : Hp} {v0 : Nat} {v1 : Int32} {v2 : Int32} {v3 : Int32} {v4 : Nat} {r : Int32} {h9 : Hp} (H : ML_brass h v0 v1 v2 v3 v4 = some (r, h9)) : CTW (d + 4) YL_brass hhL_brass [.ref v0, .int v1, .int v2, .int v3, .ref v4] h (oI r) h9 := CTW_of (by decide +kernel) (Nat.le_of_ble_eq_true rfl) (eL_brass H)
def YL_broken : Mt := (yL_broken, cL_broken, 5, some .int)
def hhL_broken : List (Nat × Nat × Nat × Nat) := [(0, 17, 20, 13)]
theorem moL_broken : MOW YL_broken hhL_broken 4 := ⟨tb6 (List.mem_of_getElem? (i := 105) rfl), tb1 (List.mem_of_getElem? (i := 0) rfl), by decide +kernel, by decide +kernel, by decide⟩
theorem msL_broken : Cond.static yL_broken ∈ lw_tbl := tb6 (List.mem_of_getElem? (i := 104) rfl)
noncomputable def ML_broken (h : Hp) (v0 : Nat) (v1 : Int32) (v2 : Int32) (v3 : Nat) : Option (Int32 × Hp) :=
  gg (β := (Int32 × Hp)) (kd h v0 = 10) <|
  bC (MX11_broken h v0 v1 v2)
    (fun t1 h1 =>
      gg (β := (Int32 × Hp)) (kd h1 v3 = 23) <|
      gg (β := (Int32 × Hp)) (inB (0 : Int32) (ln h1 v3) = true) <|
      if t1 = 0 then
        lt (α := Hp) (β := Option (Int32 × Hp)) (sI h1 v3 (0 : Int32).toNatClampNeg (0 : Int32)) fun (h2 : Hp) =>
        some ((0 : Int32), h2)
      else
        lt (α := Hp) (β := Option (Int32 × Hp)) (sI h1 v3 (0 : Int32).toNatClampNeg (1 : Int32)) fun (h2 : Hp) =>
        some ((0 : Int32), h2))
    (fun k h1 =>
      if k = 1 then some ((1 : Int32), h1) else
      none)
set_option maxRecDepth 100000 in
set_option maxHeartbeats 8000000 in
theorem eL_broken {d : Nat} {h : Hp} {v0 : Nat} {v1 : Int32} {v2 : Int32} {v3 : Nat} {r : Int32} {h9 : Hp} (H : ML_broken h v0 v1 v2 v3 = some (r, h9)) : JP (PH hhL_broken) (d + 1 + 1) YL_broken 0 [.ref v0, .int v1, .int v2, .ref v3, Value.null] [] h (oI r) h9 := by
  unfold ML_broken at H
  obtain ⟨g1, H⟩ := gd H
  refine J_aload_n 3 dL_broken_0 rfl rfl ?_
  refine J_iconst (0 : Int32) dL_broken_1 kc_0 ?_
  refine J_aload_n 0 dL_broken_2 rfl rfl ?_
  refine J_iload_n 1 dL_broken_3 rfl rfl ?_
  refine J_iload_n 2 dL_broken_4 rfl rfl ?_
  rcases bC_el H with ⟨t1, h1, e1, H⟩ | ⟨k, h1, e1, H⟩
  · refine J_cV (as := [.int v1, .int v2]) 10 YX11_broken 2 dL_broken_5 moX11_broken mvX11_broken mlL_52 g1 rfl rfl (okX11_broken (d := d) e1) rfl rfl [.int (0 : Int32), .ref v3] rfl rfl (st2 := [.int t1, .int (0 : Int32), .ref v3]) rfl ?_
    obtain ⟨g2, H⟩ := gd H
    obtain ⟨g3, H⟩ := gd H
    refine J_if_eq 15 dL_broken_8 rfl (fun q1 => ?_) (fun q1 => ?_)
    · replace H := br1 q1 H
      refine J_lconst' (0 : Int32) dL_broken_15 lc_0 ?_
      obtain ⟨h2, e2, H⟩ := lt_el H
      refine J_lS2 dL_broken_16 g2 (inB_ok g3) e2 ?_
      refine J_goto 24 dL_broken_17 rfl ?_
      cases H
      refine J_iconst (0 : Int32) dL_broken_24 kc_0 ?_
      exact J_iretI dL_broken_25 rfl
    · replace H := br0 q1 H
      refine J_lconst' (1 : Int32) dL_broken_11 lc_1 ?_
      refine J_goto 16 dL_broken_12 rfl ?_
      obtain ⟨h2, e2, H⟩ := lt_el H
      refine J_lS2 dL_broken_16 g2 (inB_ok g3) e2 ?_
      refine J_goto 24 dL_broken_17 rfl ?_
      cases H
      refine J_iconst (0 : Int32) dL_broken_24 kc_0 ?_
      exact J_iretI dL_broken_25 rfl
  · by_cases q1 : k = 1
    · subst q1
      replace H := br1 rfl H
      cases H
      refine J_cVC (as := [.int v1, .int v2]) 10 YX11_broken 2 dL_broken_5 moX11_broken mvX11_broken mlL_52 g1 rfl rfl (okX11_broken (d := d) e1) rfl rfl [.int (0 : Int32), .ref v3] rfl rfl (JX_catch (E := 1) (h := h9) [] ⟨0, 17, 20, 13⟩ [] 4 2 rfl (List.forall_mem_nil _) (by decide) (by decide) clL_13 ca_1 (Or.inl ⟨dL_broken_20, rfl⟩) (by decide) ?_)
      refine J_iconst (1 : Int32) dL_broken_22 kc_1 ?_
      exact J_iretI dL_broken_23 rfl
    replace H := br0 q1 H
    cases H
theorem okL_broken {d : Nat} {h : Hp} {v0 : Nat} {v1 : Int32} {v2 : Int32} {v3 : Nat} {r : Int32} {h9 : Hp} (H : ML_broken h v0 v1 v2 v3 = some (r, h9)) : CTW (d + 2) YL_broken hhL_broken [.ref v0, .int v1, .int v2, .ref v3] h (oI r) h9 := CTW_of (by decide +kernel) (Nat.le_of_ble_eq_true rfl) (eL_broken H)
def YL_give : Mt := (yL_give, cL_give, 5, some .int)
def hhL_give : List (Nat × Nat × Nat × Nat) := [(0, 10, 13, 13), (0, 10, 17, 21)]
theorem moL_give : MOW YL_give hhL_give 4 := ⟨tb6 (List.mem_of_getElem? (i := 112) rfl), tb1 (List.mem_of_getElem? (i := 0) rfl), by decide +kernel, by decide +kernel, by decide⟩
theorem msL_give : Cond.static yL_give ∈ lw_tbl := tb6 (List.mem_of_getElem? (i := 111) rfl)
noncomputable def ML_give (h : Hp) (v0 : Nat) (v1 : Int32) (v2 : Int32) (v3 : Nat) : Option (Int32 × Hp) :=
  gg (β := (Int32 × Hp)) (kd h v0 = 10) <|
  bC (MX11_give h v0 v1 v2)
    (fun t1 h1 =>
      gg (β := (Int32 × Hp)) (kd h1 v3 = 23) <|
      gg (β := (Int32 × Hp)) (inB (0 : Int32) (ln h1 v3) = true) <|
      lt (α := Hp) (β := Option (Int32 × Hp)) (sI h1 v3 (0 : Int32).toNatClampNeg t1) fun (h2 : Hp) =>
      some ((0 : Int32), h2))
    (fun k h1 =>
      if k = 1 then some ((1 : Int32), h1) else
      if k = 3 then some ((2 : Int32), h1) else
      none)
set_option maxRecDepth 100000 in
set_option maxHeartbeats 8000000 in
theorem eL_give {d : Nat} {h : Hp} {v0 : Nat} {v1 : Int32} {v2 : Int32} {v3 : Nat} {r : Int32} {h9 : Hp} (H : ML_give h v0 v1 v2 v3 = some (r, h9)) : JP (PH hhL_give) (d + 1 + 1) YL_give 0 [.ref v0, .int v1, .int v2, .ref v3, Value.null] [] h (oI r) h9 := by
  unfold ML_give at H
  obtain ⟨g1, H⟩ := gd H
  refine J_aload_n 3 dL_give_0 rfl rfl ?_
  refine J_iconst (0 : Int32) dL_give_1 kc_0 ?_
  refine J_aload_n 0 dL_give_2 rfl rfl ?_
  refine J_iload_n 1 dL_give_3 rfl rfl ?_
  refine J_iload_n 2 dL_give_4 rfl rfl ?_
  rcases bC_el H with ⟨t1, h1, e1, H⟩ | ⟨k, h1, e1, H⟩
  · refine J_cV (as := [.int v1, .int v2]) 10 YX11_give 2 dL_give_5 moX11_give mvX11_give mlL_56 g1 rfl rfl (okX11_give (d := d) e1) rfl rfl [.int (0 : Int32), .ref v3] rfl rfl (st2 := [.int t1, .int (0 : Int32), .ref v3]) rfl ?_
    obtain ⟨g2, H⟩ := gd H
    obtain ⟨g3, H⟩ := gd H
    refine J_i2l dL_give_8 ?_
    obtain ⟨h2, e2, H⟩ := lt_el H
    refine J_lS2 dL_give_9 g2 (inB_ok g3) e2 ?_
    refine J_goto 21 dL_give_10 rfl ?_
    cases H
    refine J_iconst (0 : Int32) dL_give_21 kc_0 ?_
    exact J_iretI dL_give_22 rfl
  · by_cases q1 : k = 1
    · subst q1
      replace H := br1 rfl H
      cases H
      refine J_cVC (as := [.int v1, .int v2]) 10 YX11_give 2 dL_give_5 moX11_give mvX11_give mlL_56 g1 rfl rfl (okX11_give (d := d) e1) rfl rfl [.int (0 : Int32), .ref v3] rfl rfl (JX_catch (E := 1) (h := h9) [] ⟨0, 10, 13, 13⟩ [⟨0, 10, 17, 21⟩] 4 2 rfl (List.forall_mem_nil _) (by decide) (by decide) clL_13 ca_1 (Or.inl ⟨dL_give_13, rfl⟩) (by decide) ?_)
      refine J_iconst (1 : Int32) dL_give_15 kc_1 ?_
      exact J_iretI dL_give_16 rfl
    replace H := br0 q1 H
    by_cases q3 : k = 3
    · subst q3
      replace H := br1 rfl H
      cases H
      refine J_cVC (as := [.int v1, .int v2]) 10 YX11_give 2 dL_give_5 moX11_give mvX11_give mlL_56 g1 rfl rfl (okX11_give (d := d) e1) rfl rfl [.int (0 : Int32), .ref v3] rfl rfl (JX_catch (E := 3) (h := h9) [⟨0, 10, 13, 13⟩] ⟨0, 10, 17, 21⟩ [] 4 2 rfl (List.forall_mem_cons.mpr ⟨⟨by decide, 1, clL_13, nc_3_1⟩, List.forall_mem_nil _⟩) (by decide) (by decide) clL_21 ca_3 (Or.inl ⟨dL_give_17, rfl⟩) (by decide) ?_)
      refine J_iconst (2 : Int32) dL_give_19 kc_2 ?_
      exact J_iretI dL_give_20 rfl
    replace H := br0 q3 H
    cases H
theorem okL_give {d : Nat} {h : Hp} {v0 : Nat} {v1 : Int32} {v2 : Int32} {v3 : Nat} {r : Int32} {h9 : Hp} (H : ML_give h v0 v1 v2 v3 = some (r, h9)) : CTW (d + 2) YL_give hhL_give [.ref v0, .int v1, .int v2, .ref v3] h (oI r) h9 := CTW_of (by decide +kernel) (Nat.le_of_ble_eq_true rfl) (eL_give H)
def YL_minutes : Mt := (yL_minutes, cL_minutes, 4, some .int)
def hhL_minutes : List (Nat × Nat × Nat × Nat) := [(0, 9, 12, 15)]
theorem moL_minutes : MOW YL_minutes hhL_minutes 3 := ⟨tb6 (List.mem_of_getElem? (i := 123) rfl), tb1 (List.mem_of_getElem? (i := 0) rfl), by decide +kernel, by decide +kernel, by decide⟩
theorem msL_minutes : Cond.static yL_minutes ∈ lw_tbl := tb6 (List.mem_of_getElem? (i := 122) rfl)
noncomputable def ML_minutes (h : Hp) (v0 : Nat) (v1 : Int32) (v2 : Nat) : Option (Int32 × Hp) :=
  gg (β := (Int32 × Hp)) (kd h v0 = 10) <|
  bC (MX11_minutes h v0 v1)
    (fun t1 h1 =>
      gg (β := (Int32 × Hp)) (kd h1 v2 = 23) <|
      gg (β := (Int32 × Hp)) (inB (0 : Int32) (ln h1 v2) = true) <|
      lt (α := Hp) (β := Option (Int32 × Hp)) (sI h1 v2 (0 : Int32).toNatClampNeg t1) fun (h2 : Hp) =>
      some ((0 : Int32), h2))
    (fun k h1 =>
      if k = 2 then some ((1 : Int32), h1) else
      none)
set_option maxRecDepth 100000 in
set_option maxHeartbeats 8000000 in
theorem eL_minutes {d : Nat} {h : Hp} {v0 : Nat} {v1 : Int32} {v2 : Nat} {r : Int32} {h9 : Hp} (H : ML_minutes h v0 v1 v2 = some (r, h9)) : JP (PH hhL_minutes) (d + 7 + 1) YL_minutes 0 [.ref v0, .int v1, .ref v2, Value.null] [] h (oI r) h9 := by
  unfold ML_minutes at H
  obtain ⟨g1, H⟩ := gd H
  refine J_aload_n 2 dL_minutes_0 rfl rfl ?_
  refine J_iconst (0 : Int32) dL_minutes_1 kc_0 ?_
  refine J_aload_n 0 dL_minutes_2 rfl rfl ?_
  refine J_iload_n 1 dL_minutes_3 rfl rfl ?_
  rcases bC_el H with ⟨t1, h1, e1, H⟩ | ⟨k, h1, e1, H⟩
  · refine J_cV (as := [.int v1]) 10 YX11_minutes 1 dL_minutes_4 moX11_minutes mvX11_minutes mlL_59 g1 rfl rfl (okX11_minutes (d := d) e1) rfl rfl [.int (0 : Int32), .ref v2] rfl rfl (st2 := [.int t1, .int (0 : Int32), .ref v2]) rfl ?_
    obtain ⟨g2, H⟩ := gd H
    obtain ⟨g3, H⟩ := gd H
    refine J_i2l dL_minutes_7 ?_
    obtain ⟨h2, e2, H⟩ := lt_el H
    refine J_lS2 dL_minutes_8 g2 (inB_ok g3) e2 ?_
    refine J_goto 15 dL_minutes_9 rfl ?_
    cases H
    refine J_iconst (0 : Int32) dL_minutes_15 kc_0 ?_
    exact J_iretI dL_minutes_16 rfl
  · by_cases q2 : k = 2
    · subst q2
      replace H := br1 rfl H
      cases H
      refine J_cVC (as := [.int v1]) 10 YX11_minutes 1 dL_minutes_4 moX11_minutes mvX11_minutes mlL_59 g1 rfl rfl (okX11_minutes (d := d) e1) rfl rfl [.int (0 : Int32), .ref v2] rfl rfl (JX_catch (E := 2) (h := h9) [] ⟨0, 9, 12, 15⟩ [] 3 1 rfl (List.forall_mem_nil _) (by decide) (by decide) clL_15 ca_2 (Or.inr ⟨_, dL_minutes_12, rfl, rfl⟩) (by decide) ?_)
      refine J_iconst (1 : Int32) dL_minutes_13 kc_1 ?_
      exact J_iretI dL_minutes_14 rfl
    replace H := br0 q2 H
    cases H
theorem okL_minutes {d : Nat} {h : Hp} {v0 : Nat} {v1 : Int32} {v2 : Nat} {r : Int32} {h9 : Hp} (H : ML_minutes h v0 v1 v2 = some (r, h9)) : CTW (d + 8) YL_minutes hhL_minutes [.ref v0, .int v1, .ref v2] h (oI r) h9 := CTW_of (by decide +kernel) (Nat.le_of_ble_eq_true rfl) (eL_minutes H)
def YL_runs : Mt := (yL_runs, cL_runs, 5, some .int)
def hhL_runs : List (Nat × Nat × Nat × Nat) := [(0, 10, 13, 13), (0, 10, 17, 30)]
theorem moL_runs : MOW YL_runs hhL_runs 4 := ⟨tb6 (List.mem_of_getElem? (i := 186) rfl), tb1 (List.mem_of_getElem? (i := 0) rfl), by decide +kernel, by decide +kernel, by decide⟩
theorem msL_runs : Cond.static yL_runs ∈ lw_tbl := tb6 (List.mem_of_getElem? (i := 185) rfl)
noncomputable def ML_runs (h : Hp) (v0 : Nat) (v1 : Int32) (v2 : Int32) (v3 : Nat) : Option (Int32 × Hp) :=
  gg (β := (Int32 × Hp)) (kd h v0 = 10) <|
  bC (MX11_runs h v0 v1 v2)
    (fun t1 h1 =>
      gg (β := (Int32 × Hp)) (kd h1 v3 = 23) <|
      gg (β := (Int32 × Hp)) (inB (0 : Int32) (ln h1 v3) = true) <|
      lt (α := Hp) (β := Option (Int32 × Hp)) (sI h1 v3 (0 : Int32).toNatClampNeg t1) fun (h2 : Hp) =>
      some ((0 : Int32), h2))
    (fun k h1 =>
      if k = 1 then some ((1 : Int32), h1) else
      if k = 4 then some ((2 : Int32), h1) else
      none)
set_option maxRecDepth 100000 in
set_option maxHeartbeats 8000000 in
theorem eL_runs {d : Nat} {h : Hp} {v0 : Nat} {v1 : Int32} {v2 : Int32} {v3 : Nat} {r : Int32} {h9 : Hp} (H : ML_runs h v0 v1 v2 v3 = some (r, h9)) : JP (PH hhL_runs) (d + 1 + 1) YL_runs 0 [.ref v0, .int v1, .int v2, .ref v3, Value.null] [] h (oI r) h9 := by
  unfold ML_runs at H
  obtain ⟨g1, H⟩ := gd H
  refine J_aload_n 3 dL_runs_0 rfl rfl ?_
  refine J_iconst (0 : Int32) dL_runs_1 kc_0 ?_
  refine J_aload_n 0 dL_runs_2 rfl rfl ?_
  refine J_iload_n 1 dL_runs_3 rfl rfl ?_
  refine J_iload_n 2 dL_runs_4 rfl rfl ?_
  rcases bC_el H with ⟨t1, h1, e1, H⟩ | ⟨k, h1, e1, H⟩
  · refine J_cV (as := [.int v1, .int v2]) 10 YX11_runs 2 dL_runs_5 moX11_runs mvX11_runs mlL_62 g1 rfl rfl (okX11_runs (d := d) e1) rfl rfl [.int (0 : Int32), .ref v3] rfl rfl (st2 := [.int t1, .int (0 : Int32), .ref v3]) rfl ?_
    obtain ⟨g2, H⟩ := gd H
    obtain ⟨g3, H⟩ := gd H
    refine J_i2l dL_runs_8 ?_
    obtain ⟨h2, e2, H⟩ := lt_el H
    refine J_lS2 dL_runs_9 g2 (inB_ok g3) e2 ?_
    refine J_goto 21 dL_runs_10 rfl ?_
    cases H
    refine J_iconst (0 : Int32) dL_runs_21 kc_0 ?_
    exact J_iretI dL_runs_22 rfl
  · by_cases q1 : k = 1
    · subst q1
      replace H := br1 rfl H
      cases H
      refine J_cVC (as := [.int v1, .int v2]) 10 YX11_runs 2 dL_runs_5 moX11_runs mvX11_runs mlL_62 g1 rfl rfl (okX11_runs (d := d) e1) rfl rfl [.int (0 : Int32), .ref v3] rfl rfl (JX_catch (E := 1) (h := h9) [] ⟨0, 10, 13, 13⟩ [⟨0, 10, 17, 30⟩] 4 2 rfl (List.forall_mem_nil _) (by decide) (by decide) clL_13 ca_1 (Or.inl ⟨dL_runs_13, rfl⟩) (by decide) ?_)
      refine J_iconst (1 : Int32) dL_runs_15 kc_1 ?_
      exact J_iretI dL_runs_16 rfl
    replace H := br0 q1 H
    by_cases q4 : k = 4
    · subst q4
      replace H := br1 rfl H
      cases H
      refine J_cVC (as := [.int v1, .int v2]) 10 YX11_runs 2 dL_runs_5 moX11_runs mvX11_runs mlL_62 g1 rfl rfl (okX11_runs (d := d) e1) rfl rfl [.int (0 : Int32), .ref v3] rfl rfl (JX_catch (E := 4) (h := h9) [⟨0, 10, 13, 13⟩] ⟨0, 10, 17, 30⟩ [] 4 2 rfl (List.forall_mem_cons.mpr ⟨⟨by decide, 1, clL_13, nc_4_1⟩, List.forall_mem_nil _⟩) (by decide) (by decide) clL_30 ca_4 (Or.inl ⟨dL_runs_17, rfl⟩) (by decide) ?_)
      refine J_iconst (2 : Int32) dL_runs_19 kc_2 ?_
      exact J_iretI dL_runs_20 rfl
    replace H := br0 q4 H
    cases H
theorem okL_runs {d : Nat} {h : Hp} {v0 : Nat} {v1 : Int32} {v2 : Int32} {v3 : Nat} {r : Int32} {h9 : Hp} (H : ML_runs h v0 v1 v2 v3 = some (r, h9)) : CTW (d + 2) YL_runs hhL_runs [.ref v0, .int v1, .int v2, .ref v3] h (oI r) h9 := CTW_of (by decide +kernel) (Nat.le_of_ble_eq_true rfl) (eL_runs H)
def YL_slug : Mt := (yL_slug, cL_slug, 5, some .int)
def hhL_slug : List (Nat × Nat × Nat × Nat) := [(0, 10, 13, 13), (0, 10, 17, 30)]
theorem moL_slug : MOW YL_slug hhL_slug 4 := ⟨tb6 (List.mem_of_getElem? (i := 193) rfl), tb1 (List.mem_of_getElem? (i := 0) rfl), by decide +kernel, by decide +kernel, by decide⟩
theorem msL_slug : Cond.static yL_slug ∈ lw_tbl := tb6 (List.mem_of_getElem? (i := 192) rfl)
noncomputable def ML_slug (h : Hp) (v0 : Nat) (v1 : Int32) (v2 : Int32) (v3 : Nat) : Option (Int32 × Hp) :=
  gg (β := (Int32 × Hp)) (kd h v0 = 10) <|
  bC (MX11_slug h v0 v1 v2)
    (fun t1 h1 =>
      gg (β := (Int32 × Hp)) (kd h1 v3 = 23) <|
      gg (β := (Int32 × Hp)) (inB (0 : Int32) (ln h1 v3) = true) <|
      lt (α := Hp) (β := Option (Int32 × Hp)) (sI h1 v3 (0 : Int32).toNatClampNeg t1) fun (h2 : Hp) =>
      some ((0 : Int32), h2))
    (fun k h1 =>
      if k = 1 then some ((1 : Int32), h1) else
      if k = 4 then some ((2 : Int32), h1) else
      none)
set_option maxRecDepth 100000 in
set_option maxHeartbeats 8000000 in
theorem eL_slug {d : Nat} {h : Hp} {v0 : Nat} {v1 : Int32} {v2 : Int32} {v3 : Nat} {r : Int32} {h9 : Hp} (H : ML_slug h v0 v1 v2 v3 = some (r, h9)) : JP (PH hhL_slug) (d + 1 + 1) YL_slug 0 [.ref v0, .int v1, .int v2, .ref v3, Value.null] [] h (oI r) h9 := by
  unfold ML_slug at H
  obtain ⟨g1, H⟩ := gd H
  refine J_aload_n 3 dL_slug_0 rfl rfl ?_
  refine J_iconst (0 : Int32) dL_slug_1 kc_0 ?_
  refine J_aload_n 0 dL_slug_2 rfl rfl ?_
  refine J_iload_n 1 dL_slug_3 rfl rfl ?_
  refine J_iload_n 2 dL_slug_4 rfl rfl ?_
  rcases bC_el H with ⟨t1, h1, e1, H⟩ | ⟨k, h1, e1, H⟩
  · refine J_cV (as := [.int v1, .int v2]) 10 YX11_slug 2 dL_slug_5 moX11_slug mvX11_slug mlL_65 g1 rfl rfl (okX11_slug (d := d) e1) rfl rfl [.int (0 : Int32), .ref v3] rfl rfl (st2 := [.int t1, .int (0 : Int32), .ref v3]) rfl ?_
    obtain ⟨g2, H⟩ := gd H
    obtain ⟨g3, H⟩ := gd H
    refine J_i2l dL_slug_8 ?_
    obtain ⟨h2, e2, H⟩ := lt_el H
    refine J_lS2 dL_slug_9 g2 (inB_ok g3) e2 ?_
    refine J_goto 21 dL_slug_10 rfl ?_
    cases H
    refine J_iconst (0 : Int32) dL_slug_21 kc_0 ?_
    exact J_iretI dL_slug_22 rfl
  · by_cases q1 : k = 1
    · subst q1
      replace H := br1 rfl H
      cases H
      refine J_cVC (as := [.int v1, .int v2]) 10 YX11_slug 2 dL_slug_5 moX11_slug mvX11_slug mlL_65 g1 rfl rfl (okX11_slug (d := d) e1) rfl rfl [.int (0 : Int32), .ref v3] rfl rfl (JX_catch (E := 1) (h := h9) [] ⟨0, 10, 13, 13⟩ [⟨0, 10, 17, 30⟩] 4 2 rfl (List.forall_mem_nil _) (by decide) (by decide) clL_13 ca_1 (Or.inl ⟨dL_slug_13, rfl⟩) (by decide) ?_)
      refine J_iconst (1 : Int32) dL_slug_15 kc_1 ?_
      exact J_iretI dL_slug_16 rfl
    replace H := br0 q1 H
    by_cases q4 : k = 4
    · subst q4
      replace H := br1 rfl H
      cases H
      refine J_cVC (as := [.int v1, .int v2]) 10 YX11_slug 2 dL_slug_5 moX11_slug mvX11_slug mlL_65 g1 rfl rfl (okX11_slug (d := d) e1) rfl rfl [.int (0 : Int32), .ref v3] rfl rfl (JX_catch (E := 4) (h := h9) [⟨0, 10, 13, 13⟩] ⟨0, 10, 17, 30⟩ [] 4 2 rfl (List.forall_mem_cons.mpr ⟨⟨by decide, 1, clL_13, nc_4_1⟩, List.forall_mem_nil _⟩) (by decide) (by decide) clL_30 ca_4 (Or.inl ⟨dL_slug_17, rfl⟩) (by decide) ?_)
      refine J_iconst (2 : Int32) dL_slug_19 kc_2 ?_
      exact J_iretI dL_slug_20 rfl
    replace H := br0 q4 H
    cases H
theorem okL_slug {d : Nat} {h : Hp} {v0 : Nat} {v1 : Int32} {v2 : Int32} {v3 : Nat} {r : Int32} {h9 : Hp} (H : ML_slug h v0 v1 v2 v3 = some (r, h9)) : CTW (d + 2) YL_slug hhL_slug [.ref v0, .int v1, .int v2, .ref v3] h (oI r) h9 := CTW_of (by decide +kernel) (Nat.le_of_ble_eq_true rfl) (eL_slug H)
def YL_says : Mt := (yL_says, cL_says, 5, some .int)
def hhL_says : List (Nat × Nat × Nat × Nat) := [(0, 10, 13, 13)]
theorem moL_says : MOW YL_says hhL_says 4 := ⟨tb6 (List.mem_of_getElem? (i := 201) rfl), tb1 (List.mem_of_getElem? (i := 0) rfl), by decide +kernel, by decide +kernel, by decide⟩
theorem msL_says : Cond.static yL_says ∈ lw_tbl := tb6 (List.mem_of_getElem? (i := 200) rfl)
noncomputable def ML_says (h : Hp) (v0 : Nat) (v1 : Int32) (v2 : Int32) (v3 : Nat) : Option (Int32 × Hp) :=
  gg (β := (Int32 × Hp)) (kd h v0 = 10) <|
  bC (MX11_says h v0 v1 v2)
    (fun t1 h1 =>
      gg (β := (Int32 × Hp)) (kd h1 v3 = 23) <|
      gg (β := (Int32 × Hp)) (inB (0 : Int32) (ln h1 v3) = true) <|
      lt (α := Hp) (β := Option (Int32 × Hp)) (sI h1 v3 (0 : Int32).toNatClampNeg t1) fun (h2 : Hp) =>
      some ((0 : Int32), h2))
    (fun k h1 =>
      if k = 1 then some ((1 : Int32), h1) else
      none)
set_option maxRecDepth 100000 in
set_option maxHeartbeats 8000000 in
theorem eL_says {d : Nat} {h : Hp} {v0 : Nat} {v1 : Int32} {v2 : Int32} {v3 : Nat} {r : Int32} {h9 : Hp} (H : ML_says h v0 v1 v2 v3 = some (r, h9)) : JP (PH hhL_says) (d + 1 + 1) YL_says 0 [.ref v0, .int v1, .int v2, .ref v3, Value.null] [] h (oI r) h9 := by
  unfold ML_says at H
  obtain ⟨g1, H⟩ := gd H
  refine J_aload_n 3 dL_says_0 rfl rfl ?_
  refine J_iconst (0 : Int32) dL_says_1 kc_0 ?_
  refine J_aload_n 0 dL_says_2 rfl rfl ?_
  refine J_iload_n 1 dL_says_3 rfl rfl ?_
  refine J_iload_n 2 dL_says_4 rfl rfl ?_
  rcases bC_el H with ⟨t1, h1, e1, H⟩ | ⟨k, h1, e1, H⟩
  · refine J_cV (as := [.int v1, .int v2]) 10 YX11_says 2 dL_says_5 moX11_says mvX11_says mlL_68 g1 rfl rfl (okX11_says (d := d) e1) rfl rfl [.int (0 : Int32), .ref v3] rfl rfl (st2 := [.int t1, .int (0 : Int32), .ref v3]) rfl ?_
    obtain ⟨g2, H⟩ := gd H
    obtain ⟨g3, H⟩ := gd H
    refine J_i2l dL_says_8 ?_
    obtain ⟨h2, e2, H⟩ := lt_el H
    refine J_lS2 dL_says_9 g2 (inB_ok g3) e2 ?_
    refine J_goto 17 dL_says_10 rfl ?_
    cases H
    refine J_iconst (0 : Int32) dL_says_17 kc_0 ?_
    exact J_iretI dL_says_18 rfl
  · by_cases q1 : k = 1
    · subst q1
      replace H := br1 rfl H
      cases H
      refine J_cVC (as := [.int v1, .int v2]) 10 YX11_says 2 dL_says_5 moX11_says mvX11_says mlL_68 g1 rfl rfl (okX11_says (d := d) e1) rfl rfl [.int (0 : Int32), .ref v3] rfl rfl (JX_catch (E := 1) (h := h9) [] ⟨0, 10, 13, 13⟩ [] 4 2 rfl (List.forall_mem_nil _) (by decide) (by decide) clL_13 ca_1 (Or.inl ⟨dL_says_13, rfl⟩) (by decide) ?_)
      refine J_iconst (1 : Int32) dL_says_15 kc_1 ?_
      exact J_iretI dL_says_16 rfl
    replace H := br0 q1 H
    cases H
theorem okL_says {d : Nat} {h : Hp} {v0 : Nat} {v1 : Int32} {v2 : Int32} {v3 : Nat} {r : Int32} {h9 : Hp} (H : ML_says h v0 v1 v2 v3 = some (r, h9)) : CTW (d + 2) YL_says hhL_says [.ref v0, .int v1, .int v2, .ref v3] h (oI r) h9 := CTW_of (by decide +kernel) (Nat.le_of_ble_eq_true rfl) (eL_says H)
def YL_lies : Mt := (yL_lies, cL_lies, 5, some .int)
def hhL_lies : List (Nat × Nat × Nat × Nat) := [(0, 10, 13, 13), (0, 10, 17, 74)]
theorem moL_lies : MOW YL_lies hhL_lies 4 := ⟨tb6 (List.mem_of_getElem? (i := 208) rfl), tb1 (List.mem_of_getElem? (i := 0) rfl), by decide +kernel, by decide +kernel, by decide⟩
theorem msL_lies : Cond.static yL_lies ∈ lw_tbl := tb6 (List.mem_of_getElem? (i := 207) rfl)
noncomputable def ML_lies (h : Hp) (v0 : Nat) (v1 : Int32) (v2 : Int32) (v3 : Nat) : Option (Int32 × Hp) :=
  gg (β := (Int32 × Hp)) (kd h v0 = 10) <|
  bC (MX11_lies h v0 v1 v2)
    (fun t1 h1 =>
      gg (β := (Int32 × Hp)) (kd h1 v3 = 23) <|
      gg (β := (Int32 × Hp)) (inB (0 : Int32) (ln h1 v3) = true) <|
      lt (α := Hp) (β := Option (Int32 × Hp)) (sI h1 v3 (0 : Int32).toNatClampNeg t1) fun (h2 : Hp) =>
      some ((0 : Int32), h2))
    (fun k h1 =>
      if k = 1 then some ((1 : Int32), h1) else
      if k = 5 then some ((2 : Int32), h1) else
      none)
set_option maxRecDepth 100000 in
set_option maxHeartbeats 8000000 in
theorem eL_lies {d : Nat} {h : Hp} {v0 : Nat} {v1 : Int32} {v2 : Int32} {v3 : Nat} {r : Int32} {h9 : Hp} (H : ML_lies h v0 v1 v2 v3 = some (r, h9)) : JP (PH hhL_lies) (d + 1 + 1) YL_lies 0 [.ref v0, .int v1, .int v2, .ref v3, Value.null] [] h (oI r) h9 := by
  unfold ML_lies at H
  obtain ⟨g1, H⟩ := gd H
  refine J_aload_n 3 dL_lies_0 rfl rfl ?_
  refine J_iconst (0 : Int32) dL_lies_1 kc_0 ?_
  refine J_aload_n 0 dL_lies_2 rfl rfl ?_
  refine J_iload_n 1 dL_lies_3 rfl rfl ?_
  refine J_iload_n 2 dL_lies_4 rfl rfl ?_
  rcases bC_el H with ⟨t1, h1, e1, H⟩ | ⟨k, h1, e1, H⟩
  · refine J_cV (as := [.int v1, .int v2]) 10 YX11_lies 2 dL_lies_5 moX11_lies mvX11_lies mlL_71 g1 rfl rfl (okX11_lies (d := d) e1) rfl rfl [.int (0 : Int32), .ref v3] rfl rfl (st2 := [.int t1, .int (0 : Int32), .ref v3]) rfl ?_
    obtain ⟨g2, H⟩ := gd H
    obtain ⟨g3, H⟩ := gd H
    refine J_i2l dL_lies_8 ?_
    obtain ⟨h2, e2, H⟩ := lt_el H
    refine J_lS2 dL_lies_9 g2 (inB_ok g3) e2 ?_
    refine J_goto 21 dL_lies_10 rfl ?_
    cases H
    refine J_iconst (0 : Int32) dL_lies_21 kc_0 ?_
    exact J_iretI dL_lies_22 rfl
  · by_cases q1 : k = 1
    · subst q1
      replace H := br1 rfl H
      cases H
      refine J_cVC (as := [.int v1, .int v2]) 10 YX11_lies 2 dL_lies_5 moX11_lies mvX11_lies mlL_71 g1 rfl rfl (okX11_lies (d := d) e1) rfl rfl [.int (0 : Int32), .ref v3] rfl rfl (JX_catch (E := 1) (h := h9) [] ⟨0, 10, 13, 13⟩ [⟨0, 10, 17, 74⟩] 4 2 rfl (List.forall_mem_nil _) (by decide) (by decide) clL_13 ca_1 (Or.inl ⟨dL_lies_13, rfl⟩) (by decide) ?_)
      refine J_iconst (1 : Int32) dL_lies_15 kc_1 ?_
      exact J_iretI dL_lies_16 rfl
    replace H := br0 q1 H
    by_cases q5 : k = 5
    · subst q5
      replace H := br1 rfl H
      cases H
      refine J_cVC (as := [.int v1, .int v2]) 10 YX11_lies 2 dL_lies_5 moX11_lies mvX11_lies mlL_71 g1 rfl rfl (okX11_lies (d := d) e1) rfl rfl [.int (0 : Int32), .ref v3] rfl rfl (JX_catch (E := 5) (h := h9) [⟨0, 10, 13, 13⟩] ⟨0, 10, 17, 74⟩ [] 4 2 rfl (List.forall_mem_cons.mpr ⟨⟨by decide, 1, clL_13, nc_5_1⟩, List.forall_mem_nil _⟩) (by decide) (by decide) clL_74 ca_5 (Or.inl ⟨dL_lies_17, rfl⟩) (by decide) ?_)
      refine J_iconst (2 : Int32) dL_lies_19 kc_2 ?_
      exact J_iretI dL_lies_20 rfl
    replace H := br0 q5 H
    cases H
theorem okL_lies {d : Nat} {h : Hp} {v0 : Nat} {v1 : Int32} {v2 : Int32} {v3 : Nat} {r : Int32} {h9 : Hp} (H : ML_lies h v0 v1 v2 v3 = some (r, h9)) : CTW (d + 2) YL_lies hhL_lies [.ref v0, .int v1, .int v2, .ref v3] h (oI r) h9 := CTW_of (by decide +kernel) (Nat.le_of_ble_eq_true rfl) (eL_lies H)
def YL_judge : Mt := (yL_judge, cL_judge, 4, some .int)
def hhL_judge : List (Nat × Nat × Nat × Nat) := [(0, 9, 12, 13), (0, 9, 15, 74)]
theorem moL_judge : MOW YL_judge hhL_judge 3 := ⟨tb6 (List.mem_of_getElem? (i := 231) rfl), tb1 (List.mem_of_getElem? (i := 0) rfl), by decide +kernel, by decide +kernel, by decide⟩
theorem msL_judge : Cond.static yL_judge ∈ lw_tbl := tb6 (List.mem_of_getElem? (i := 230) rfl)
noncomputable def ML_judge (h : Hp) (v0 : Nat) (v1 : Int32) (v2 : Nat) : Option (Int32 × Hp) :=
  gg (β := (Int32 × Hp)) (kd h v0 = 10) <|
  bC (MX11_judge h v0 v1)
    (fun t1 h1 =>
      gg (β := (Int32 × Hp)) (kd h1 v2 = 23) <|
      gg (β := (Int32 × Hp)) (inB (0 : Int32) (ln h1 v2) = true) <|
      lt (α := Hp) (β := Option (Int32 × Hp)) (sI h1 v2 (0 : Int32).toNatClampNeg t1) fun (h2 : Hp) =>
      some ((0 : Int32), h2))
    (fun k h1 =>
      if k = 1 then some ((1 : Int32), h1) else
      if k = 5 then some ((2 : Int32), h1) else
      none)
set_option maxRecDepth 100000 in
set_option maxHeartbeats 8000000 in
theorem eL_judge {d : Nat} {h : Hp} {v0 : Nat} {v1 : Int32} {v2 : Nat} {r : Int32} {h9 : Hp} (H : ML_judge h v0 v1 v2 = some (r, h9)) : JP (PH hhL_judge) (d + 4 + 1) YL_judge 0 [.ref v0, .int v1, .ref v2, Value.null] [] h (oI r) h9 := by
  unfold ML_judge at H
  obtain ⟨g1, H⟩ := gd H
  refine J_aload_n 2 dL_judge_0 rfl rfl ?_
  refine J_iconst (0 : Int32) dL_judge_1 kc_0 ?_
  refine J_aload_n 0 dL_judge_2 rfl rfl ?_
  refine J_iload_n 1 dL_judge_3 rfl rfl ?_
  rcases bC_el H with ⟨t1, h1, e1, H⟩ | ⟨k, h1, e1, H⟩
  · refine J_cV (as := [.int v1]) 10 YX11_judge 1 dL_judge_4 moX11_judge mvX11_judge mlL_76 g1 rfl rfl (okX11_judge (d := d) e1) rfl rfl [.int (0 : Int32), .ref v2] rfl rfl (st2 := [.int t1, .int (0 : Int32), .ref v2]) rfl ?_
    obtain ⟨g2, H⟩ := gd H
    obtain ⟨g3, H⟩ := gd H
    refine J_i2l dL_judge_7 ?_
    obtain ⟨h2, e2, H⟩ := lt_el H
    refine J_lS2 dL_judge_8 g2 (inB_ok g3) e2 ?_
    refine J_goto 18 dL_judge_9 rfl ?_
    cases H
    refine J_iconst (0 : Int32) dL_judge_18 kc_0 ?_
    exact J_iretI dL_judge_19 rfl
  · by_cases q1 : k = 1
    · subst q1
      replace H := br1 rfl H
      cases H
      refine J_cVC (as := [.int v1]) 10 YX11_judge 1 dL_judge_4 moX11_judge mvX11_judge mlL_76 g1 rfl rfl (okX11_judge (d := d) e1) rfl rfl [.int (0 : Int32), .ref v2] rfl rfl (JX_catch (E := 1) (h := h9) [] ⟨0, 9, 12, 13⟩ [⟨0, 9, 15, 74⟩] 3 1 rfl (List.forall_mem_nil _) (by decide) (by decide) clL_13 ca_1 (Or.inr ⟨_, dL_judge_12, rfl, rfl⟩) (by decide) ?_)
      refine J_iconst (1 : Int32) dL_judge_13 kc_1 ?_
      exact J_iretI dL_judge_14 rfl
    replace H := br0 q1 H
    by_cases q5 : k = 5
    · subst q5
      replace H := br1 rfl H
      cases H
      refine J_cVC (as := [.int v1]) 10 YX11_judge 1 dL_judge_4 moX11_judge mvX11_judge mlL_76 g1 rfl rfl (okX11_judge (d := d) e1) rfl rfl [.int (0 : Int32), .ref v2] rfl rfl (JX_catch (E := 5) (h := h9) [⟨0, 9, 12, 13⟩] ⟨0, 9, 15, 74⟩ [] 3 1 rfl (List.forall_mem_cons.mpr ⟨⟨by decide, 1, clL_13, nc_5_1⟩, List.forall_mem_nil _⟩) (by decide) (by decide) clL_74 ca_5 (Or.inr ⟨_, dL_judge_15, rfl, rfl⟩) (by decide) ?_)
      refine J_iconst (2 : Int32) dL_judge_16 kc_2 ?_
      exact J_iretI dL_judge_17 rfl
    replace H := br0 q5 H
    cases H
theorem okL_judge {d : Nat} {h : Hp} {v0 : Nat} {v1 : Int32} {v2 : Nat} {r : Int32} {h9 : Hp} (H : ML_judge h v0 v1 v2 = some (r, h9)) : CTW (d + 5) YL_judge hhL_judge [.ref v0, .int v1, .ref v2] h (oI r) h9 := CTW_of (by decide +kernel) (Nat.le_of_ble_eq_true rfl) (eL_judge H)
def YL_pie : Mt := (yL_pie, cL_pie, 4, some .int)
def hhL_pie : List (Nat × Nat × Nat × Nat) := [(0, 16, 19, 13)]
theorem moL_pie : MOW YL_pie hhL_pie 3 := ⟨tb7 (List.mem_of_getElem? (i := 2) rfl), tb1 (List.mem_of_getElem? (i := 0) rfl), by decide +kernel, by decide +kernel, by decide⟩
theorem msL_pie : Cond.static yL_pie ∈ lw_tbl := tb7 (List.mem_of_getElem? (i := 1) rfl)
noncomputable def ML_pie (h : Hp) (v0 : Nat) (v1 : Int32) (v2 : Nat) : Option (Int32 × Hp) :=
  gg (β := (Int32 × Hp)) (kd h v0 = 10) <|
  bC (MX11_pie h v0 v1)
    (fun t1 h1 =>
      gg (β := (Int32 × Hp)) (kd h1 v2 = 23) <|
      gg (β := (Int32 × Hp)) (inB (0 : Int32) (ln h1 v2) = true) <|
      if t1 = 0 then
        lt (α := Hp) (β := Option (Int32 × Hp)) (sI h1 v2 (0 : Int32).toNatClampNeg (0 : Int32)) fun (h2 : Hp) =>
        some ((0 : Int32), h2)
      else
        lt (α := Hp) (β := Option (Int32 × Hp)) (sI h1 v2 (0 : Int32).toNatClampNeg (1 : Int32)) fun (h2 : Hp) =>
        some ((0 : Int32), h2))
    (fun k h1 =>
      if k = 1 then some ((1 : Int32), h1) else
      none)
set_option maxRecDepth 100000 in
set_option maxHeartbeats 8000000 in
theorem eL_pie {d : Nat} {h : Hp} {v0 : Nat} {v1 : Int32} {v2 : Nat} {r : Int32} {h9 : Hp} (H : ML_pie h v0 v1 v2 = some (r, h9)) : JP (PH hhL_pie) (d + 2 + 1) YL_pie 0 [.ref v0, .int v1, .ref v2, Value.null] [] h (oI r) h9 := by
  unfold ML_pie at H
  obtain ⟨g1, H⟩ := gd H
  refine J_aload_n 2 dL_pie_0 rfl rfl ?_
  refine J_iconst (0 : Int32) dL_pie_1 kc_0 ?_
  refine J_aload_n 0 dL_pie_2 rfl rfl ?_
  refine J_iload_n 1 dL_pie_3 rfl rfl ?_
  rcases bC_el H with ⟨t1, h1, e1, H⟩ | ⟨k, h1, e1, H⟩
  · refine J_cV (as := [.int v1]) 10 YX11_pie 1 dL_pie_4 moX11_pie mvX11_pie mlL_79 g1 rfl rfl (okX11_pie (d := d) e1) rfl rfl [.int (0 : Int32), .ref v2] rfl rfl (st2 := [.int t1, .int (0 : Int32), .ref v2]) rfl ?_
    obtain ⟨g2, H⟩ := gd H
    obtain ⟨g3, H⟩ := gd H
    refine J_if_eq 14 dL_pie_7 rfl (fun q1 => ?_) (fun q1 => ?_)
    · replace H := br1 q1 H
      refine J_lconst' (0 : Int32) dL_pie_14 lc_0 ?_
      obtain ⟨h2, e2, H⟩ := lt_el H
      refine J_lS2 dL_pie_15 g2 (inB_ok g3) e2 ?_
      refine J_goto 22 dL_pie_16 rfl ?_
      cases H
      refine J_iconst (0 : Int32) dL_pie_22 kc_0 ?_
      exact J_iretI dL_pie_23 rfl
    · replace H := br0 q1 H
      refine J_lconst' (1 : Int32) dL_pie_10 lc_1 ?_
      refine J_goto 15 dL_pie_11 rfl ?_
      obtain ⟨h2, e2, H⟩ := lt_el H
      refine J_lS2 dL_pie_15 g2 (inB_ok g3) e2 ?_
      refine J_goto 22 dL_pie_16 rfl ?_
      cases H
      refine J_iconst (0 : Int32) dL_pie_22 kc_0 ?_
      exact J_iretI dL_pie_23 rfl
  · by_cases q1 : k = 1
    · subst q1
      replace H := br1 rfl H
      cases H
      refine J_cVC (as := [.int v1]) 10 YX11_pie 1 dL_pie_4 moX11_pie mvX11_pie mlL_79 g1 rfl rfl (okX11_pie (d := d) e1) rfl rfl [.int (0 : Int32), .ref v2] rfl rfl (JX_catch (E := 1) (h := h9) [] ⟨0, 16, 19, 13⟩ [] 3 1 rfl (List.forall_mem_nil _) (by decide) (by decide) clL_13 ca_1 (Or.inr ⟨_, dL_pie_19, rfl, rfl⟩) (by decide) ?_)
      refine J_iconst (1 : Int32) dL_pie_20 kc_1 ?_
      exact J_iretI dL_pie_21 rfl
    replace H := br0 q1 H
    cases H
theorem okL_pie {d : Nat} {h : Hp} {v0 : Nat} {v1 : Int32} {v2 : Nat} {r : Int32} {h9 : Hp} (H : ML_pie h v0 v1 v2 = some (r, h9)) : CTW (d + 3) YL_pie hhL_pie [.ref v0, .int v1, .ref v2] h (oI r) h9 := CTW_of (by decide +kernel) (Nat.le_of_ble_eq_true rfl) (eL_pie H)
def YL_change : Mt := (yL_change, cL_change, 5, some .int)
def hhL_change : List (Nat × Nat × Nat × Nat) := [(0, 17, 20, 13)]
theorem moL_change : MOW YL_change hhL_change 4 := ⟨tb7 (List.mem_of_getElem? (i := 10) rfl), tb1 (List.mem_of_getElem? (i := 0) rfl), by decide +kernel, by decide +kernel, by decide⟩
theorem msL_change : Cond.static yL_change ∈ lw_tbl := tb7 (List.mem_of_getElem? (i := 9) rfl)
noncomputable def ML_change (h : Hp) (v0 : Nat) (v1 : Int32) (v2 : Int32) (v3 : Nat) : Option (Int32 × Hp) :=
  gg (β := (Int32 × Hp)) (kd h v0 = 10) <|
  bC (MX11_change h v0 v1 v2)
    (fun t1 h1 =>
      gg (β := (Int32 × Hp)) (kd h1 v3 = 23) <|
      gg (β := (Int32 × Hp)) (inB (0 : Int32) (ln h1 v3) = true) <|
      if t1 = 0 then
        lt (α := Hp) (β := Option (Int32 × Hp)) (sI h1 v3 (0 : Int32).toNatClampNeg (0 : Int32)) fun (h2 : Hp) =>
        some ((0 : Int32), h2)
      else
        lt (α := Hp) (β := Option (Int32 × Hp)) (sI h1 v3 (0 : Int32).toNatClampNeg (1 : Int32)) fun (h2 : Hp) =>
        some ((0 : Int32), h2))
    (fun k h1 =>
      if k = 1 then some ((1 : Int32), h1) else
      none)
set_option maxRecDepth 100000 in
set_option maxHeartbeats 8000000 in
theorem eL_change {d : Nat} {h : Hp} {v0 : Nat} {v1 : Int32} {v2 : Int32} {v3 : Nat} {r : Int32} {h9 : Hp} (H : ML_change h v0 v1 v2 v3 = some (r, h9)) : JP (PH hhL_change) (d + 2 + 1) YL_change 0 [.ref v0, .int v1, .int v2, .ref v3, Value.null] [] h (oI r) h9 := by
  unfold ML_change at H
  obtain ⟨g1, H⟩ := gd H
  refine J_aload_n 3 dL_change_0 rfl rfl ?_
  refine J_iconst (0 : Int32) dL_change_1 kc_0 ?_
  refine J_aload_n 0 dL_change_2 rfl rfl ?_
  refine J_iload_n 1 dL_change_3 rfl rfl ?_
  refine J_iload_n 2 dL_change_4 rfl rfl ?_
  rcases bC_el H with ⟨t1, h1, e1, H⟩ | ⟨k, h1, e1, H⟩
  · refine J_cV (as := [.int v1, .int v2]) 10 YX11_change 2 dL_change_5 moX11_change mvX11_change mlL_83 g1 rfl rfl (okX11_change (d := d) e1) rfl rfl [.int (0 : Int32), .ref v3] rfl rfl (st2 := [.int t1, .int (0 : Int32), .ref v3]) rfl ?_
    obtain ⟨g2, H⟩ := gd H
    obtain ⟨g3, H⟩ := gd H
    refine J_if_eq 15 dL_change_8 rfl (fun q1 => ?_) (fun q1 => ?_)
    · replace H := br1 q1 H
      refine J_lconst' (0 : Int32) dL_change_15 lc_0 ?_
      obtain ⟨h2, e2, H⟩ := lt_el H
      refine J_lS2 dL_change_16 g2 (inB_ok g3) e2 ?_
      refine J_goto 24 dL_change_17 rfl ?_
      cases H
      refine J_iconst (0 : Int32) dL_change_24 kc_0 ?_
      exact J_iretI dL_change_25 rfl
    · replace H := br0 q1 H
      refine J_lconst' (1 : Int32) dL_change_11 lc_1 ?_
      refine J_goto 16 dL_change_12 rfl ?_
      obtain ⟨h2, e2, H⟩ := lt_el H
      refine J_lS2 dL_change_16 g2 (inB_ok g3) e2 ?_
      refine J_goto 24 dL_change_17 rfl ?_
      cases H
      refine J_iconst (0 : Int32) dL_change_24 kc_0 ?_
      exact J_iretI dL_change_25 rfl
  · by_cases q1 : k = 1
    · subst q1
      replace H := br1 rfl H
      cases H
      refine J_cVC (as := [.int v1, .int v2]) 10 YX11_change 2 dL_change_5 moX11_change mvX11_change mlL_83 g1 rfl rfl (okX11_change (d := d) e1) rfl rfl [.int (0 : Int32), .ref v3] rfl rfl (JX_catch (E := 1) (h := h9) [] ⟨0, 17, 20, 13⟩ [] 4 2 rfl (List.forall_mem_nil _) (by decide) (by decide) clL_13 ca_1 (Or.inl ⟨dL_change_20, rfl⟩) (by decide) ?_)
      refine J_iconst (1 : Int32) dL_change_22 kc_1 ?_
      exact J_iretI dL_change_23 rfl
    replace H := br0 q1 H
    cases H
theorem okL_change {d : Nat} {h : Hp} {v0 : Nat} {v1 : Int32} {v2 : Int32} {v3 : Nat} {r : Int32} {h9 : Hp} (H : ML_change h v0 v1 v2 v3 = some (r, h9)) : CTW (d + 3) YL_change hhL_change [.ref v0, .int v1, .int v2, .ref v3] h (oI r) h9 := CTW_of (by decide +kernel) (Nat.le_of_ble_eq_true rfl) (eL_change H)
def YL_again : Mt := (yL_again, cL_again, 6, some .int)
def hhL_again : List (Nat × Nat × Nat × Nat) := [(0, 12, 15, 13), (0, 12, 19, 74), (0, 12, 23, 21)]
theorem moL_again : MOW YL_again hhL_again 5 := ⟨tb7 (List.mem_of_getElem? (i := 18) rfl), tb1 (List.mem_of_getElem? (i := 0) rfl), by decide +kernel, by decide +kernel, by decide⟩
theorem msL_again : Cond.static yL_again ∈ lw_tbl := tb7 (List.mem_of_getElem? (i := 17) rfl)
noncomputable def ML_again (h : Hp) (v0 : Nat) (v1 : Int32) (v2 : Int32) (v3 : Int32) (v4 : Nat) : Option (Int32 × Hp) :=
  gg (β := (Int32 × Hp)) (kd h v0 = 10) <|
  bC (MX11_again h v0 v1 v2 v3)
    (fun t1 h1 =>
      gg (β := (Int32 × Hp)) (kd h1 v4 = 23) <|
      gg (β := (Int32 × Hp)) (inB (0 : Int32) (ln h1 v4) = true) <|
      lt (α := Hp) (β := Option (Int32 × Hp)) (sI h1 v4 (0 : Int32).toNatClampNeg t1) fun (h2 : Hp) =>
      some ((0 : Int32), h2))
    (fun k h1 =>
      if k = 1 then some ((1 : Int32), h1) else
      if k = 5 then some ((2 : Int32), h1) else
      if k = 3 then some ((3 : Int32), h1) else
      none)
set_option maxRecDepth 100000 in
set_option maxHeartbeats 8000000 in
theorem eL_again {d : Nat} {h : Hp} {v0 : Nat} {v1 : Int32} {v2 : Int32} {v3 : Int32} {v4 : Nat} {r : Int32} {h9 : Hp} (H : ML_again h v0 v1 v2 v3 v4 = some (r, h9)) : JP (PH hhL_again) (d + 1 + 1) YL_again 0 [.ref v0, .int v1, .int v2, .int v3, .ref v4, Value.null] [] h (oI r) h9 := by
  unfold ML_again at H
  obtain ⟨g1, H⟩ := gd H
  refine J_aload dL_again_0 rfl ?_
  refine J_iconst (0 : Int32) dL_again_2 kc_0 ?_
  refine J_aload_n 0 dL_again_3 rfl rfl ?_
  refine J_iload_n 1 dL_again_4 rfl rfl ?_
  refine J_iload_n 2 dL_again_5 rfl rfl ?_
  refine J_iload_n 3 dL_again_6 rfl rfl ?_
  rcases bC_el H with ⟨t1, h1, e1, H⟩ | ⟨k, h1, e1, H⟩
  · refine J_cV (as := [.int v1, .int v2, .int v3]) 10 YX11_again 3 dL_again_7 moX11_again mvX11_again mlL_87 g1 rfl rfl (okX11_again (d := d) e1) rfl rfl [.int (0 : Int32), .ref v4] rfl rfl (st2 := [.int t1, .int (0 : Int32), .ref v4]) rfl ?_
    obtain ⟨g2, H⟩ := gd H
    obtain ⟨g3, H⟩ := gd H
    refine J_i2l dL_again_10 ?_
    obtain ⟨h2, e2, H⟩ := lt_el H
    refine J_lS2 dL_again_11 g2 (inB_ok g3) e2 ?_
    refine J_goto 27 dL_again_12 rfl ?_
    cases H
    refine J_iconst (0 : Int32) dL_again_27 kc_0 ?_
    exact J_iretI dL_again_28 rfl
  · by_cases q1 : k = 1
    · subst q1
      replace H := br1 rfl H
      cases H
      refine J_cVC (as := [.int v1, .int v2, .int v3]) 10 YX11_again 3 dL_again_7 moX11_again mvX11_again mlL_87 g1 rfl rfl (okX11_again (d := d) e1) rfl rfl [.int (0 : Int32), .ref v4] rfl rfl (JX_catch (E := 1) (h := h9) [] ⟨0, 12, 15, 13⟩ [⟨0, 12, 19, 74⟩, ⟨0, 12, 23, 21⟩] 5 2 rfl (List.forall_mem_nil _) (by decide) (by decide) clL_13 ca_1 (Or.inl ⟨dL_again_15, rfl⟩) (by decide) ?_)
      refine J_iconst (1 : Int32) dL_again_17 kc_1 ?_
      exact J_iretI dL_again_18 rfl
    replace H := br0 q1 H
    by_cases q5 : k = 5
    · subst q5
      replace H := br1 rfl H
      cases H
      refine J_cVC (as := [.int v1, .int v2, .int v3]) 10 YX11_again 3 dL_again_7 moX11_again mvX11_again mlL_87 g1 rfl rfl (okX11_again (d := d) e1) rfl rfl [.int (0 : Int32), .ref v4] rfl rfl (JX_catch (E := 5) (h := h9) [⟨0, 12, 15, 13⟩] ⟨0, 12, 19, 74⟩ [⟨0, 12, 23, 21⟩] 5 2 rfl (List.forall_mem_cons.mpr ⟨⟨by decide, 1, clL_13, nc_5_1⟩, List.forall_mem_nil _⟩) (by decide) (by decide) clL_74 ca_5 (Or.inl ⟨dL_again_19, rfl⟩) (by decide) ?_)
      refine J_iconst (2 : Int32) dL_again_21 kc_2 ?_
      exact J_iretI dL_again_22 rfl
    replace H := br0 q5 H
    by_cases q3 : k = 3
    · subst q3
      replace H := br1 rfl H
      cases H
      refine J_cVC (as := [.int v1, .int v2, .int v3]) 10 YX11_again 3 dL_again_7 moX11_again mvX11_again mlL_87 g1 rfl rfl (okX11_again (d := d) e1) rfl rfl [.int (0 : Int32), .ref v4] rfl rfl (JX_catch (E := 3) (h := h9) [⟨0, 12, 15, 13⟩, ⟨0, 12, 19, 74⟩] ⟨0, 12, 23, 21⟩ [] 5 2 rfl (List.forall_mem_cons.mpr ⟨⟨by decide, 1, clL_13, nc_3_1⟩, List.forall_mem_cons.mpr ⟨⟨by decide, 5, clL_74, nc_3_5⟩, List.forall_mem_nil _⟩⟩) (by decide) (by decide) clL_21 ca_3 (Or.inl ⟨dL_again_23, rfl⟩) (by decide) ?_)
      refine J_iconst (3 : Int32) dL_again_25 kc_3 ?_
      exact J_iretI dL_again_26 rfl
    replace H := br0 q3 H
    cases H
theorem okL_again {d : Nat} {h : Hp} {v0 : Nat} {v1 : Int32} {v2 : Int32} {v3 : Int32} {v4 : Nat} {r : Int32} {h9 : Hp} (H : ML_again h v0 v1 v2 v3 v4 = some (r, h9)) : CTW (d + 2) YL_again hhL_again [.ref v0, .int v1, .int v2, .int v3, .ref v4] h (oI r) h9 := CTW_of (by decide +kernel) (Nat.le_of_ble_eq_true rfl) (eL_again H)
def YL_correct : Mt := (yL_correct, cL_correct, 6, some .int)
def hhL_correct : List (Nat × Nat × Nat × Nat) := [(0, 12, 15, 13), (0, 12, 19, 15), (0, 12, 23, 74), (0, 12, 27, 21)]
theorem moL_correct : MOW YL_correct hhL_correct 5 := ⟨tb7 (List.mem_of_getElem? (i := 25) rfl), tb1 (List.mem_of_getElem? (i := 0) rfl), by decide +kernel, by decide +kernel, by decide⟩
theorem msL_correct : Cond.static yL_correct ∈ lw_tbl := tb7 (List.mem_of_getElem? (i := 24) rfl)
noncomputable def ML_correct (h : Hp) (v0 : Nat) (v1 : Int32) (v2 : Int32) (v3 : Int32) (v4 : Nat) : Option (Int32 × Hp) :=
  gg (β := (Int32 × Hp)) (kd h v0 = 10) <|
  bC (MX11_correct h v0 v1 v2 v3)
    (fun t1 h1 =>
      gg (β := (Int32 × Hp)) (kd h1 v4 = 23) <|
      gg (β := (Int32 × Hp)) (inB (0 : Int32) (ln h1 v4) = true) <|
      lt (α := Hp) (β := Option (Int32 × Hp)) (sI h1 v4 (0 : Int32).toNatClampNeg t1) fun (h2 : Hp) =>
      some ((0 : Int32), h2))
    (fun k h1 =>
      if k = 1 then some ((1 : Int32), h1) else
      if k = 2 then some ((2 : Int32), h1) else
      if k = 5 then some ((3 : Int32), h1) else
      if k = 3 then some ((4 : Int32), h1) else
      none)
set_option maxRecDepth 100000 in
set_option maxHeartbeats 8000000 in
theorem eL_correct {d : Nat} {h : Hp} {v0 : Nat} {v1 : Int32} {v2 : Int32} {v3 : Int32} {v4 : Nat} {r : Int32} {h9 : Hp} (H : ML_correct h v0 v1 v2 v3 v4 = some (r, h9)) : JP (PH hhL_correct) (d + 5 + 1) YL_correct 0 [.ref v0, .int v1, .int v2, .int v3, .ref v4, Value.null] [] h (oI r) h9 := by
  unfold ML_correct at H
  obtain ⟨g1, H⟩ := gd H
  refine J_aload dL_correct_0 rfl ?_
  refine J_iconst (0 : Int32) dL_correct_2 kc_0 ?_
  refine J_aload_n 0 dL_correct_3 rfl rfl ?_
  refine J_iload_n 1 dL_correct_4 rfl rfl ?_
  refine J_iload_n 2 dL_correct_5 rfl rfl ?_
  refine J_iload_n 3 dL_correct_6 rfl rfl ?_
  rcases bC_el H with ⟨t1, h1, e1, H⟩ | ⟨k, h1, e1, H⟩
  · refine J_cV (as := [.int v1, .int v2, .int v3]) 10 YX11_correct 3 dL_correct_7 moX11_correct mvX11_correct mlL_90 g1 rfl rfl (okX11_correct (d := d) e1) rfl rfl [.int (0 : Int32), .ref v4] rfl rfl (st2 := [.int t1, .int (0 : Int32), .ref v4]) rfl ?_
    obtain ⟨g2, H⟩ := gd H
    obtain ⟨g3, H⟩ := gd H
    refine J_i2l dL_correct_10 ?_
    obtain ⟨h2, e2, H⟩ := lt_el H
    refine J_lS2 dL_correct_11 g2 (inB_ok g3) e2 ?_
    refine J_goto 31 dL_correct_12 rfl ?_
    cases H
    refine J_iconst (0 : Int32) dL_correct_31 kc_0 ?_
    exact J_iretI dL_correct_32 rfl
  · by_cases q1 : k = 1
    · subst q1
      replace H := br1 rfl H
      cases H
      refine J_cVC (as := [.int v1, .int v2, .int v3]) 10 YX11_correct 3 dL_correct_7 moX11_correct mvX11_correct mlL_90 g1 rfl rfl (okX11_correct (d := d) e1) rfl rfl [.int (0 : Int32), .ref v4] rfl rfl (JX_catch (E := 1) (h := h9) [] ⟨0, 12, 15, 13⟩ [⟨0, 12, 19, 15⟩, ⟨0, 12, 23, 74⟩, ⟨0, 12, 27, 21⟩] 5 2 rfl (List.forall_mem_nil _) (by decide) (by decide) clL_13 ca_1 (Or.inl ⟨dL_correct_15, rfl⟩) (by decide) ?_)
      refine J_iconst (1 : Int32) dL_correct_17 kc_1 ?_
      exact J_iretI dL_correct_18 rfl
    replace H := br0 q1 H
    by_cases q2 : k = 2
    · subst q2
      replace H := br1 rfl H
      cases H
      refine J_cVC (as := [.int v1, .int v2, .int v3]) 10 YX11_correct 3 dL_correct_7 moX11_correct mvX11_correct mlL_90 g1 rfl rfl (okX11_correct (d := d) e1) rfl rfl [.int (0 : Int32), .ref v4] rfl rfl (JX_catch (E := 2) (h := h9) [⟨0, 12, 15, 13⟩] ⟨0, 12, 19, 15⟩ [⟨0, 12, 23, 74⟩, ⟨0, 12, 27, 21⟩] 5 2 rfl (List.forall_mem_cons.mpr ⟨⟨by decide, 1, clL_13, nc_2_1⟩, List.forall_mem_nil _⟩) (by decide) (by decide) clL_15 ca_2 (Or.inl ⟨dL_correct_19, rfl⟩) (by decide) ?_)
      refine J_iconst (2 : Int32) dL_correct_21 kc_2 ?_
      exact J_iretI dL_correct_22 rfl
    replace H := br0 q2 H
    by_cases q5 : k = 5
    · subst q5
      replace H := br1 rfl H
      cases H
      refine J_cVC (as := [.int v1, .int v2, .int v3]) 10 YX11_correct 3 dL_correct_7 moX11_correct mvX11_correct mlL_90 g1 rfl rfl (okX11_correct (d := d) e1) rfl rfl [.int (0 : Int32), .ref v4] rfl rfl (JX_catch (E := 5) (h := h9) [⟨0, 12, 15, 13⟩, ⟨0, 12, 19, 15⟩] ⟨0, 12, 23, 74⟩ [⟨0, 12, 27, 21⟩] 5 2 rfl (List.forall_mem_cons.mpr ⟨⟨by decide, 1, clL_13, nc_5_1⟩, List.forall_mem_cons.mpr ⟨⟨by decide, 2, clL_15, nc_5_2⟩, List.forall_mem_nil _⟩⟩) (by decide) (by decide) clL_74 ca_5 (Or.inl ⟨dL_correct_23, rfl⟩) (by decide) ?_)
      refine J_iconst (3 : Int32) dL_correct_25 kc_3 ?_
      exact J_iretI dL_correct_26 rfl
    replace H := br0 q5 H
    by_cases q3 : k = 3
    · subst q3
      replace H := br1 rfl H
      cases H
      refine J_cVC (as := [.int v1, .int v2, .int v3]) 10 YX11_correct 3 dL_correct_7 moX11_correct mvX11_correct mlL_90 g1 rfl rfl (okX11_correct (d := d) e1) rfl rfl [.int (0 : Int32), .ref v4] rfl rfl (JX_catch (E := 3) (h := h9) [⟨0, 12, 15, 13⟩, ⟨0, 12, 19, 15⟩, ⟨0, 12, 23, 74⟩] ⟨0, 12, 27, 21⟩ [] 5 2 rfl (List.forall_mem_cons.mpr ⟨⟨by decide, 1, clL_13, nc_3_1⟩, List.forall_mem_cons.mpr ⟨⟨by decide, 2, clL_15, nc_3_2⟩, List.forall_mem_cons.mpr ⟨⟨by decide, 5, clL_74, nc_3_5⟩, List.forall_mem_nil _⟩⟩⟩) (by decide) (by decide) clL_21 ca_3 (Or.inl ⟨dL_correct_27, rfl⟩) (by decide) ?_)
      refine J_iconst (4 : Int32) dL_correct_29 kc_4 ?_
      exact J_iretI dL_correct_30 rfl
    replace H := br0 q3 H
    cases H
theorem okL_correct {d : Nat} {h : Hp} {v0 : Nat} {v1 : Int32} {v2 : Int32} {v3 : Int32} {v4 : Nat} {r : Int32} {h9 : Hp} (H : ML_correct h v0 v1 v2 v3 v4 = some (r, h9)) : CTW (d + 6) YL_correct hhL_correct [.ref v0, .int v1, .int v2, .int v3, .ref v4] h (oI r) h9 := CTW_of (by decide +kernel) (Nat.le_of_ble_eq_true rfl) (eL_correct H)
def YL_slip : Mt := (yL_slip, cL_slip, 6, some .int)
def hhL_slip : List (Nat × Nat × Nat × Nat) := [(0, 19, 22, 13), (0, 19, 26, 15)]
theorem moL_slip : MOW YL_slip hhL_slip 5 := ⟨tb7 (List.mem_of_getElem? (i := 81) rfl), tb1 (List.mem_of_getElem? (i := 0) rfl), by decide +kernel, by decide +kernel, by decide⟩
theorem msL_slip : Cond.static yL_slip ∈ lw_tbl := tb7 (List.mem_of_getElem? (i := 80) rfl)
noncomputable def ML_slip (h : Hp) (v0 : Nat) (v1 : Int32) (v2 : Int32) (v3 : Int32) (v4 : Nat) : Option (Int32 × Hp) :=
  gg (β := (Int32 × Hp)) (kd h v0 = 10) <|
  bC (MX11_slip h v0 v1 v2 v3)
    (fun t1 h1 =>
      gg (β := (Int32 × Hp)) (kd h1 v4 = 23) <|
      gg (β := (Int32 × Hp)) (inB (0 : Int32) (ln h1 v4) = true) <|
      if t1 = 0 then
        lt (α := Hp) (β := Option (Int32 × Hp)) (sI h1 v4 (0 : Int32).toNatClampNeg (0 : Int32)) fun (h2 : Hp) =>
        some ((0 : Int32), h2)
      else
        lt (α := Hp) (β := Option (Int32 × Hp)) (sI h1 v4 (0 : Int32).toNatClampNeg (1 : Int32)) fun (h2 : Hp) =>
        some ((0 : Int32), h2))
    (fun k h1 =>
      if k = 1 then some ((1 : Int32), h1) else
      if k = 2 then some ((2 : Int32), h1) else
      none)
set_option maxRecDepth 100000 in
set_option maxHeartbeats 8000000 in
theorem eL_slip {d : Nat} {h : Hp} {v0 : Nat} {v1 : Int32} {v2 : Int32} {v3 : Int32} {v4 : Nat} {r : Int32} {h9 : Hp} (H : ML_slip h v0 v1 v2 v3 v4 = some (r, h9)) : JP (PH hhL_slip) (d + 2 + 1) YL_slip 0 [.ref v0, .int v1, .int v2, .int v3, .ref v4, Value.null] [] h (oI r) h9 := by
  unfold ML_slip at H
  obtain ⟨g1, H⟩ := gd H
  refine J_aload dL_slip_0 rfl ?_
  refine J_iconst (0 : Int32) dL_slip_2 kc_0 ?_
  refine J_aload_n 0 dL_slip_3 rfl rfl ?_
  refine J_iload_n 1 dL_slip_4 rfl rfl ?_
  refine J_iload_n 2 dL_slip_5 rfl rfl ?_
  refine J_iload_n 3 dL_slip_6 rfl rfl ?_
  rcases bC_el H with ⟨t1, h1, e1, H⟩ | ⟨k, h1, e1, H⟩
  · refine J_cV (as := [.int v1, .int v2, .int v3]) 10 YX11_slip 3 dL_slip_7 moX11_slip mvX11_slip mlL_93 g1 rfl rfl (okX11_slip (d := d) e1) rfl rfl [.int (0 : Int32), .ref v4] rfl rfl (st2 := [.int t1, .int (0 : Int32), .ref v4]) rfl ?_
    obtain ⟨g2, H⟩ := gd H
    obtain ⟨g3, H⟩ := gd H
    refine J_if_eq 17 dL_slip_10 rfl (fun q1 => ?_) (fun q1 => ?_)
    · replace H := br1 q1 H
      refine J_lconst' (0 : Int32) dL_slip_17 lc_0 ?_
      obtain ⟨h2, e2, H⟩ := lt_el H
      refine J_lS2 dL_slip_18 g2 (inB_ok g3) e2 ?_
      refine J_goto 30 dL_slip_19 rfl ?_
      cases H
      refine J_iconst (0 : Int32) dL_slip_30 kc_0 ?_
      exact J_iretI dL_slip_31 rfl
    · replace H := br0 q1 H
      refine J_lconst' (1 : Int32) dL_slip_13 lc_1 ?_
      refine J_goto 18 dL_slip_14 rfl ?_
      obtain ⟨h2, e2, H⟩ := lt_el H
      refine J_lS2 dL_slip_18 g2 (inB_ok g3) e2 ?_
      refine J_goto 30 dL_slip_19 rfl ?_
      cases H
      refine J_iconst (0 : Int32) dL_slip_30 kc_0 ?_
      exact J_iretI dL_slip_31 rfl
  · by_cases q1 : k = 1
    · subst q1
      replace H := br1 rfl H
      cases H
      refine J_cVC (as := [.int v1, .int v2, .int v3]) 10 YX11_slip 3 dL_slip_7 moX11_slip mvX11_slip mlL_93 g1 rfl rfl (okX11_slip (d := d) e1) rfl rfl [.int (0 : Int32), .ref v4] rfl rfl (JX_catch (E := 1) (h := h9) [] ⟨0, 19, 22, 13⟩ [⟨0, 19, 26, 15⟩] 5 2 rfl (List.forall_mem_nil _) (by decide) (by decide) clL_13 ca_1 (Or.inl ⟨dL_slip_22, rfl⟩) (by decide) ?_)
      refine J_iconst (1 : Int32) dL_slip_24 kc_1 ?_
      exact J_iretI dL_slip_25 rfl
    replace H := br0 q1 H
    by_cases q2 : k = 2
    · subst q2
      replace H := br1 rfl H
      cases H
      refine J_cVC (as := [.int v1, .int v2, .int v3]) 10 YX11_slip 3 dL_slip_7 moX11_slip mvX11_slip mlL_93 g1 rfl rfl (okX11_slip (d := d) e1) rfl rfl [.int (0 : Int32), .ref v4] rfl rfl (JX_catch (E := 2) (h := h9) [⟨0, 19, 22, 13⟩] ⟨0, 19, 26, 15⟩ [] 5 2 rfl (List.forall_mem_cons.mpr ⟨⟨by decide, 1, clL_13, nc_2_1⟩, List.forall_mem_nil _⟩) (by decide) (by decide) clL_15 ca_2 (Or.inl ⟨dL_slip_26, rfl⟩) (by decide) ?_)
      refine J_iconst (2 : Int32) dL_slip_28 kc_2 ?_
      exact J_iretI dL_slip_29 rfl
    replace H := br0 q2 H
    cases H
theorem okL_slip {d : Nat} {h : Hp} {v0 : Nat} {v1 : Int32} {v2 : Int32} {v3 : Int32} {v4 : Nat} {r : Int32} {h9 : Hp} (H : ML_slip h v0 v1 v2 v3 v4 = some (r, h9)) : CTW (d + 3) YL_slip hhL_slip [.ref v0, .int v1, .int v2, .int v3, .ref v4] h (oI r) h9 := CTW_of (by decide +kernel) (Nat.le_of_ble_eq_true rfl) (eL_slip H)
def YL_read : Mt := (yL_read, cL_read, 5, some .int)
def hhL_read : List (Nat × Nat × Nat × Nat) := [(0, 17, 20, 13)]
theorem moL_read : MOW YL_read hhL_read 4 := ⟨tb7 (List.mem_of_getElem? (i := 97) rfl), tb1 (List.mem_of_getElem? (i := 0) rfl), by decide +kernel, by decide +kernel, by decide⟩
theorem msL_read : Cond.static yL_read ∈ lw_tbl := tb7 (List.mem_of_getElem? (i := 96) rfl)
noncomputable def ML_read (h : Hp) (v0 : Nat) (v1 : Int32) (v2 : Int32) (v3 : Nat) : Option (Int32 × Hp) :=
  gg (β := (Int32 × Hp)) (kd h v0 = 10) <|
  bC (MX11_read h v0 v1 v2)
    (fun t1 h1 =>
      gg (β := (Int32 × Hp)) (kd h1 v3 = 23) <|
      gg (β := (Int32 × Hp)) (inB (0 : Int32) (ln h1 v3) = true) <|
      if t1 = 0 then
        lt (α := Hp) (β := Option (Int32 × Hp)) (sI h1 v3 (0 : Int32).toNatClampNeg (0 : Int32)) fun (h2 : Hp) =>
        some ((0 : Int32), h2)
      else
        lt (α := Hp) (β := Option (Int32 × Hp)) (sI h1 v3 (0 : Int32).toNatClampNeg (1 : Int32)) fun (h2 : Hp) =>
        some ((0 : Int32), h2))
    (fun k h1 =>
      if k = 1 then some ((1 : Int32), h1) else
      none)
set_option maxRecDepth 100000 in
set_option maxHeartbeats 8000000 in
theorem eL_read {d : Nat} {h : Hp} {v0 : Nat} {v1 : Int32} {v2 : Int32} {v3 : Nat} {r : Int32} {h9 : Hp} (H : ML_read h v0 v1 v2 v3 = some (r, h9)) : JP (PH hhL_read) (d + 1 + 1) YL_read 0 [.ref v0, .int v1, .int v2, .ref v3, Value.null] [] h (oI r) h9 := by
  unfold ML_read at H
  obtain ⟨g1, H⟩ := gd H
  refine J_aload_n 3 dL_read_0 rfl rfl ?_
  refine J_iconst (0 : Int32) dL_read_1 kc_0 ?_
  refine J_aload_n 0 dL_read_2 rfl rfl ?_
  refine J_iload_n 1 dL_read_3 rfl rfl ?_
  refine J_iload_n 2 dL_read_4 rfl rfl ?_
  rcases bC_el H with ⟨t1, h1, e1, H⟩ | ⟨k, h1, e1, H⟩
  · refine J_cV (as := [.int v1, .int v2]) 10 YX11_read 2 dL_read_5 moX11_read mvX11_read mlL_97 g1 rfl rfl (okX11_read (d := d) e1) rfl rfl [.int (0 : Int32), .ref v3] rfl rfl (st2 := [.int t1, .int (0 : Int32), .ref v3]) rfl ?_
    obtain ⟨g2, H⟩ := gd H
    obtain ⟨g3, H⟩ := gd H
    refine J_if_eq 15 dL_read_8 rfl (fun q1 => ?_) (fun q1 => ?_)
    · replace H := br1 q1 H
      refine J_lconst' (0 : Int32) dL_read_15 lc_0 ?_
      obtain ⟨h2, e2, H⟩ := lt_el H
      refine J_lS2 dL_read_16 g2 (inB_ok g3) e2 ?_
      refine J_goto 24 dL_read_17 rfl ?_
      cases H
      refine J_iconst (0 : Int32) dL_read_24 kc_0 ?_
      exact J_iretI dL_read_25 rfl
    · replace H := br0 q1 H
      refine J_lconst' (1 : Int32) dL_read_11 lc_1 ?_
      refine J_goto 16 dL_read_12 rfl ?_
      obtain ⟨h2, e2, H⟩ := lt_el H
      refine J_lS2 dL_read_16 g2 (inB_ok g3) e2 ?_
      refine J_goto 24 dL_read_17 rfl ?_
      cases H
      refine J_iconst (0 : Int32) dL_read_24 kc_0 ?_
      exact J_iretI dL_read_25 rfl
  · by_cases q1 : k = 1
    · subst q1
      replace H := br1 rfl H
      cases H
      refine J_cVC (as := [.int v1, .int v2]) 10 YX11_read 2 dL_read_5 moX11_read mvX11_read mlL_97 g1 rfl rfl (okX11_read (d := d) e1) rfl rfl [.int (0 : Int32), .ref v3] rfl rfl (JX_catch (E := 1) (h := h9) [] ⟨0, 17, 20, 13⟩ [] 4 2 rfl (List.forall_mem_nil _) (by decide) (by decide) clL_13 ca_1 (Or.inl ⟨dL_read_20, rfl⟩) (by decide) ?_)
      refine J_iconst (1 : Int32) dL_read_22 kc_1 ?_
      exact J_iretI dL_read_23 rfl
    replace H := br0 q1 H
    cases H
theorem okL_read {d : Nat} {h : Hp} {v0 : Nat} {v1 : Int32} {v2 : Int32} {v3 : Nat} {r : Int32} {h9 : Hp} (H : ML_read h v0 v1 v2 v3 = some (r, h9)) : CTW (d + 2) YL_read hhL_read [.ref v0, .int v1, .int v2, .ref v3] h (oI r) h9 := CTW_of (by decide +kernel) (Nat.le_of_ble_eq_true rfl) (eL_read H)
def YL_proof : Mt := (yL_proof, cL_proof, 4, some .int)
def hhL_proof : List (Nat × Nat × Nat × Nat) := [(0, 9, 12, 30)]
theorem moL_proof : MOW YL_proof hhL_proof 3 := ⟨tb7 (List.mem_of_getElem? (i := 104) rfl), tb1 (List.mem_of_getElem? (i := 0) rfl), by decide +kernel, by decide +kernel, by decide⟩
theorem msL_proof : Cond.static yL_proof ∈ lw_tbl := tb7 (List.mem_of_getElem? (i := 103) rfl)
noncomputable def ML_proof (h : Hp) (v0 : Nat) (v1 : Int32) (v2 : Nat) : Option (Int32 × Hp) :=
  gg (β := (Int32 × Hp)) (kd h v0 = 10) <|
  bC (MX11_proof h v0 v1)
    (fun t1 h1 =>
      gg (β := (Int32 × Hp)) (kd h1 v2 = 23) <|
      gg (β := (Int32 × Hp)) (inB (0 : Int32) (ln h1 v2) = true) <|
      lt (α := Hp) (β := Option (Int32 × Hp)) (sI h1 v2 (0 : Int32).toNatClampNeg t1) fun (h2 : Hp) =>
      some ((0 : Int32), h2))
    (fun k h1 =>
      if k = 4 then some ((1 : Int32), h1) else
      none)
set_option maxRecDepth 100000 in
set_option maxHeartbeats 8000000 in
theorem eL_proof {d : Nat} {h : Hp} {v0 : Nat} {v1 : Int32} {v2 : Nat} {r : Int32} {h9 : Hp} (H : ML_proof h v0 v1 v2 = some (r, h9)) : JP (PH hhL_proof) (d + 4 + 1) YL_proof 0 [.ref v0, .int v1, .ref v2, Value.null] [] h (oI r) h9 := by
  unfold ML_proof at H
  obtain ⟨g1, H⟩ := gd H
  refine J_aload_n 2 dL_proof_0 rfl rfl ?_
  refine J_iconst (0 : Int32) dL_proof_1 kc_0 ?_
  refine J_aload_n 0 dL_proof_2 rfl rfl ?_
  refine J_iload_n 1 dL_proof_3 rfl rfl ?_
  rcases bC_el H with ⟨t1, h1, e1, H⟩ | ⟨k, h1, e1, H⟩
  · refine J_cV (as := [.int v1]) 10 YX11_proof 1 dL_proof_4 moX11_proof mvX11_proof mlL_100 g1 rfl rfl (okX11_proof (d := d) e1) rfl rfl [.int (0 : Int32), .ref v2] rfl rfl (st2 := [.int t1, .int (0 : Int32), .ref v2]) rfl ?_
    obtain ⟨g2, H⟩ := gd H
    obtain ⟨g3, H⟩ := gd H
    refine J_i2l dL_proof_7 ?_
    obtain ⟨h2, e2, H⟩ := lt_el H
    refine J_lS2 dL_proof_8 g2 (inB_ok g3) e2 ?_
    refine J_goto 15 dL_proof_9 rfl ?_
    cases H
    refine J_iconst (0 : Int32) dL_proof_15 kc_0 ?_
    exact J_iretI dL_proof_16 rfl
  · by_cases q4 : k = 4
    · subst q4
      replace H := br1 rfl H
      cases H
      refine J_cVC (as := [.int v1]) 10 YX11_proof 1 dL_proof_4 moX11_proof mvX11_proof mlL_100 g1 rfl rfl (okX11_proof (d := d) e1) rfl rfl [.int (0 : Int32), .ref v2] rfl rfl (JX_catch (E := 4) (h := h9) [] ⟨0, 9, 12, 30⟩ [] 3 1 rfl (List.forall_mem_nil _) (by decide) (by decide) clL_30 ca_4 (Or.inr ⟨_, dL_proof_12, rfl, rfl⟩) (by decide) ?_)
      refine J_iconst (1 : Int32) dL_proof_13 kc_1 ?_
      exact J_iretI dL_proof_14 rfl
    replace H := br0 q4 H
    cases H
theorem okL_proof {d : Nat} {h : Hp} {v0 : Nat} {v1 : Int32} {v2 : Nat} {r : Int32} {h9 : Hp} (H : ML_proof h v0 v1 v2 = some (r, h9)) : CTW (d + 5) YL_proof hhL_proof [.ref v0, .int v1, .ref v2] h (oI r) h9 := CTW_of (by decide +kernel) (Nat.le_of_ble_eq_true rfl) (eL_proof H)
def YL_carry : Mt := (yL_carry, cL_carry, 6, some .int)
def hhL_carry : List (Nat × Nat × Nat × Nat) := [(0, 12, 15, 13), (0, 12, 19, 15)]
theorem moL_carry : MOW YL_carry hhL_carry 5 := ⟨tb7 (List.mem_of_getElem? (i := 120) rfl), tb1 (List.mem_of_getElem? (i := 0) rfl), by decide +kernel, by decide +kernel, by decide⟩
theorem msL_carry : Cond.static yL_carry ∈ lw_tbl := tb7 (List.mem_of_getElem? (i := 119) rfl)
noncomputable def ML_carry (h : Hp) (v0 : Nat) (v1 : Int32) (v2 : Int32) (v3 : Int32) (v4 : Nat) : Option (Int32 × Hp) :=
  gg (β := (Int32 × Hp)) (kd h v0 = 10) <|
  bC (MX11_carry h v0 v1 v2 v3)
    (fun t1 h1 =>
      gg (β := (Int32 × Hp)) (kd h1 v4 = 23) <|
      gg (β := (Int32 × Hp)) (inB (0 : Int32) (ln h1 v4) = true) <|
      lt (α := Hp) (β := Option (Int32 × Hp)) (sI h1 v4 (0 : Int32).toNatClampNeg t1) fun (h2 : Hp) =>
      some ((0 : Int32), h2))
    (fun k h1 =>
      if k = 1 then some ((1 : Int32), h1) else
      if k = 2 then some ((2 : Int32), h1) else
      none)
set_option maxRecDepth 100000 in
set_option maxHeartbeats 8000000 in
theorem eL_carry {d : Nat} {h : Hp} {v0 : Nat} {v1 : Int32} {v2 : Int32} {v3 : Int32} {v4 : Nat} {r : Int32} {h9 : Hp} (H : ML_carry h v0 v1 v2 v3 v4 = some (r, h9)) : JP (PH hhL_carry) (d + 1 + 1) YL_carry 0 [.ref v0, .int v1, .int v2, .int v3, .ref v4, Value.null] [] h (oI r) h9 := by
  unfold ML_carry at H
  obtain ⟨g1, H⟩ := gd H
  refine J_aload dL_carry_0 rfl ?_
  refine J_iconst (0 : Int32) dL_carry_2 kc_0 ?_
  refine J_aload_n 0 dL_carry_3 rfl rfl ?_
  refine J_iload_n 1 dL_carry_4 rfl rfl ?_
  refine J_iload_n 2 dL_carry_5 rfl rfl ?_
  refine J_iload_n 3 dL_carry_6 rfl rfl ?_
  rcases bC_el H with ⟨t1, h1, e1, H⟩ | ⟨k, h1, e1, H⟩
  · refine J_cV (as := [.int v1, .int v2, .int v3]) 10 YX11_carry 3 dL_carry_7 moX11_carry mvX11_carry mlL_103 g1 rfl rfl (okX11_carry (d := d) e1) rfl rfl [.int (0 : Int32), .ref v4] rfl rfl (st2 := [.int t1, .int (0 : Int32), .ref v4]) rfl ?_
    obtain ⟨g2, H⟩ := gd H
    obtain ⟨g3, H⟩ := gd H
    refine J_i2l dL_carry_10 ?_
    obtain ⟨h2, e2, H⟩ := lt_el H
    refine J_lS2 dL_carry_11 g2 (inB_ok g3) e2 ?_
    refine J_goto 23 dL_carry_12 rfl ?_
    cases H
    refine J_iconst (0 : Int32) dL_carry_23 kc_0 ?_
    exact J_iretI dL_carry_24 rfl
  · by_cases q1 : k = 1
    · subst q1
      replace H := br1 rfl H
      cases H
      refine J_cVC (as := [.int v1, .int v2, .int v3]) 10 YX11_carry 3 dL_carry_7 moX11_carry mvX11_carry mlL_103 g1 rfl rfl (okX11_carry (d := d) e1) rfl rfl [.int (0 : Int32), .ref v4] rfl rfl (JX_catch (E := 1) (h := h9) [] ⟨0, 12, 15, 13⟩ [⟨0, 12, 19, 15⟩] 5 2 rfl (List.forall_mem_nil _) (by decide) (by decide) clL_13 ca_1 (Or.inl ⟨dL_carry_15, rfl⟩) (by decide) ?_)
      refine J_iconst (1 : Int32) dL_carry_17 kc_1 ?_
      exact J_iretI dL_carry_18 rfl
    replace H := br0 q1 H
    by_cases q2 : k = 2
    · subst q2
      replace H := br1 rfl H
      cases H
      refine J_cVC (as := [.int v1, .int v2, .int v3]) 10 YX11_carry 3 dL_carry_7 moX11_carry mvX11_carry mlL_103 g1 rfl rfl (okX11_carry (d := d) e1) rfl rfl [.int (0 : Int32), .ref v4] rfl rfl (JX_catch (E := 2) (h := h9) [⟨0, 12, 15, 13⟩] ⟨0, 12, 19, 15⟩ [] 5 2 rfl (List.forall_mem_cons.mpr ⟨⟨by decide, 1, clL_13, nc_2_1⟩, List.forall_mem_nil _⟩) (by decide) (by decide) clL_15 ca_2 (Or.inl ⟨dL_carry_19, rfl⟩) (by decide) ?_)
      refine J_iconst (2 : Int32) dL_carry_21 kc_2 ?_
      exact J_iretI dL_carry_22 rfl
    replace H := br0 q2 H
    cases H
theorem okL_carry {d : Nat} {h : Hp} {v0 : Nat} {v1 : Int32} {v2 : Int32} {v3 : Int32} {v4 : Nat} {r : Int32} {h9 : Hp} (H : ML_carry h v0 v1 v2 v3 v4 = some (r, h9)) : CTW (d + 2) YL_carry hhL_carry [.ref v0, .int v1, .int v2, .int v3, .ref v4] h (oI r) h9 := CTW_of (by decide +kernel) (Nat.le_of_ble_eq_true rfl) (eL_carry H)
def YL_where : Mt := (yL_where, cL_where, 6, some .int)
def hhL_where : List (Nat × Nat × Nat × Nat) := [(0, 12, 15, 13)]
theorem moL_where : MOW YL_where hhL_where 5 := ⟨tb7 (List.mem_of_getElem? (i := 131) rfl), tb1 (List.mem_of_getElem? (i := 0) rfl), by decide +kernel, by decide +kernel, by decide⟩
theorem msL_where : Cond.static yL_where ∈ lw_tbl := tb7 (List.mem_of_getElem? (i := 130) rfl)
noncomputable def ML_where (h : Hp) (v0 : Nat) (v1 : Int32) (v2 : Int32) (v3 : Int32) (v4 : Nat) : Option (Int32 × Hp) :=
  gg (β := (Int32 × Hp)) (kd h v0 = 10) <|
  bC (MX11_where h v0 v1 v2 v3)
    (fun t1 h1 =>
      gg (β := (Int32 × Hp)) (kd h1 v4 = 23) <|
      gg (β := (Int32 × Hp)) (inB (0 : Int32) (ln h1 v4) = true) <|
      lt (α := Hp) (β := Option (Int32 × Hp)) (sI h1 v4 (0 : Int32).toNatClampNeg t1) fun (h2 : Hp) =>
      some ((0 : Int32), h2))
    (fun k h1 =>
      if k = 1 then some ((1 : Int32), h1) else
      none)
set_option maxRecDepth 100000 in
set_option maxHeartbeats 8000000 in
theorem eL_where {d : Nat} {h : Hp} {v0 : Nat} {v1 : Int32} {v2 : Int32} {v3 : Int32} {v4 : Nat} {r : Int32} {h9 : Hp} (H : ML_where h v0 v1 v2 v3 v4 = some (r, h9)) : JP (PH hhL_where) (d + 1 + 1) YL_where 0 [.ref v0, .int v1, .int v2, .int v3, .ref v4, Value.null] [] h (oI r) h9 := by
  unfold ML_where at H
  obtain ⟨g1, H⟩ := gd H
  refine J_aload dL_where_0 rfl ?_
  refine J_iconst (0 : Int32) dL_where_2 kc_0 ?_
  refine J_aload_n 0 dL_where_3 rfl rfl ?_
  refine J_iload_n 1 dL_where_4 rfl rfl ?_
  refine J_iload_n 2 dL_where_5 rfl rfl ?_
  refine J_iload_n 3 dL_where_6 rfl rfl ?_
  rcases bC_el H with ⟨t1, h1, e1, H⟩ | ⟨k, h1, e1, H⟩
  · refine J_cV (as := [.int v1, .int v2, .int v3]) 10 YX11_where 3 dL_where_7 moX11_where mvX11_where mlL_106 g1 rfl rfl (okX11_where (d := d) e1) rfl rfl [.int (0 : Int32), .ref v4] rfl rfl (st2 := [.int t1, .int (0 : Int32), .ref v4]) rfl ?_
    obtain ⟨g2, H⟩ := gd H
    obtain ⟨g3, H⟩ := gd H
    refine J_i2l dL_where_10 ?_
    obtain ⟨h2, e2, H⟩ := lt_el H
    refine J_lS2 dL_where_11 g2 (inB_ok g3) e2 ?_
    refine J_goto 19 dL_where_12 rfl ?_
    cases H
    refine J_iconst (0 : Int32) dL_where_19 kc_0 ?_
    exact J_iretI dL_where_20 rfl
  · by_cases q1 : k = 1
    · subst q1
      replace H := br1 rfl H
      cases H
      refine J_cVC (as := [.int v1, .int v2, .int v3]) 10 YX11_where 3 dL_where_7 moX11_where mvX11_where mlL_106 g1 rfl rfl (okX11_where (d := d) e1) rfl rfl [.int (0 : Int32), .ref v4] rfl rfl (JX_catch (E := 1) (h := h9) [] ⟨0, 12, 15, 13⟩ [] 5 2 rfl (List.forall_mem_nil _) (by decide) (by decide) clL_13 ca_1 (Or.inl ⟨dL_where_15, rfl⟩) (by decide) ?_)
      refine J_iconst (1 : Int32) dL_where_17 kc_1 ?_
      exact J_iretI dL_where_18 rfl
    replace H := br0 q1 H
    cases H
theorem okL_where {d : Nat} {h : Hp} {v0 : Nat} {v1 : Int32} {v2 : Int32} {v3 : Int32} {v4 : Nat} {r : Int32} {h9 : Hp} (H : ML_where h v0 v1 v2 v3 v4 = some (r, h9)) : CTW (d + 2) YL_where hhL_where [.ref v0, .int v1, .int v2, .int v3, .ref v4] h (oI r) h9 := CTW_of (by decide +kernel) (Nat.le_of_ble_eq_true rfl) (eL_where H)
def YL_page : Mt := (yL_page, cL_page, 5, some .int)
def hhL_page : List (Nat × Nat × Nat × Nat) := [(0, 7, 10, 13), (0, 7, 14, 15)]
theorem moL_page : MOW YL_page hhL_page 4 := ⟨tb7 (List.mem_of_getElem? (i := 142) rfl), tb1 (List.mem_of_getElem? (i := 0) rfl), by decide +kernel, by decide +kernel, by decide⟩
theorem msL_page : Cond.static yL_page ∈ lw_tbl := tb7 (List.mem_of_getElem? (i := 141) rfl)
noncomputable def ML_page (h : Hp) (v0 : Nat) (v1 : Int32) (v2 : Int32) (v3 : Int32) : Option (Int32 × Hp) :=
  gg (β := (Int32 × Hp)) (kd h v0 = 10) <|
  bC (MX11_page h v0 v1 v2 v3)
    (fun t1 h1 =>
      some ((0 : Int32), h1))
    (fun k h1 =>
      if k = 1 then some ((1 : Int32), h1) else
      if k = 2 then some ((2 : Int32), h1) else
      none)
set_option maxRecDepth 100000 in
set_option maxHeartbeats 8000000 in
theorem eL_page {d : Nat} {h : Hp} {v0 : Nat} {v1 : Int32} {v2 : Int32} {v3 : Int32} {r : Int32} {h9 : Hp} (H : ML_page h v0 v1 v2 v3 = some (r, h9)) : JP (PH hhL_page) (d + 1 + 1) YL_page 0 [.ref v0, .int v1, .int v2, .int v3, Value.null] [] h (oI r) h9 := by
  unfold ML_page at H
  obtain ⟨g1, H⟩ := gd H
  refine J_aload_n 0 dL_page_0 rfl rfl ?_
  refine J_iload_n 1 dL_page_1 rfl rfl ?_
  refine J_iload_n 2 dL_page_2 rfl rfl ?_
  refine J_iload_n 3 dL_page_3 rfl rfl ?_
  rcases bC_el H with ⟨t1, h1, e1, H⟩ | ⟨k, h1, e1, H⟩
  · refine J_cV (as := [.int v1, .int v2, .int v3]) 10 YX11_page 3 dL_page_4 moX11_page mvX11_page mlL_109 g1 rfl rfl (okX11_page (d := d) e1) rfl rfl [] rfl rfl (st2 := []) rfl ?_
    refine J_goto 18 dL_page_7 rfl ?_
    cases H
    refine J_iconst (0 : Int32) dL_page_18 kc_0 ?_
    exact J_iretI dL_page_19 rfl
  · by_cases q1 : k = 1
    · subst q1
      replace H := br1 rfl H
      cases H
      refine J_cVC (as := [.int v1, .int v2, .int v3]) 10 YX11_page 3 dL_page_4 moX11_page mvX11_page mlL_109 g1 rfl rfl (okX11_page (d := d) e1) rfl rfl [] rfl rfl (JX_catch (E := 1) (h := h9) [] ⟨0, 7, 10, 13⟩ [⟨0, 7, 14, 15⟩] 4 2 rfl (List.forall_mem_nil _) (by decide) (by decide) clL_13 ca_1 (Or.inl ⟨dL_page_10, rfl⟩) (by decide) ?_)
      refine J_iconst (1 : Int32) dL_page_12 kc_1 ?_
      exact J_iretI dL_page_13 rfl
    replace H := br0 q1 H
    by_cases q2 : k = 2
    · subst q2
      replace H := br1 rfl H
      cases H
      refine J_cVC (as := [.int v1, .int v2, .int v3]) 10 YX11_page 3 dL_page_4 moX11_page mvX11_page mlL_109 g1 rfl rfl (okX11_page (d := d) e1) rfl rfl [] rfl rfl (JX_catch (E := 2) (h := h9) [⟨0, 7, 10, 13⟩] ⟨0, 7, 14, 15⟩ [] 4 2 rfl (List.forall_mem_cons.mpr ⟨⟨by decide, 1, clL_13, nc_2_1⟩, List.forall_mem_nil _⟩) (by decide) (by decide) clL_15 ca_2 (Or.inl ⟨dL_page_14, rfl⟩) (by decide) ?_)
      refine J_iconst (2 : Int32) dL_page_16 kc_2 ?_
      exact J_iretI dL_page_17 rfl
    replace H := br0 q2 H
    cases H
theorem okL_page {d : Nat} {h : Hp} {v0 : Nat} {v1 : Int32} {v2 : Int32} {v3 : Int32} {r : Int32} {h9 : Hp} (H : ML_page h v0 v1 v2 v3 = some (r, h9)) : CTW (d + 2) YL_page hhL_page [.ref v0, .int v1, .int v2, .int v3] h (oI r) h9 := CTW_of (by decide +kernel) (Nat.le_of_ble_eq_true rfl) (eL_page H)
def YL_fit : Mt := (yL_fit, cL_fit, 5, some .int)
def hhL_fit : List (Nat × Nat × Nat × Nat) := [(0, 10, 13, 13), (0, 10, 17, 15), (0, 10, 21, 74)]
theorem moL_fit : MOW YL_fit hhL_fit 4 := ⟨tb7 (List.mem_of_getElem? (i := 152) rfl), tb1 (List.mem_of_getElem? (i := 0) rfl), by decide +kernel, by decide +kernel, by decide⟩
theorem msL_fit : Cond.static yL_fit ∈ lw_tbl := tb7 (List.mem_of_getElem? (i := 151) rfl)
noncomputable def ML_fit (h : Hp) (v0 : Nat) (v1 : Int32) (v2 : Int32) (v3 : Nat) : Option (Int32 × Hp) :=
  gg (β := (Int32 × Hp)) (kd h v0 = 10) <|
  bC (MX11_fit h v0 v1 v2)
    (fun t1 h1 =>
      gg (β := (Int32 × Hp)) (kd h1 v3 = 23) <|
      gg (β := (Int32 × Hp)) (inB (0 : Int32) (ln h1 v3) = true) <|
      lt (α := Hp) (β := Option (Int32 × Hp)) (sI h1 v3 (0 : Int32).toNatClampNeg t1) fun (h2 : Hp) =>
      some ((0 : Int32), h2))
    (fun k h1 =>
      if k = 1 then some ((1 : Int32), h1) else
      if k = 2 then some ((2 : Int32), h1) else
      if k = 5 then some ((3 : Int32), h1) else
      none)
set_option maxRecDepth 100000 in
set_option maxHeartbeats 8000000 in
theorem eL_fit {d : Nat} {h : Hp} {v0 : Nat} {v1 : Int32} {v2 : Int32} {v3 : Nat} {r : Int32} {h9 : Hp} (H : ML_fit h v0 v1 v2 v3 = some (r, h9)) : JP (PH hhL_fit) (d + 63 + 1) YL_fit 0 [.ref v0, .int v1, .int v2, .ref v3, Value.null] [] h (oI r) h9 := by
  unfold ML_fit at H
  obtain ⟨g1, H⟩ := gd H
  refine J_aload_n 3 dL_fit_0 rfl rfl ?_
  refine J_iconst (0 : Int32) dL_fit_1 kc_0 ?_
  refine J_aload_n 0 dL_fit_2 rfl rfl ?_
  refine J_iload_n 1 dL_fit_3 rfl rfl ?_
  refine J_iload_n 2 dL_fit_4 rfl rfl ?_
  rcases bC_el H with ⟨t1, h1, e1, H⟩ | ⟨k, h1, e1, H⟩
  · refine J_cV (as := [.int v1, .int v2]) 10 YX11_fit 2 dL_fit_5 moX11_fit mvX11_fit mlL_112 g1 rfl rfl (okX11_fit (d := d) e1) rfl rfl [.int (0 : Int32), .ref v3] rfl rfl (st2 := [.int t1, .int (0 : Int32), .ref v3]) rfl ?_
    obtain ⟨g2, H⟩ := gd H
    obtain ⟨g3, H⟩ := gd H
    refine J_i2l dL_fit_8 ?_
    obtain ⟨h2, e2, H⟩ := lt_el H
    refine J_lS2 dL_fit_9 g2 (inB_ok g3) e2 ?_
    refine J_goto 25 dL_fit_10 rfl ?_
    cases H
    refine J_iconst (0 : Int32) dL_fit_25 kc_0 ?_
    exact J_iretI dL_fit_26 rfl
  · by_cases q1 : k = 1
    · subst q1
      replace H := br1 rfl H
      cases H
      refine J_cVC (as := [.int v1, .int v2]) 10 YX11_fit 2 dL_fit_5 moX11_fit mvX11_fit mlL_112 g1 rfl rfl (okX11_fit (d := d) e1) rfl rfl [.int (0 : Int32), .ref v3] rfl rfl (JX_catch (E := 1) (h := h9) [] ⟨0, 10, 13, 13⟩ [⟨0, 10, 17, 15⟩, ⟨0, 10, 21, 74⟩] 4 2 rfl (List.forall_mem_nil _) (by decide) (by decide) clL_13 ca_1 (Or.inl ⟨dL_fit_13, rfl⟩) (by decide) ?_)
      refine J_iconst (1 : Int32) dL_fit_15 kc_1 ?_
      exact J_iretI dL_fit_16 rfl
    replace H := br0 q1 H
    by_cases q2 : k = 2
    · subst q2
      replace H := br1 rfl H
      cases H
      refine J_cVC (as := [.int v1, .int v2]) 10 YX11_fit 2 dL_fit_5 moX11_fit mvX11_fit mlL_112 g1 rfl rfl (okX11_fit (d := d) e1) rfl rfl [.int (0 : Int32), .ref v3] rfl rfl (JX_catch (E := 2) (h := h9) [⟨0, 10, 13, 13⟩] ⟨0, 10, 17, 15⟩ [⟨0, 10, 21, 74⟩] 4 2 rfl (List.forall_mem_cons.mpr ⟨⟨by decide, 1, clL_13, nc_2_1⟩, List.forall_mem_nil _⟩) (by decide) (by decide) clL_15 ca_2 (Or.inl ⟨dL_fit_17, rfl⟩) (by decide) ?_)
      refine J_iconst (2 : Int32) dL_fit_19 kc_2 ?_
      exact J_iretI dL_fit_20 rfl
    replace H := br0 q2 H
    by_cases q5 : k = 5
    · subst q5
      replace H := br1 rfl H
      cases H
      refine J_cVC (as := [.int v1, .int v2]) 10 YX11_fit 2 dL_fit_5 moX11_fit mvX11_fit mlL_112 g1 rfl rfl (okX11_fit (d := d) e1) rfl rfl [.int (0 : Int32), .ref v3] rfl rfl (JX_catch (E := 5) (h := h9) [⟨0, 10, 13, 13⟩, ⟨0, 10, 17, 15⟩] ⟨0, 10, 21, 74⟩ [] 4 2 rfl (List.forall_mem_cons.mpr ⟨⟨by decide, 1, clL_13, nc_5_1⟩, List.forall_mem_cons.mpr ⟨⟨by decide, 2, clL_15, nc_5_2⟩, List.forall_mem_nil _⟩⟩) (by decide) (by decide) clL_74 ca_5 (Or.inl ⟨dL_fit_21, rfl⟩) (by decide) ?_)
      refine J_iconst (3 : Int32) dL_fit_23 kc_3 ?_
      exact J_iretI dL_fit_24 rfl
    replace H := br0 q5 H
    cases H
theorem okL_fit {d : Nat} {h : Hp} {v0 : Nat} {v1 : Int32} {v2 : Int32} {v3 : Nat} {r : Int32} {h9 : Hp} (H : ML_fit h v0 v1 v2 v3 = some (r, h9)) : CTW (d + 64) YL_fit hhL_fit [.ref v0, .int v1, .int v2, .ref v3] h (oI r) h9 := CTW_of (by decide +kernel) (Nat.le_of_ble_eq_true rfl) (eL_fit H)
def YL_fits : Mt := (yL_fits, cL_fits, 7, some .int)
def hhL_fits : List (Nat × Nat × Nat × Nat) := [(0, 14, 17, 13), (0, 14, 21, 15), (0, 14, 25, 74)]
theorem moL_fits : MOW YL_fits hhL_fits 6 := ⟨tb7 (List.mem_of_getElem? (i := 196) rfl), tb1 (List.mem_of_getElem? (i := 0) rfl), by decide +kernel, by decide +kernel, by decide⟩
theorem msL_fits : Cond.static yL_fits ∈ lw_tbl := tb7 (List.mem_of_getElem? (i := 195) rfl)
noncomputable def ML_fits (h : Hp) (v0 : Nat) (v1 : Int32) (v2 : Int32) (v3 : Int32) (v4 : Int32) (v5 : Nat) : Option (Int32 × Hp) :=
  gg (β := (Int32 × Hp)) (kd h v0 = 10) <|
  bC (MX11_fits h v0 v1 v2 v3 v4)
    (fun t1 h1 =>
      gg (β := (Int32 × Hp)) (kd h1 v5 = 23) <|
      gg (β := (Int32 × Hp)) (inB (0 : Int32) (ln h1 v5) = true) <|
      lt (α := Hp) (β := Option (Int32 × Hp)) (sI h1 v5 (0 : Int32).toNatClampNeg t1) fun (h2 : Hp) =>
      some ((0 : Int32), h2))
    (fun k h1 =>
      if k = 1 then some ((1 : Int32), h1) else
      if k = 2 then some ((2 : Int32), h1) else
      if k = 5 then some ((3 : Int32), h1) else
      none)
set_option maxRecDepth 100000 in
set_option maxHeartbeats 8000000 in
theorem eL_fits {d : Nat} {h : Hp} {v0 : Nat} {v1 : Int32} {v2 : Int32} {v3 : Int32} {v4 : Int32} {v5 : Nat} {r : Int32} {h9 : Hp} (H : ML_fits h v0 v1 v2 v3 v4 v5 = some (r, h9)) : JP (PH hhL_fits) (d + 63 + 1) YL_fits 0 [.ref v0, .int v1, .int v2, .int v3, .int v4, .ref v5, Value.null] [] h (oI r) h9 := by
  unfold ML_fits at H
  obtain ⟨g1, H⟩ := gd H
  refine J_aload dL_fits_0 rfl ?_
  refine J_iconst (0 : Int32) dL_fits_2 kc_0 ?_
  refine J_aload_n 0 dL_fits_3 rfl rfl ?_
  refine J_iload_n 1 dL_fits_4 rfl rfl ?_
  refine J_iload_n 2 dL_fits_5 rfl rfl ?_
  refine J_iload_n 3 dL_fits_6 rfl rfl ?_
  refine J_iload dL_fits_7 rfl ?_
  rcases bC_el H with ⟨t1, h1, e1, H⟩ | ⟨k, h1, e1, H⟩
  · refine J_cV (as := [.int v1, .int v2, .int v3, .int v4]) 10 YX11_fits 4 dL_fits_9 moX11_fits mvX11_fits mlL_115 g1 rfl rfl (okX11_fits (d := d) e1) rfl rfl [.int (0 : Int32), .ref v5] rfl rfl (st2 := [.int t1, .int (0 : Int32), .ref v5]) rfl ?_
    obtain ⟨g2, H⟩ := gd H
    obtain ⟨g3, H⟩ := gd H
    refine J_i2l dL_fits_12 ?_
    obtain ⟨h2, e2, H⟩ := lt_el H
    refine J_lS2 dL_fits_13 g2 (inB_ok g3) e2 ?_
    refine J_goto 29 dL_fits_14 rfl ?_
    cases H
    refine J_iconst (0 : Int32) dL_fits_29 kc_0 ?_
    exact J_iretI dL_fits_30 rfl
  · by_cases q1 : k = 1
    · subst q1
      replace H := br1 rfl H
      cases H
      refine J_cVC (as := [.int v1, .int v2, .int v3, .int v4]) 10 YX11_fits 4 dL_fits_9 moX11_fits mvX11_fits mlL_115 g1 rfl rfl (okX11_fits (d := d) e1) rfl rfl [.int (0 : Int32), .ref v5] rfl rfl (JX_catch (E := 1) (h := h9) [] ⟨0, 14, 17, 13⟩ [⟨0, 14, 21, 15⟩, ⟨0, 14, 25, 74⟩] 6 2 rfl (List.forall_mem_nil _) (by decide) (by decide) clL_13 ca_1 (Or.inl ⟨dL_fits_17, rfl⟩) (by decide) ?_)
      refine J_iconst (1 : Int32) dL_fits_19 kc_1 ?_
      exact J_iretI dL_fits_20 rfl
    replace H := br0 q1 H
    by_cases q2 : k = 2
    · subst q2
      replace H := br1 rfl H
      cases H
      refine J_cVC (as := [.int v1, .int v2, .int v3, .int v4]) 10 YX11_fits 4 dL_fits_9 moX11_fits mvX11_fits mlL_115 g1 rfl rfl (okX11_fits (d := d) e1) rfl rfl [.int (0 : Int32), .ref v5] rfl rfl (JX_catch (E := 2) (h := h9) [⟨0, 14, 17, 13⟩] ⟨0, 14, 21, 15⟩ [⟨0, 14, 25, 74⟩] 6 2 rfl (List.forall_mem_cons.mpr ⟨⟨by decide, 1, clL_13, nc_2_1⟩, List.forall_mem_nil _⟩) (by decide) (by decide) clL_15 ca_2 (Or.inl ⟨dL_fits_21, rfl⟩) (by decide) ?_)
      refine J_iconst (2 : Int32) dL_fits_23 kc_2 ?_
      exact J_iretI dL_fits_24 rfl
    replace H := br0 q2 H
    by_cases q5 : k = 5
    · subst q5
      replace H := br1 rfl H
      cases H
      refine J_cVC (as := [.int v1, .int v2, .int v3, .int v4]) 10 YX11_fits 4 dL_fits_9 moX11_fits mvX11_fits mlL_115 g1 rfl rfl (okX11_fits (d := d) e1) rfl rfl [.int (0 : Int32), .ref v5] rfl rfl (JX_catch (E := 5) (h := h9) [⟨0, 14, 17, 13⟩, ⟨0, 14, 21, 15⟩] ⟨0, 14, 25, 74⟩ [] 6 2 rfl (List.forall_mem_cons.mpr ⟨⟨by decide, 1, clL_13, nc_5_1⟩, List.forall_mem_cons.mpr ⟨⟨by decide, 2, clL_15, nc_5_2⟩, List.forall_mem_nil _⟩⟩) (by decide) (by decide) clL_74 ca_5 (Or.inl ⟨dL_fits_25, rfl⟩) (by decide) ?_)
      refine J_iconst (3 : Int32) dL_fits_27 kc_3 ?_
      exact J_iretI dL_fits_28 rfl
    replace H := br0 q5 H
    cases H
theorem okL_fits {d : Nat} {h : Hp} {v0 : Nat} {v1 : Int32} {v2 : Int32} {v3 : Int32} {v4 : Int32} {v5 : Nat} {r : Int32} {h9 : Hp} (H : ML_fits h v0 v1 v2 v3 v4 v5 = some (r, h9)) : CTW (d + 64) YL_fits hhL_fits [.ref v0, .int v1, .int v2, .int v3, .int v4, .ref v5] h (oI r) h9 := CTW_of (by decide +kernel) (Nat.le_of_ble_eq_true rfl) (eL_fits H)
def YL_lock : Mt := (yL_lock, cL_lock, 5, some .int)
def hhL_lock : List (Nat × Nat × Nat × Nat) := [(0, 10, 13, 13), (0, 10, 17, 15), (0, 10, 21, 74)]
theorem moL_lock : MOW YL_lock hhL_lock 4 := ⟨tb7 (List.mem_of_getElem? (i := 207) rfl), tb1 (List.mem_of_getElem? (i := 0) rfl), by decide +kernel, by decide +kernel, by decide⟩
theorem msL_lock : Cond.static yL_lock ∈ lw_tbl := tb7 (List.mem_of_getElem? (i := 206) rfl)
noncomputable def ML_lock (h : Hp) (v0 : Nat) (v1 : Int32) (v2 : Int32) (v3 : Nat) : Option (Int32 × Hp) :=
  gg (β := (Int32 × Hp)) (kd h v0 = 10) <|
  bC (MX11_lock h v0 v1 v2)
    (fun t1 h1 =>
      gg (β := (Int32 × Hp)) (kd h1 v3 = 23) <|
      gg (β := (Int32 × Hp)) (inB (0 : Int32) (ln h1 v3) = true) <|
      lt (α := Hp) (β := Option (Int32 × Hp)) (sI h1 v3 (0 : Int32).toNatClampNeg t1) fun (h2 : Hp) =>
      some ((0 : Int32), h2))
    (fun k h1 =>
      if k = 1 then some ((1 : Int32), h1) else
      if k = 2 then some ((2 : Int32), h1) else
      if k = 5 then some ((3 : Int32), h1) else
      none)
set_option maxRecDepth 100000 in
set_option maxHeartbeats 8000000 in
theorem eL_lock {d : Nat} {h : Hp} {v0 : Nat} {v1 : Int32} {v2 : Int32} {v3 : Nat} {r : Int32} {h9 : Hp} (H : ML_lock h v0 v1 v2 v3 = some (r, h9)) : JP (PH hhL_lock) (d + 63 + 1) YL_lock 0 [.ref v0, .int v1, .int v2, .ref v3, Value.null] [] h (oI r) h9 := by
  unfold ML_lock at H
  obtain ⟨g1, H⟩ := gd H
  refine J_aload_n 3 dL_lock_0 rfl rfl ?_
  refine J_iconst (0 : Int32) dL_lock_1 kc_0 ?_
  refine J_aload_n 0 dL_lock_2 rfl rfl ?_
  refine J_iload_n 1 dL_lock_3 rfl rfl ?_
  refine J_iload_n 2 dL_lock_4 rfl rfl ?_
  rcases bC_el H with ⟨t1, h1, e1, H⟩ | ⟨k, h1, e1, H⟩
  · refine J_cV (as := [.int v1, .int v2]) 10 YX11_lock 2 dL_lock_5 moX11_lock mvX11_lock mlL_119 g1 rfl rfl (okX11_lock (d := d) e1) rfl rfl [.int (0 : Int32), .ref v3] rfl rfl (st2 := [.int t1, .int (0 : Int32), .ref v3]) rfl ?_
    obtain ⟨g2, H⟩ := gd H
    obtain ⟨g3, H⟩ := gd H
    refine J_i2l dL_lock_8 ?_
    obtain ⟨h2, e2, H⟩ := lt_el H
    refine J_lS2 dL_lock_9 g2 (inB_ok g3) e2 ?_
    refine J_goto 25 dL_lock_10 rfl ?_
    cases H
    refine J_iconst (0 : Int32) dL_lock_25 kc_0 ?_
    exact J_iretI dL_lock_26 rfl
  · by_cases q1 : k = 1
    · subst q1
      replace H := br1 rfl H
      cases H
      refine J_cVC (as := [.int v1, .int v2]) 10 YX11_lock 2 dL_lock_5 moX11_lock mvX11_lock mlL_119 g1 rfl rfl (okX11_lock (d := d) e1) rfl rfl [.int (0 : Int32), .ref v3] rfl rfl (JX_catch (E := 1) (h := h9) [] ⟨0, 10, 13, 13⟩ [⟨0, 10, 17, 15⟩, ⟨0, 10, 21, 74⟩] 4 2 rfl (List.forall_mem_nil _) (by decide) (by decide) clL_13 ca_1 (Or.inl ⟨dL_lock_13, rfl⟩) (by decide) ?_)
      refine J_iconst (1 : Int32) dL_lock_15 kc_1 ?_
      exact J_iretI dL_lock_16 rfl
    replace H := br0 q1 H
    by_cases q2 : k = 2
    · subst q2
      replace H := br1 rfl H
      cases H
      refine J_cVC (as := [.int v1, .int v2]) 10 YX11_lock 2 dL_lock_5 moX11_lock mvX11_lock mlL_119 g1 rfl rfl (okX11_lock (d := d) e1) rfl rfl [.int (0 : Int32), .ref v3] rfl rfl (JX_catch (E := 2) (h := h9) [⟨0, 10, 13, 13⟩] ⟨0, 10, 17, 15⟩ [⟨0, 10, 21, 74⟩] 4 2 rfl (List.forall_mem_cons.mpr ⟨⟨by decide, 1, clL_13, nc_2_1⟩, List.forall_mem_nil _⟩) (by decide) (by decide) clL_15 ca_2 (Or.inl ⟨dL_lock_17, rfl⟩) (by decide) ?_)
      refine J_iconst (2 : Int32) dL_lock_19 kc_2 ?_
      exact J_iretI dL_lock_20 rfl
    replace H := br0 q2 H
    by_cases q5 : k = 5
    · subst q5
      replace H := br1 rfl H
      cases H
      refine J_cVC (as := [.int v1, .int v2]) 10 YX11_lock 2 dL_lock_5 moX11_lock mvX11_lock mlL_119 g1 rfl rfl (okX11_lock (d := d) e1) rfl rfl [.int (0 : Int32), .ref v3] rfl rfl (JX_catch (E := 5) (h := h9) [⟨0, 10, 13, 13⟩, ⟨0, 10, 17, 15⟩] ⟨0, 10, 21, 74⟩ [] 4 2 rfl (List.forall_mem_cons.mpr ⟨⟨by decide, 1, clL_13, nc_5_1⟩, List.forall_mem_cons.mpr ⟨⟨by decide, 2, clL_15, nc_5_2⟩, List.forall_mem_nil _⟩⟩) (by decide) (by decide) clL_74 ca_5 (Or.inl ⟨dL_lock_21, rfl⟩) (by decide) ?_)
      refine J_iconst (3 : Int32) dL_lock_23 kc_3 ?_
      exact J_iretI dL_lock_24 rfl
    replace H := br0 q5 H
    cases H
theorem okL_lock {d : Nat} {h : Hp} {v0 : Nat} {v1 : Int32} {v2 : Int32} {v3 : Nat} {r : Int32} {h9 : Hp} (H : ML_lock h v0 v1 v2 v3 = some (r, h9)) : CTW (d + 64) YL_lock hhL_lock [.ref v0, .int v1, .int v2, .ref v3] h (oI r) h9 := CTW_of (by decide +kernel) (Nat.le_of_ble_eq_true rfl) (eL_lock H)
def YL_locked : Mt := (yL_locked, cL_locked, 5, some .int)
def hhL_locked : List (Nat × Nat × Nat × Nat) := [(0, 10, 13, 13), (0, 10, 17, 30)]
theorem moL_locked : MOW YL_locked hhL_locked 4 := ⟨tb7 (List.mem_of_getElem? (i := 239) rfl), tb1 (List.mem_of_getElem? (i := 0) rfl), by decide +kernel, by decide +kernel, by decide⟩
theorem msL_locked : Cond.static yL_locked ∈ lw_tbl := tb7 (List.mem_of_getElem? (i := 238) rfl)
noncomputable def ML_locked (h : Hp) (v0 : Nat) (v1 : Int32) (v2 : Int32) (v3 : Nat) : Option (Int32 × Hp) :=
  gg (β := (Int32 × Hp)) (kd h v0 = 10) <|
  bC (MX11_locked h v0 v1 v2)
    (fun t1 h1 =>
      gg (β := (Int32 × Hp)) (kd h1 v3 = 23) <|
      gg (β := (Int32 × Hp)) (inB (0 : Int32) (ln h1 v3) = true) <|
      lt (α := Hp) (β := Option (Int32 × Hp)) (sI h1 v3 (0 : Int32).toNatClampNeg t1) fun (h2 : Hp) =>
      some ((0 : Int32), h2))
    (fun k h1 =>
      if k = 1 then some ((1 : Int32), h1) else
      if k = 4 then some ((2 : Int32), h1) else
      none)
set_option maxRecDepth 100000 in
set_option maxHeartbeats 8000000 in
theorem eL_locked {d : Nat} {h : Hp} {v0 : Nat} {v1 : Int32} {v2 : Int32} {v3 : Nat} {r : Int32} {h9 : Hp} (H : ML_locked h v0 v1 v2 v3 = some (r, h9)) : JP (PH hhL_locked) (d + 1 + 1) YL_locked 0 [.ref v0, .int v1, .int v2, .ref v3, Value.null] [] h (oI r) h9 := by
  unfold ML_locked at H
  obtain ⟨g1, H⟩ := gd H
  refine J_aload_n 3 dL_locked_0 rfl rfl ?_
  refine J_iconst (0 : Int32) dL_locked_1 kc_0 ?_
  refine J_aload_n 0 dL_locked_2 rfl rfl ?_
  refine J_iload_n 1 dL_locked_3 rfl rfl ?_
  refine J_iload_n 2 dL_locked_4 rfl rfl ?_
  rcases bC_el H with ⟨t1, h1, e1, H⟩ | ⟨k, h1, e1, H⟩
  · refine J_cV (as := [.int v1, .int v2]) 10 YX11_locked 2 dL_locked_5 moX11_locked mvX11_locked mlL_122 g1 rfl rfl (okX11_locked (d := d) e1) rfl rfl [.int (0 : Int32), .ref v3] rfl rfl (st2 := [.int t1, .int (0 : Int32), .ref v3]) rfl ?_
    obtain ⟨g2, H⟩ := gd H
    obtain ⟨g3, H⟩ := gd H
    refine J_i2l dL_locked_8 ?_
    obtain ⟨h2, e2, H⟩ := lt_el H
    refine J_lS2 dL_locked_9 g2 (inB_ok g3) e2 ?_
    refine J_goto 21 dL_locked_10 rfl ?_
    cases H
    refine J_iconst (0 : Int32) dL_locked_21 kc_0 ?_
    exact J_iretI dL_locked_22 rfl
  · by_cases q1 : k = 1
    · subst q1
      replace H := br1 rfl H
      cases H
      refine J_cVC (as := [.int v1, .int v2]) 10 YX11_locked 2 dL_locked_5 moX11_locked mvX11_locked mlL_122 g1 rfl rfl (okX11_locked (d := d) e1) rfl rfl [.int (0 : Int32), .ref v3] rfl rfl (JX_catch (E := 1) (h := h9) [] ⟨0, 10, 13, 13⟩ [⟨0, 10, 17, 30⟩] 4 2 rfl (List.forall_mem_nil _) (by decide) (by decide) clL_13 ca_1 (Or.inl ⟨dL_locked_13, rfl⟩) (by decide) ?_)
      refine J_iconst (1 : Int32) dL_locked_15 kc_1 ?_
      exact J_iretI dL_locked_16 rfl
    replace H := br0 q1 H
    by_cases q4 : k = 4
    · subst q4
      replace H := br1 rfl H
      cases H
      refine J_cVC (as := [.int v1, .int v2]) 10 YX11_locked 2 dL_locked_5 moX11_locked mvX11_locked mlL_122 g1 rfl rfl (okX11_locked (d := d) e1) rfl rfl [.int (0 : Int32), .ref v3] rfl rfl (JX_catch (E := 4) (h := h9) [⟨0, 10, 13, 13⟩] ⟨0, 10, 17, 30⟩ [] 4 2 rfl (List.forall_mem_cons.mpr ⟨⟨by decide, 1, clL_13, nc_4_1⟩, List.forall_mem_nil _⟩) (by decide) (by decide) clL_30 ca_4 (Or.inl ⟨dL_locked_17, rfl⟩) (by decide) ?_)
      refine J_iconst (2 : Int32) dL_locked_19 kc_2 ?_
      exact J_iretI dL_locked_20 rfl
    replace H := br0 q4 H
    cases H
theorem okL_locked {d : Nat} {h : Hp} {v0 : Nat} {v1 : Int32} {v2 : Int32} {v3 : Nat} {r : Int32} {h9 : Hp} (H : ML_locked h v0 v1 v2 v3 = some (r, h9)) : CTW (d + 2) YL_locked hhL_locked [.ref v0, .int v1, .int v2, .ref v3] h (oI r) h9 := CTW_of (by decide +kernel) (Nat.le_of_ble_eq_true rfl) (eL_locked H)
def YL_stands : Mt := (yL_stands, cL_stands, 6, some .int)
def hhL_stands : List (Nat × Nat × Nat × Nat) := [(0, 12, 15, 13)]
theorem moL_stands : MOW YL_stands hhL_stands 5 := ⟨tb8 (List.mem_of_getElem? (i := 6) rfl), tb1 (List.mem_of_getElem? (i := 0) rfl), by decide +kernel, by decide +kernel, by decide⟩
theorem msL_stands : Cond.static yL_stands ∈ lw_tbl := tb8 (List.mem_of_getElem? (i := 5) rfl)
noncomputable def ML_stands (h : Hp) (v0 : Nat) (v1 : Int32) (v2 : Int32) (v3 : Int32) (v4 : Nat) : Option (Int32 × Hp) :=
  gg (β := (Int32 × Hp)) (kd h v0 = 10) <|
  bC (MX11_stands h v0 v1 v2 v3)
    (fun t1 h1 =>
      gg (β := (Int32 × Hp)) (kd h1 v4 = 23) <|
      gg (β := (Int32 × Hp)) (inB (0 : Int32) (ln h1 v4) = true) <|
      lt (α := Hp) (β := Option (Int32 × Hp)) (sI h1 v4 (0 : Int32).toNatClampNeg t1) fun (h2 : Hp) =>
      some ((0 : Int32), h2))
    (fun k h1 =>
      if k = 1 then some ((1 : Int32), h1) else
      none)
set_option maxRecDepth 100000 in
set_option maxHeartbeats 8000000 in
theorem eL_stands {d : Nat} {h : Hp} {v0 : Nat} {v1 : Int32} {v2 : Int32} {v3 : Int32} {v4 : Nat} {r : Int32} {h9 : Hp} (H : ML_stands h v0 v1 v2 v3 v4 = some (r, h9)) : JP (PH hhL_stands) (d + 1 + 1) YL_stands 0 [.ref v0, .int v1, .int v2, .int v3, .ref v4, Value.null] [] h (oI r) h9 := by
  unfold ML_stands at H
  obtain ⟨g1, H⟩ := gd H
  refine J_aload dL_stands_0 rfl ?_
  refine J_iconst (0 : Int32) dL_stands_2 kc_0 ?_
  refine J_aload_n 0 dL_stands_3 rfl rfl ?_
  refine J_iload_n 1 dL_stands_4 rfl rfl ?_
  refine J_iload_n 2 dL_stands_5 rfl rfl ?_
  refine J_iload_n 3 dL_stands_6 rfl rfl ?_
  rcases bC_el H with ⟨t1, h1, e1, H⟩ | ⟨k, h1, e1, H⟩
  · refine J_cV (as := [.int v1, .int v2, .int v3]) 10 YX11_stands 3 dL_stands_7 moX11_stands mvX11_stands mlL_125 g1 rfl rfl (okX11_stands (d := d) e1) rfl rfl [.int (0 : Int32), .ref v4] rfl rfl (st2 := [.int t1, .int (0 : Int32), .ref v4]) rfl ?_
    obtain ⟨g2, H⟩ := gd H
    obtain ⟨g3, H⟩ := gd H
    refine J_i2l dL_stands_10 ?_
    obtain ⟨h2, e2, H⟩ := lt_el H
    refine J_lS2 dL_stands_11 g2 (inB_ok g3) e2 ?_
    refine J_goto 19 dL_stands_12 rfl ?_
    cases H
    refine J_iconst (0 : Int32) dL_stands_19 kc_0 ?_
    exact J_iretI dL_stands_20 rfl
  · by_cases q1 : k = 1
    · subst q1
      replace H := br1 rfl H
      cases H
      refine J_cVC (as := [.int v1, .int v2, .int v3]) 10 YX11_stands 3 dL_stands_7 moX11_stands mvX11_stands mlL_125 g1 rfl rfl (okX11_stands (d := d) e1) rfl rfl [.int (0 : Int32), .ref v4] rfl rfl (JX_catch (E := 1) (h := h9) [] ⟨0, 12, 15, 13⟩ [] 5 2 rfl (List.forall_mem_nil _) (by decide) (by decide) clL_13 ca_1 (Or.inl ⟨dL_stands_15, rfl⟩) (by decide) ?_)
      refine J_iconst (1 : Int32) dL_stands_17 kc_1 ?_
      exact J_iretI dL_stands_18 rfl
    replace H := br0 q1 H
    cases H
theorem okL_stands {d : Nat} {h : Hp} {v0 : Nat} {v1 : Int32} {v2 : Int32} {v3 : Int32} {v4 : Nat} {r : Int32} {h9 : Hp} (H : ML_stands h v0 v1 v2 v3 v4 = some (r, h9)) : CTW (d + 2) YL_stands hhL_stands [.ref v0, .int v1, .int v2, .int v3, .ref v4] h (oI r) h9 := CTW_of (by decide +kernel) (Nat.le_of_ble_eq_true rfl) (eL_stands H)
def YL_edition : Mt := (yL_edition, cL_edition, 3, some .int)
def hhL_edition : List (Nat × Nat × Nat × Nat) := [(0, 8, 11, 21)]
theorem moL_edition : MOW YL_edition hhL_edition 2 := ⟨tb8 (List.mem_of_getElem? (i := 21) rfl), tb1 (List.mem_of_getElem? (i := 0) rfl), by decide +kernel, by decide +kernel, by decide⟩
theorem msL_edition : Cond.static yL_edition ∈ lw_tbl := tb8 (List.mem_of_getElem? (i := 20) rfl)
noncomputable def ML_edition (h : Hp) (v0 : Nat) (v1 : Nat) : Option (Int32 × Hp) :=
  gg (β := (Int32 × Hp)) (kd h v0 = 10) <|
  bC (MX11_edition h v0)
    (fun t1 h1 =>
      gg (β := (Int32 × Hp)) (kd h1 v1 = 23) <|
      gg (β := (Int32 × Hp)) (inB (0 : Int32) (ln h1 v1) = true) <|
      lt (α := Hp) (β := Option (Int32 × Hp)) (sI h1 v1 (0 : Int32).toNatClampNeg t1) fun (h2 : Hp) =>
      some ((0 : Int32), h2))
    (fun k h1 =>
      if k = 3 then some ((1 : Int32), h1) else
      none)
set_option maxRecDepth 100000 in
set_option maxHeartbeats 8000000 in
theorem eL_edition {d : Nat} {h : Hp} {v0 : Nat} {v1 : Nat} {r : Int32} {h9 : Hp} (H : ML_edition h v0 v1 = some (r, h9)) : JP (PH hhL_edition) (d + 3 + 1) YL_edition 0 [.ref v0, .ref v1, Value.null] [] h (oI r) h9 := by
  unfold ML_edition at H
  obtain ⟨g1, H⟩ := gd H
  refine J_aload_n 1 dL_edition_0 rfl rfl ?_
  refine J_iconst (0 : Int32) dL_edition_1 kc_0 ?_
  refine J_aload_n 0 dL_edition_2 rfl rfl ?_
  rcases bC_el H with ⟨t1, h1, e1, H⟩ | ⟨k, h1, e1, H⟩
  · refine J_cV (as := []) 10 YX11_edition 0 dL_edition_3 moX11_edition mvX11_edition mlL_128 g1 rfl rfl (okX11_edition (d := d) e1) rfl rfl [.int (0 : Int32), .ref v1] rfl rfl (st2 := [.int t1, .int (0 : Int32), .ref v1]) rfl ?_
    obtain ⟨g2, H⟩ := gd H
    obtain ⟨g3, H⟩ := gd H
    refine J_i2l dL_edition_6 ?_
    obtain ⟨h2, e2, H⟩ := lt_el H
    refine J_lS2 dL_edition_7 g2 (inB_ok g3) e2 ?_
    refine J_goto 14 dL_edition_8 rfl ?_
    cases H
    refine J_iconst (0 : Int32) dL_edition_14 kc_0 ?_
    exact J_iretI dL_edition_15 rfl
  · by_cases q3 : k = 3
    · subst q3
      replace H := br1 rfl H
      cases H
      refine J_cVC (as := []) 10 YX11_edition 0 dL_edition_3 moX11_edition mvX11_edition mlL_128 g1 rfl rfl (okX11_edition (d := d) e1) rfl rfl [.int (0 : Int32), .ref v1] rfl rfl (JX_catch (E := 3) (h := h9) [] ⟨0, 8, 11, 21⟩ [] 2 1 rfl (List.forall_mem_nil _) (by decide) (by decide) clL_21 ca_3 (Or.inr ⟨_, dL_edition_11, rfl, rfl⟩) (by decide) ?_)
      refine J_iconst (1 : Int32) dL_edition_12 kc_1 ?_
      exact J_iretI dL_edition_13 rfl
    replace H := br0 q3 H
    cases H
theorem okL_edition {d : Nat} {h : Hp} {v0 : Nat} {v1 : Nat} {r : Int32} {h9 : Hp} (H : ML_edition h v0 v1 = some (r, h9)) : CTW (d + 4) YL_edition hhL_edition [.ref v0, .ref v1] h (oI r) h9 := CTW_of (by decide +kernel) (Nat.le_of_ble_eq_true rfl) (eL_edition H)
def YL_changed : Mt := (yL_changed, cL_changed, 6, some .int)
def hhL_changed : List (Nat × Nat × Nat × Nat) := [(0, 12, 15, 13)]
theorem moL_changed : MOW YL_changed hhL_changed 5 := ⟨tb8 (List.mem_of_getElem? (i := 32) rfl), tb1 (List.mem_of_getElem? (i := 0) rfl), by decide +kernel, by decide +kernel, by decide⟩
theorem msL_changed : Cond.static yL_changed ∈ lw_tbl := tb8 (List.mem_of_getElem? (i := 31) rfl)
noncomputable def ML_changed (h : Hp) (v0 : Nat) (v1 : Int32) (v2 : Int32) (v3 : Int32) (v4 : Nat) : Option (Int32 × Hp) :=
  gg (β := (Int32 × Hp)) (kd h v0 = 10) <|
  bC (MX11_changed h v0 v1 v2 v3)
    (fun t1 h1 =>
      gg (β := (Int32 × Hp)) (kd h1 v4 = 23) <|
      gg (β := (Int32 × Hp)) (inB (0 : Int32) (ln h1 v4) = true) <|
      lt (α := Hp) (β := Option (Int32 × Hp)) (sI h1 v4 (0 : Int32).toNatClampNeg t1) fun (h2 : Hp) =>
      some ((0 : Int32), h2))
    (fun k h1 =>
      if k = 1 then some ((1 : Int32), h1) else
      none)
set_option maxRecDepth 100000 in
set_option maxHeartbeats 8000000 in
theorem eL_changed {d : Nat} {h : Hp} {v0 : Nat} {v1 : Int32} {v2 : Int32} {v3 : Int32} {v4 : Nat} {r : Int32} {h9 : Hp} (H : ML_changed h v0 v1 v2 v3 v4 = some (r, h9)) : JP (PH hhL_changed) (d + 3 + 1) YL_changed 0 [.ref v0, .int v1, .int v2, .int v3, .ref v4, Value.null] [] h (oI r) h9 := by
  unfold ML_changed at H
  obtain ⟨g1, H⟩ := gd H
  refine J_aload dL_changed_0 rfl ?_
  refine J_iconst (0 : Int32) dL_changed_2 kc_0 ?_
  refine J_aload_n 0 dL_changed_3 rfl rfl ?_
  refine J_iload_n 1 dL_changed_4 rfl rfl ?_
  refine J_iload_n 2 dL_changed_5 rfl rfl ?_
  refine J_iload_n 3 dL_changed_6 rfl rfl ?_
  rcases bC_el H with ⟨t1, h1, e1, H⟩ | ⟨k, h1, e1, H⟩
  · refine J_cV (as := [.int v1, .int v2, .int v3]) 10 YX11_changed 3 dL_changed_7 moX11_changed mvX11_changed mlL_132 g1 rfl rfl (okX11_changed (d := d) e1) rfl rfl [.int (0 : Int32), .ref v4] rfl rfl (st2 := [.int t1, .int (0 : Int32), .ref v4]) rfl ?_
    obtain ⟨g2, H⟩ := gd H
    obtain ⟨g3, H⟩ := gd H
    refine J_i2l dL_changed_10 ?_
    obtain ⟨h2, e2, H⟩ := lt_el H
    refine J_lS2 dL_changed_11 g2 (inB_ok g3) e2 ?_
    refine J_goto 19 dL_changed_12 rfl ?_
    cases H
    refine J_iconst (0 : Int32) dL_changed_19 kc_0 ?_
    exact J_iretI dL_changed_20 rfl
  · by_cases q1 : k = 1
    · subst q1
      replace H := br1 rfl H
      cases H
      refine J_cVC (as := [.int v1, .int v2, .int v3]) 10 YX11_changed 3 dL_changed_7 moX11_changed mvX11_changed mlL_132 g1 rfl rfl (okX11_changed (d := d) e1) rfl rfl [.int (0 : Int32), .ref v4] rfl rfl (JX_catch (E := 1) (h := h9) [] ⟨0, 12, 15, 13⟩ [] 5 2 rfl (List.forall_mem_nil _) (by decide) (by decide) clL_13 ca_1 (Or.inl ⟨dL_changed_15, rfl⟩) (by decide) ?_)
      refine J_iconst (1 : Int32) dL_changed_17 kc_1 ?_
      exact J_iretI dL_changed_18 rfl
    replace H := br0 q1 H
    cases H
theorem okL_changed {d : Nat} {h : Hp} {v0 : Nat} {v1 : Int32} {v2 : Int32} {v3 : Int32} {v4 : Nat} {r : Int32} {h9 : Hp} (H : ML_changed h v0 v1 v2 v3 v4 = some (r, h9)) : CTW (d + 4) YL_changed hhL_changed [.ref v0, .int v1, .int v2, .int v3, .ref v4] h (oI r) h9 := CTW_of (by decide +kernel) (Nat.le_of_ble_eq_true rfl) (eL_changed H)
def YL_ahead : Mt := (yL_ahead, cL_ahead, 4, some .int)
def hhL_ahead : List (Nat × Nat × Nat × Nat) := [(0, 9, 12, 13)]
theorem moL_ahead : MOW YL_ahead hhL_ahead 3 := ⟨tb8 (List.mem_of_getElem? (i := 48) rfl), tb1 (List.mem_of_getElem? (i := 0) rfl), by decide +kernel, by decide +kernel, by decide⟩
theorem msL_ahead : Cond.static yL_ahead ∈ lw_tbl := tb8 (List.mem_of_getElem? (i := 47) rfl)
noncomputable def ML_ahead (h : Hp) (v0 : Nat) (v1 : Int32) (v2 : Nat) : Option (Int32 × Hp) :=
  gg (β := (Int32 × Hp)) (kd h v0 = 10) <|
  bC (MX11_ahead h v0 v1)
    (fun t1 h1 =>
      gg (β := (Int32 × Hp)) (kd h1 v2 = 23) <|
      gg (β := (Int32 × Hp)) (inB (0 : Int32) (ln h1 v2) = true) <|
      lt (α := Hp) (β := Option (Int32 × Hp)) (sI h1 v2 (0 : Int32).toNatClampNeg t1) fun (h2 : Hp) =>
      some ((0 : Int32), h2))
    (fun k h1 =>
      if k = 1 then some ((1 : Int32), h1) else
      none)
set_option maxRecDepth 100000 in
set_option maxHeartbeats 8000000 in
theorem eL_ahead {d : Nat} {h : Hp} {v0 : Nat} {v1 : Int32} {v2 : Nat} {r : Int32} {h9 : Hp} (H : ML_ahead h v0 v1 v2 = some (r, h9)) : JP (PH hhL_ahead) (d + 7 + 1) YL_ahead 0 [.ref v0, .int v1, .ref v2, Value.null] [] h (oI r) h9 := by
  unfold ML_ahead at H
  obtain ⟨g1, H⟩ := gd H
  refine J_aload_n 2 dL_ahead_0 rfl rfl ?_
  refine J_iconst (0 : Int32) dL_ahead_1 kc_0 ?_
  refine J_aload_n 0 dL_ahead_2 rfl rfl ?_
  refine J_iload_n 1 dL_ahead_3 rfl rfl ?_
  rcases bC_el H with ⟨t1, h1, e1, H⟩ | ⟨k, h1, e1, H⟩
  · refine J_cV (as := [.int v1]) 10 YX11_ahead 1 dL_ahead_4 moX11_ahead mvX11_ahead mlL_135 g1 rfl rfl (okX11_ahead (d := d) e1) rfl rfl [.int (0 : Int32), .ref v2] rfl rfl (st2 := [.int t1, .int (0 : Int32), .ref v2]) rfl ?_
    obtain ⟨g2, H⟩ := gd H
    obtain ⟨g3, H⟩ := gd H
    refine J_i2l dL_ahead_7 ?_
    obtain ⟨h2, e2, H⟩ := lt_el H
    refine J_lS2 dL_ahead_8 g2 (inB_ok g3) e2 ?_
    refine J_goto 15 dL_ahead_9 rfl ?_
    cases H
    refine J_iconst (0 : Int32) dL_ahead_15 kc_0 ?_
    exact J_iretI dL_ahead_16 rfl
  · by_cases q1 : k = 1
    · subst q1
      replace H := br1 rfl H
      cases H
      refine J_cVC (as := [.int v1]) 10 YX11_ahead 1 dL_ahead_4 moX11_ahead mvX11_ahead mlL_135 g1 rfl rfl (okX11_ahead (d := d) e1) rfl rfl [.int (0 : Int32), .ref v2] rfl rfl (JX_catch (E := 1) (h := h9) [] ⟨0, 9, 12, 13⟩ [] 3 1 rfl (List.forall_mem_nil _) (by decide) (by decide) clL_13 ca_1 (Or.inr ⟨_, dL_ahead_12, rfl, rfl⟩) (by decide) ?_)
      refine J_iconst (1 : Int32) dL_ahead_13 kc_1 ?_
      exact J_iretI dL_ahead_14 rfl
    replace H := br0 q1 H
    cases H
theorem okL_ahead {d : Nat} {h : Hp} {v0 : Nat} {v1 : Int32} {v2 : Nat} {r : Int32} {h9 : Hp} (H : ML_ahead h v0 v1 v2 = some (r, h9)) : CTW (d + 8) YL_ahead hhL_ahead [.ref v0, .int v1, .ref v2] h (oI r) h9 := CTW_of (by decide +kernel) (Nat.le_of_ble_eq_true rfl) (eL_ahead H)
def YL_pay : Mt := (yL_pay, cL_pay, 6, some .int)
def hhL_pay : List (Nat × Nat × Nat × Nat) := [(0, 12, 15, 13)]
theorem moL_pay : MOW YL_pay hhL_pay 5 := ⟨tb8 (List.mem_of_getElem? (i := 59) rfl), tb1 (List.mem_of_getElem? (i := 0) rfl), by decide +kernel, by decide +kernel, by decide⟩
theorem msL_pay : Cond.static yL_pay ∈ lw_tbl := tb8 (List.mem_of_getElem? (i := 58) rfl)
noncomputable def ML_pay (h : Hp) (v0 : Nat) (v1 : Int32) (v2 : Int32) (v3 : Int32) (v4 : Nat) : Option (Int32 × Hp) :=
  gg (β := (Int32 × Hp)) (kd h v0 = 10) <|
  bC (MX11_pay h v0 v1 v2 v3)
    (fun t1 h1 =>
      gg (β := (Int32 × Hp)) (kd h1 v4 = 23) <|
      gg (β := (Int32 × Hp)) (inB (0 : Int32) (ln h1 v4) = true) <|
      lt (α := Hp) (β := Option (Int32 × Hp)) (sI h1 v4 (0 : Int32).toNatClampNeg t1) fun (h2 : Hp) =>
      some ((0 : Int32), h2))
    (fun k h1 =>
      if k = 1 then some ((1 : Int32), h1) else
      none)
set_option maxRecDepth 100000 in
set_option maxHeartbeats 8000000 in
theorem eL_pay {d : Nat} {h : Hp} {v0 : Nat} {v1 : Int32} {v2 : Int32} {v3 : Int32} {v4 : Nat} {r : Int32} {h9 : Hp} (H : ML_pay h v0 v1 v2 v3 v4 = some (r, h9)) : JP (PH hhL_pay) (d + 5 + 1) YL_pay 0 [.ref v0, .int v1, .int v2, .int v3, .ref v4, Value.null] [] h (oI r) h9 := by
  unfold ML_pay at H
  obtain ⟨g1, H⟩ := gd H
  refine J_aload dL_pay_0 rfl ?_
  refine J_iconst (0 : Int32) dL_pay_2 kc_0 ?_
  refine J_aload_n 0 dL_pay_3 rfl rfl ?_
  refine J_iload_n 1 dL_pay_4 rfl rfl ?_
  refine J_iload_n 2 dL_pay_5 rfl rfl ?_
  refine J_iload_n 3 dL_pay_6 rfl rfl ?_
  rcases bC_el H with ⟨t1, h1, e1, H⟩ | ⟨k, h1, e1, H⟩
  · refine J_cV (as := [.int v1, .int v2, .int v3]) 10 YX11_pay 3 dL_pay_7 moX11_pay mvX11_pay mlL_138 g1 rfl rfl (okX11_pay (d := d) e1) rfl rfl [.int (0 : Int32), .ref v4] rfl rfl (st2 := [.int t1, .int (0 : Int32), .ref v4]) rfl ?_
    obtain ⟨g2, H⟩ := gd H
    obtain ⟨g3, H⟩ := gd H
    refine J_i2l dL_pay_10 ?_
    obtain ⟨h2, e2, H⟩ := lt_el H
    refine J_lS2 dL_pay_11 g2 (inB_ok g3) e2 ?_
    refine J_goto 19 dL_pay_12 rfl ?_
    cases H
    refine J_iconst (0 : Int32) dL_pay_19 kc_0 ?_
    exact J_iretI dL_pay_20 rfl
  · by_cases q1 : k = 1
    · subst q1
      replace H := br1 rfl H
      cases H
      refine J_cVC (as := [.int v1, .int v2, .int v3]) 10 YX11_pay 3 dL_pay_7 moX11_pay mvX11_pay mlL_138 g1 rfl rfl (okX11_pay (d := d) e1) rfl rfl [.int (0 : Int32), .ref v4] rfl rfl (JX_catch (E := 1) (h := h9) [] ⟨0, 12, 15, 13⟩ [] 5 2 rfl (List.forall_mem_nil _) (by decide) (by decide) clL_13 ca_1 (Or.inl ⟨dL_pay_15, rfl⟩) (by decide) ?_)
      refine J_iconst (1 : Int32) dL_pay_17 kc_1 ?_
      exact J_iretI dL_pay_18 rfl
    replace H := br0 q1 H
    cases H
theorem okL_pay {d : Nat} {h : Hp} {v0 : Nat} {v1 : Int32} {v2 : Int32} {v3 : Int32} {v4 : Nat} {r : Int32} {h9 : Hp} (H : ML_pay h v0 v1 v2 v3 v4 = some (r, h9)) : CTW (d + 6) YL_pay hhL_pay [.ref v0, .int v1, .int v2, .int v3, .ref v4] h (oI r) h9 := CTW_of (by decide +kernel) (Nat.le_of_ble_eq_true rfl) (eL_pay H)
def YL_row : Mt := (yL_row, cL_row, 5, some .int)
def hhL_row : List (Nat × Nat × Nat × Nat) := [(0, 10, 13, 30)]
theorem moL_row : MOW YL_row hhL_row 4 := ⟨tb8 (List.mem_of_getElem? (i := 79) rfl), tb1 (List.mem_of_getElem? (i := 0) rfl), by decide +kernel, by decide +kernel, by decide⟩
theorem msL_row : Cond.static yL_row ∈ lw_tbl := tb8 (List.mem_of_getElem? (i := 78) rfl)
noncomputable def ML_row (h : Hp) (v0 : Nat) (v1 : Int32) (v2 : Int32) (v3 : Nat) : Option (Int32 × Hp) :=
  gg (β := (Int32 × Hp)) (kd h v0 = 10) <|
  bC (MX11_row h v0 v1 v2)
    (fun t1 h1 =>
      gg (β := (Int32 × Hp)) (kd h1 v3 = 23) <|
      gg (β := (Int32 × Hp)) (inB (0 : Int32) (ln h1 v3) = true) <|
      lt (α := Hp) (β := Option (Int32 × Hp)) (sI h1 v3 (0 : Int32).toNatClampNeg t1) fun (h2 : Hp) =>
      some ((0 : Int32), h2))
    (fun k h1 =>
      if k = 4 then some ((1 : Int32), h1) else
      none)
set_option maxRecDepth 100000 in
set_option maxHeartbeats 8000000 in
theorem eL_row {d : Nat} {h : Hp} {v0 : Nat} {v1 : Int32} {v2 : Int32} {v3 : Nat} {r : Int32} {h9 : Hp} (H : ML_row h v0 v1 v2 v3 = some (r, h9)) : JP (PH hhL_row) (d + 2 + 1) YL_row 0 [.ref v0, .int v1, .int v2, .ref v3, Value.null] [] h (oI r) h9 := by
  unfold ML_row at H
  obtain ⟨g1, H⟩ := gd H
  refine J_aload_n 3 dL_row_0 rfl rfl ?_
  refine J_iconst (0 : Int32) dL_row_1 kc_0 ?_
  refine J_aload_n 0 dL_row_2 rfl rfl ?_
  refine J_iload_n 1 dL_row_3 rfl rfl ?_
  refine J_iload_n 2 dL_row_4 rfl rfl ?_
  rcases bC_el H with ⟨t1, h1, e1, H⟩ | ⟨k, h1, e1, H⟩
  · refine J_cV (as := [.int v1, .int v2]) 10 YX11_row 2 dL_row_5 moX11_row mvX11_row mlL_141 g1 rfl rfl (okX11_row (d := d) e1) rfl rfl [.int (0 : Int32), .ref v3] rfl rfl (st2 := [.int t1, .int (0 : Int32), .ref v3]) rfl ?_
    obtain ⟨g2, H⟩ := gd H
    obtain ⟨g3, H⟩ := gd H
    refine J_i2l dL_row_8 ?_
    obtain ⟨h2, e2, H⟩ := lt_el H
    refine J_lS2 dL_row_9 g2 (inB_ok g3) e2 ?_
    refine J_goto 17 dL_row_10 rfl ?_
    cases H
    refine J_iconst (0 : Int32) dL_row_17 kc_0 ?_
    exact J_iretI dL_row_18 rfl
  · by_cases q4 : k = 4
    · subst q4
      replace H := br1 rfl H
      cases H
      refine J_cVC (as := [.int v1, .int v2]) 10 YX11_row 2 dL_row_5 moX11_row mvX11_row mlL_141 g1 rfl rfl (okX11_row (d := d) e1) rfl rfl [.int (0 : Int32), .ref v3] rfl rfl (JX_catch (E := 4) (h := h9) [] ⟨0, 10, 13, 30⟩ [] 4 2 rfl (List.forall_mem_nil _) (by decide) (by decide) clL_30 ca_4 (Or.inl ⟨dL_row_13, rfl⟩) (by decide) ?_)
      refine J_iconst (1 : Int32) dL_row_15 kc_1 ?_
      exact J_iretI dL_row_16 rfl
    replace H := br0 q4 H
    cases H
theorem okL_row {d : Nat} {h : Hp} {v0 : Nat} {v1 : Int32} {v2 : Int32} {v3 : Nat} {r : Int32} {h9 : Hp} (H : ML_row h v0 v1 v2 v3 = some (r, h9)) : CTW (d + 3) YL_row hhL_row [.ref v0, .int v1, .int v2, .ref v3] h (oI r) h9 := CTW_of (by decide +kernel) (Nat.le_of_ble_eq_true rfl) (eL_row H)
def YL_tear : Mt := (yL_tear, cL_tear, 6, some .int)
def hhL_tear : List (Nat × Nat × Nat × Nat) := [(0, 12, 15, 30)]
theorem moL_tear : MOW YL_tear hhL_tear 5 := ⟨tb8 (List.mem_of_getElem? (i := 86) rfl), tb1 (List.mem_of_getElem? (i := 0) rfl), by decide +kernel, by decide +kernel, by decide⟩
theorem msL_tear : Cond.static yL_tear ∈ lw_tbl := tb8 (List.mem_of_getElem? (i := 85) rfl)
noncomputable def ML_tear (h : Hp) (v0 : Nat) (v1 : Int32) (v2 : Int32) (v3 : Int32) (v4 : Nat) : Option (Int32 × Hp) :=
  gg (β := (Int32 × Hp)) (kd h v0 = 10) <|
  bC (MX11_tear h v0 v1 v2 v3)
    (fun t1 h1 =>
      gg (β := (Int32 × Hp)) (kd h1 v4 = 23) <|
      gg (β := (Int32 × Hp)) (inB (0 : Int32) (ln h1 v4) = true) <|
      lt (α := Hp) (β := Option (Int32 × Hp)) (sI h1 v4 (0 : Int32).toNatClampNeg t1) fun (h2 : Hp) =>
      some ((0 : Int32), h2))
    (fun k h1 =>
      if k = 4 then some ((1 : Int32), h1) else
      none)
set_option maxRecDepth 100000 in
set_option maxHeartbeats 8000000 in
theorem eL_tear {d : Nat} {h : Hp} {v0 : Nat} {v1 : Int32} {v2 : Int32} {v3 : Int32} {v4 : Nat} {r : Int32} {h9 : Hp} (H : ML_tear h v0 v1 v2 v3 v4 = some (r, h9)) : JP (PH hhL_tear) (d + 2 + 1) YL_tear 0 [.ref v0, .int v1, .int v2, .int v3, .ref v4, Value.null] [] h (oI r) h9 := by
  unfold ML_tear at H
  obtain ⟨g1, H⟩ := gd H
  refine J_aload dL_tear_0 rfl ?_
  refine J_iconst (0 : Int32) dL_tear_2 kc_0 ?_
  refine J_aload_n 0 dL_tear_3 rfl rfl ?_
  refine J_iload_n 1 dL_tear_4 rfl rfl ?_
  refine J_iload_n 2 dL_tear_5 rfl rfl ?_
  refine J_iload_n 3 dL_tear_6 rfl rfl ?_
  rcases bC_el H with ⟨t1, h1, e1, H⟩ | ⟨k, h1, e1, H⟩
  · refine J_cV (as := [.int v1, .int v2, .int v3]) 10 YX11_tear 3 dL_tear_7 moX11_tear mvX11_tear mlL_144 g1 rfl rfl (okX11_tear (d := d) e1) rfl rfl [.int (0 : Int32), .ref v4] rfl rfl (st2 := [.int t1, .int (0 : Int32), .ref v4]) rfl ?_
    obtain ⟨g2, H⟩ := gd H
    obtain ⟨g3, H⟩ := gd H
    refine J_i2l dL_tear_10 ?_
    obtain ⟨h2, e2, H⟩ := lt_el H
    refine J_lS2 dL_tear_11 g2 (inB_ok g3) e2 ?_
    refine J_goto 19 dL_tear_12 rfl ?_
    cases H
    refine J_iconst (0 : Int32) dL_tear_19 kc_0 ?_
    exact J_iretI dL_tear_20 rfl
  · by_cases q4 : k = 4
    · subst q4
      replace H := br1 rfl H
      cases H
      refine J_cVC (as := [.int v1, .int v2, .int v3]) 10 YX11_tear 3 dL_tear_7 moX11_tear mvX11_tear mlL_144 g1 rfl rfl (okX11_tear (d := d) e1) rfl rfl [.int (0 : Int32), .ref v4] rfl rfl (JX_catch (E := 4) (h := h9) [] ⟨0, 12, 15, 30⟩ [] 5 2 rfl (List.forall_mem_nil _) (by decide) (by decide) clL_30 ca_4 (Or.inl ⟨dL_tear_15, rfl⟩) (by decide) ?_)
      refine J_iconst (1 : Int32) dL_tear_17 kc_1 ?_
      exact J_iretI dL_tear_18 rfl
    replace H := br0 q4 H
    cases H
theorem okL_tear {d : Nat} {h : Hp} {v0 : Nat} {v1 : Int32} {v2 : Int32} {v3 : Int32} {v4 : Nat} {r : Int32} {h9 : Hp} (H : ML_tear h v0 v1 v2 v3 v4 = some (r, h9)) : CTW (d + 3) YL_tear hhL_tear [.ref v0, .int v1, .int v2, .int v3, .ref v4] h (oI r) h9 := CTW_of (by decide +kernel) (Nat.le_of_ble_eq_true rfl) (eL_tear H)
