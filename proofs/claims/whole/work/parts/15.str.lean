/-! RULES: String constants -/
theorem strL_k : ∀ q ∈ strL, q.2.2.2 < 21 := by decide +kernel
theorem sT_len : ∀ k, k < 21 → sTn.getD k 0 = (sTx.getD k []).length ∧ (sTx.getD k []).length < 100 := by decide +kernel
section
variable {Φ : Kc → State → Code → Prop} {d pc : Nat} {Y : Mt} {ls st : List Value} {h h' : Hp} {o : Oc}
theorem rel_str {sa : Nat → Nat} {g : Gh} {k : Nat} (hk : k < 2000) : rel sa g (.retAddr k) = .ref (sa k) := by
  simp only [rel]
  rw [if_neg (by omega)]
theorem J_lS {idx : Nat} {tx : String} (hd : decode Y.2.1 pc = .ok (.ldc idx, 2)) (k : Nat) (hs : (Y.1.cls, idx, tx, k) ∈ strL) (kk : JP Φ d Y (pc + 2) ls (.retAddr k :: st) h o h') : JP Φ d Y pc ls st h o h' := by
  refine ⟨kk.1, kk.2.1, fun K g0 h0 p l e R s m args below meth c G r1 r2 g H locs LS a1 a2 a3 a4 a5 a6 => ?_⟩
  have hk : k < 21 := strL_k _ hs
  have z := kk.2.2 K g0 h0 p l e R s m args below meth c G r1 r2 g H locs LS a1 a2 a3 a4 a5 ⟨trivial, a6⟩
  rw [List.map_cons, rel_str (by omega)] at z
  exact va_ldcS G.1 G.2.1 G.2.2.2.2.1 (G.2.2.2.2.2.2.2.2.2.2.2.2.2.2.2.2.2.2.2.2.2.1 _ hs) hd z
theorem J_lSw {idx : Nat} {tx : String} (hd : decode Y.2.1 pc = .ok (.ldc_w idx, 3)) (k : Nat) (hs : (Y.1.cls, idx, tx, k) ∈ strL) (kk : JP Φ d Y (pc + 3) ls (.retAddr k :: st) h o h') : JP Φ d Y pc ls st h o h' := by
  refine ⟨kk.1, kk.2.1, fun K g0 h0 p l e R s m args below meth c G r1 r2 g H locs LS a1 a2 a3 a4 a5 a6 => ?_⟩
  have hk : k < 21 := strL_k _ hs
  have z := kk.2.2 K g0 h0 p l e R s m args below meth c G r1 r2 g H locs LS a1 a2 a3 a4 a5 ⟨trivial, a6⟩
  rw [List.map_cons, rel_str (by omega)] at z
  have hZ := G.2.2.2.2.2.2.2.2.2.2.2.2.2.2.2.2.2.2.2.2.2.1 _ hs
  intro T hT X
  obtain ⟨t, b1, b2⟩ := z T hT X
  exact ⟨t, X.ldcStringW G.1 G.2.2.2.2.1 (text := tx) (a := K.2.1 k) hZ.1 hZ.2 (g := F0 m pc LS (st.map (rel K.2.1 g))) rfl (by rw [G.2.1]; exact hd) t b1, b2⟩
/-- a text's field value, coder; its bytes -/
theorem J_sv {idx k : Nat} (hk : k < 21) (hd : decode Y.2.1 pc = .ok (.getfield idx, 3)) (hl : Cond.fieldLink Y.1.cls idx "java/lang/String" "value" "[B" ∈ lw_tbl) (kk : JP Φ d Y (pc + 3) ls (.retAddr (1000 + k) :: st) h o h') : JP Φ d Y pc ls (.retAddr k :: st) h o h' := by
  refine ⟨kk.1, kk.2.1, fun K g0 h0 p l e R s m args below meth c G r1 r2 g H locs LS a1 a2 a3 a4 a5 a6 => ?_⟩
  have z := kk.2.2 K g0 h0 p l e R s m args below meth c G r1 r2 g H locs LS a1 a2 a3 a4 a5 ⟨trivial, a6.2⟩
  obtain ⟨adV, k1, k2⟩ := G.2.2.2.2.2.2.2.2.2.2.2.2.2.2.2.2.2.2.2.2.1
  rw [List.map_cons, rel_str (by omega), k2 k hk] at z
  rw [List.map_cons, rel_str (by omega)]
  exact vk_getf G.1 G.2.1 (k1.1 k hk).2.2.1 a3 G.2.2.2.2.1 (G.2.2.2.2.2.1 _ (gin hl rfl)) (fun _ hx => hx) hd z
theorem J_sco {idx k : Nat} (hk : k < 21) (hd : decode Y.2.1 pc = .ok (.getfield idx, 3)) (hl : Cond.fieldLink Y.1.cls idx "java/lang/String" "coder" "B" ∈ lw_tbl) (kk : JP Φ d Y (pc + 3) ls (.int 0 :: st) h o h') : JP Φ d Y pc ls (.retAddr k :: st) h o h' := by
  refine ⟨kk.1, kk.2.1, fun K g0 h0 p l e R s m args below meth c G r1 r2 g H locs LS a1 a2 a3 a4 a5 a6 => ?_⟩
  have z := kk.2.2 K g0 h0 p l e R s m args below meth c G r1 r2 g H locs LS a1 a2 a3 a4 a5 ⟨trivial, a6.2⟩
  obtain ⟨adV, k1, k2⟩ := G.2.2.2.2.2.2.2.2.2.2.2.2.2.2.2.2.2.2.2.2.1
  rw [List.map_cons, rel_str (by omega)]
  exact vk_getf G.1 G.2.1 (k1.1 k hk).2.1 a3 G.2.2.2.2.1 (G.2.2.2.2.2.1 _ (gin hl rfl)) (fun _ hx => hx) hd z
theorem J_sal {k : Nat} (hk : k < 21) (hd : decode Y.2.1 pc = .ok (.arraylength, 1)) (kk : JP Φ d Y (pc + 1) ls (.int (sLen k) :: st) h o h') : JP Φ d Y pc ls (.retAddr (1000 + k) :: st) h o h' := by
  refine ⟨kk.1, kk.2.1, fun K g0 h0 p l e R s m args below meth c G r1 r2 g H locs LS a1 a2 a3 a4 a5 a6 => ?_⟩
  have z := kk.2.2 K g0 h0 p l e R s m args below meth c G r1 r2 g H locs LS a1 a2 a3 a4 a5 ⟨trivial, a6.2⟩
  obtain ⟨adV, k1, k2⟩ := G.2.2.2.2.2.2.2.2.2.2.2.2.2.2.2.2.2.2.2.2.1
  rw [List.map_cons, rel_str (by omega), k2 k hk]
  exact va_tlen G.1 G.2.1 (k1.1 k hk).2.2.2 a3 (by rw [(sT_len k hk).1]; rfl) hd z
theorem J_sbl {k : Nat} {i : Int32} (hk : k < 21) (hi : vp_in i (sN k)) (hd : decode Y.2.1 pc = .ok (.baload, 1)) (kk : JP Φ d Y (pc + 1) ls (.int (sAt k i) :: st) h o h') : JP Φ d Y pc ls (.int i :: .retAddr (1000 + k) :: st) h o h' := by
  refine ⟨kk.1, kk.2.1, fun K g0 h0 p l e R s m args below meth c G r1 r2 g H locs LS a1 a2 a3 a4 a5 a6 => ?_⟩
  have z := kk.2.2 K g0 h0 p l e R s m args below meth c G r1 r2 g H locs LS a1 a2 a3 a4 a5 ⟨trivial, a6.2.2⟩
  obtain ⟨adV, k1, k2⟩ := G.2.2.2.2.2.2.2.2.2.2.2.2.2.2.2.2.2.2.2.2.1
  rw [List.map_cons, List.map_cons, rel_str (k := 1000 + k) (by omega), k2 k hk]
  exact va_tb G.1 G.2.1 (k1.1 k hk).2.2.2 a3 (by rw [(sT_len k hk).1]; exact hi) rfl hd z
theorem J_gcs {idx : Nat} (hd : decode Y.2.1 pc = .ok (.getstatic idx, 3)) (hl : Cond.fieldLink Y.1.cls idx "java/lang/String" "COMPACT_STRINGS" "Z" ∈ lw_tbl) (kk : JP Φ d Y (pc + 3) ls (.int 1 :: st) h o h') : JP Φ d Y pc ls st h o h' := by
  refine ⟨kk.1, kk.2.1, fun K g0 h0 p l e R s m args below meth c G r1 r2 g H locs LS a1 a2 a3 a4 a5 a6 => ?_⟩
  exact va_gets G.1 G.2.1 G.2.2.2.2.2.2.2.2.2.2.2.2.2.2.2.2.2.2.2.2.2.2.1 a3 G.2.2.2.2.1 (G.2.2.2.2.2.1 _ (gin hl rfl)) (fun _ hx => hx) hd (kk.2.2 K g0 h0 p l e R s m args below meth c G r1 r2 g H locs LS a1 a2 a3 a4 a5 ⟨trivial, a6⟩)
theorem J_gsi {idx : Nat} (hd : decode Y.2.1 pc = .ok (.getstatic idx, 3)) (hl : Cond.fieldLink Y.1.cls idx "jdk/internal/util/Preconditions" "SIOOBE_FORMATTER" sioD ∈ lw_tbl) (kk : JP Φ d Y (pc + 3) ls (.retAddr 2000 :: st) h o h') : JP Φ d Y pc ls st h o h' := by
  refine ⟨kk.1, kk.2.1, fun K g0 h0 p l e R s m args below meth c G r1 r2 g H locs LS a1 a2 a3 a4 a5 a6 => ?_⟩
  exact va_gets G.1 G.2.1 G.2.2.2.2.2.2.2.2.2.2.2.2.2.2.2.2.2.2.2.2.2.2.2 a3 G.2.2.2.2.1 (G.2.2.2.2.2.1 _ (gin hl rfl)) (fun _ hx => hx) hd (kk.2.2 K g0 h0 p l e R s m args below meth c G r1 r2 g H locs LS a1 a2 a3 a4 a5 ⟨trivial, a6⟩)
theorem J_i2c {x : Int32} (hd : decode Y.2.1 pc = .ok (.i2c, 1)) (k : JP Φ d Y (pc + 1) ls (.int (x.toUInt32 % 65536).toInt32 :: st) h o h') : JP Φ d Y pc ls (.int x :: st) h o h' := by
  refine ⟨k.1, k.2.1, fun K g0 h0 p l e R s m args below meth c G r1 r2 g H locs LS a1 a2 a3 a4 a5 a6 => ?_⟩
  exact lv_i2c G.1 G.2.1 hd rfl (k.2.2 K g0 h0 p l e R s m args below meth c G r1 r2 g H locs LS a1 a2 a3 a4 a5 ⟨trivial, a6.2⟩)
/-- a value of another type than int is handed back -/
theorem J_rN {v : Int32} {ty : FieldType} (hd : decode Y.2.1 pc = .ok (.ireturn, 1)) (ht : Y.2.2.2 = some ty) (hn : narrow ty (.int v) = .int v) : JP Φ d Y pc ls [.int v] h (oI v) h := by
  refine ⟨Nat.le_refl _, Nat.le_refl _, fun K g0 h0 p l e R s m args below meth c G r1 r2 g H locs LS a1 a2 a3 a4 a5 a6 => ?_⟩
  have e1 : R.cells = nc h - nc h0 := by omega
  have e2 : R.slots = ns h - ns h0 := by omega
  rw [e1, e2]
  exact vx_ret (W.zret G.1 G.2.1 (G.2.2.1.trans ht) hn (fun t ht hW => ⟨⟨some (.int v), g, rfl, rfl, a1.2.2.2, a2.to hW.alike ht, ⟨trivial, trivial⟩, a1.2.2.1⟩, a3.F ht⟩) a3.2.2 hd G.2.2.2.2.2.2.1)
/-- a call of an instance's method on a text -/
theorem J_cT {idx k : Nat} {as : List Value} {v : Option Value} {h1 : Hp} (hk : k < 21) (Y1 : Mt) (n : Nat) (hd : decode Y.2.1 pc = .ok (.invokevirtual idx, 3)) (hm : MO Y1 n) (hs : MV Y1) (hl : Cond.methodLink Y.1.cls idx Y1.1 ∈ lw_tbl) (hcl : Y1.1.cls = "java/lang/String") (hc : CT d Y1 (.retAddr k :: as) h (.inl v) h1) (hn : as.length = n) (hcat : catOk as = true) {st0 st2 : List Value} (st : List Value) (he : as.reverse ++ .retAddr k :: st = st0) (hw : ((st.map Value.category).sum).ble 8 = true) (h2 : v.toList ++ st = st2) (kk : JP Φ (d + 1) Y (pc + 3) ls st2 h1 o h') : JP Φ (d + 1) Y pc ls st0 h o h' := by
  subst he
  refine ⟨Nat.le_trans hc.1 kk.1, Nat.le_trans hc.2.1 kk.2.1, fun K g0 h0 p l e R s m args below meth c G r1 r2 g H locs LS a1 a2 a3 a4 a5 a6 => ?_⟩
  have q1 := hc.1
  have q2 := hc.2.1
  have q3 := kk.1
  have q4 := kk.2.1
  have ha := okS_app.mp a6
  have ho : ok1 (sz h) (.retAddr k :: as) := fun w hw => by
    rcases List.mem_cons.mp hw with rfl | q
    · exact ⟨trivial, rfl⟩
    · exact ⟨okS_rev ha.1 w q, catOk_ok hcat w q⟩
  obtain ⟨adV, k1, k2⟩ := G.2.2.2.2.2.2.2.2.2.2.2.2.2.2.2.2.2.2.2.2.1
  have hrecv := vk_recv k1 hk a3
  refine J_run (st := st) (o1 := .inl v) (a9 := ((Value.retAddr k :: as).map (rel K.2.1 g)).toArray) G a1 a3 a4 a5 ha.2.2 q1 q2 r1 r2 ?_ (fun w hw => by cases hw; rw [h2]; exact kk) (fun E hE => by cases hE)
  have e1 : rel K.2.1 g (.retAddr k) = .ref (K.2.1 k) := rel_str (by omega)
  have hpp := pct_of (as := .retAddr k :: as) G a2 a3 ho
  rw [List.map_cons, e1] at hpp ⊢
  refine vx_runV (nL := Y.2.2.1) (Ts := gWs) (own := Y.1.cls) (C := Y1.1.cls) (ret := Y1.2.2.2) (bytes := Y1.2.1) (maxL := Y1.2.2.1) (ws := wsY Y1) (As := as.map (rel K.2.1 g)) ⟨G.1, G.2.1, G.2.2.2.1, G.2.2.2.2.1, G.2.2.2.2.2.1⟩ (hc.2.2 l K g G.2.2.2.2.2.2.2.2.2.1) (cwV (n) G.2.2.2.2.2.1 ?_ rfl rfl rfl ⟨rfl, hm.2.2.1.1, hm.2.2.1.2, hm.2.2.2.1⟩ ⟨?_, ?_⟩) ⟨Pct_blind, ?_, hpp⟩ rfl (by rw [List.length_map]; exact hn) (a4.1) (by rw [List.map_append, List.map_reverse, List.map_cons, e1]) (lv_room (by rw [cat_rest]; exact Nat.le_of_ble_eq_true hw)) hd ⟨by omega, by omega⟩
  · intro w hw'
    rcases List.mem_append.mp hw' with q | q
    · rcases List.mem_cons.mp q with rfl | q
      · exact ⟨gin hl rfl, good_of_word rfl⟩
      · rcases List.mem_cons.mp q with rfl | q
        · exact ⟨gin hs.1 rfl, good_of_word rfl⟩
        · rcases List.mem_cons.mp q with rfl | q
          · exact ⟨gin hs.2 rfl, good_of_word rfl⟩
          · rcases List.mem_cons.mp q with rfl | q
            · exact ⟨gin hm.2.1 rfl, good_of_word rfl⟩
            · cases q
    · exact GoodIn_wsY hm w q
  · have := G.2.2.2.2.2.2.2.2.2.2.1
    show 6 * d + 12 + 1 ≤ _
    omega
  · exact loc_ok G.2.2.2.2.2.2.2.2.2.2.2.1 hm.2.2.2.2
  · rw [hcl]
    exact hrecv
end
/-! the library's methods of texts -/
theorem sok_coder {d : Nat} {h : Hp} {k : Nat} (hk : k < 21) : CT d YJ0_coder_7d493 [.retAddr k] h (oI 0) h := CT_of (by decide +kernel) (Nat.le_of_ble_eq_true rfl) (by
  show J d YJ0_coder_7d493 0 [.retAddr k] [] h (oI 0) h
  refine J_gcs dJ0_coder_7d493_0 flJ0_38 ?_
  refine J_if_eq 13 dJ0_coder_7d493_3 rfl (fun q => ?_) (fun q => ?_)
  · exact absurd q (by decide)
  · refine J_aload_nT 0 dJ0_coder_7d493_6 rfl rfl ?_
    refine J_sco hk dJ0_coder_7d493_7 flJ0_15 ?_
    refine J_goto 14 dJ0_coder_7d493_10 rfl ?_
    exact J_rN dJ0_coder_7d493_14 rfl rfl)
theorem sok_isLatin1 {d : Nat} {h : Hp} {k : Nat} (hk : k < 21) : CT d YJ0_isLatin1_aae02 [.retAddr k] h (oI 1) h := CT_of (by decide +kernel) (Nat.le_of_ble_eq_true rfl) (by
  show J d YJ0_isLatin1_aae02 0 [.retAddr k] [] h (oI 1) h
  refine J_gcs dJ0_isLatin1_aae02_0 flJ0_38 ?_
  refine J_if_eq 17 dJ0_isLatin1_aae02_3 rfl (fun q => ?_) (fun q => ?_)
  · exact absurd q (by decide)
  · refine J_aload_nT 0 dJ0_isLatin1_aae02_6 rfl rfl ?_
    refine J_sco hk dJ0_isLatin1_aae02_7 flJ0_15 ?_
    refine J_if_ne 17 dJ0_isLatin1_aae02_10 rfl (fun q => ?_) (fun q => ?_)
    · exact absurd rfl q
    · refine J_iconst 1 dJ0_isLatin1_aae02_13 (by decide) ?_
      refine J_goto 18 dJ0_isLatin1_aae02_14 rfl ?_
      exact J_rZ dJ0_isLatin1_aae02_18 rfl rfl)
theorem sok_length {d : Nat} {h : Hp} {k : Nat} (hk : k < 21) : CT (d + 1) YJ0_length_8abf5 [.retAddr k] h (oI (sLen k)) h := CT_of (by decide +kernel) (Nat.le_of_ble_eq_true rfl) (by
  show J (d + 1) YJ0_length_8abf5 0 [.retAddr k] [] h (oI (sLen k)) h
  refine J_aload_nT 0 dJ0_length_8abf5_0 rfl rfl ?_
  refine J_sv hk dJ0_length_8abf5_1 flJ0_9 ?_
  refine J_sal hk dJ0_length_8abf5_4 ?_
  refine J_aload_nT 0 dJ0_length_8abf5_5 rfl rfl ?_
  refine J_cT (as := []) hk YJ0_coder_7d493 0 dJ0_length_8abf5_6 moJ0_coder_7d493 mvJ0_coder_7d493 mlJ0_335 rfl (sok_coder hk) rfl rfl [.int (sLen k)] rfl rfl (st2 := [.int 0, .int (sLen k)]) rfl ?_
  refine J_ishr dJ0_length_8abf5_9 ?_
  have e : sLen k >>> ((0 : Int32) &&& 31) = sLen k := sb_shr0 _
  rw [e]
  exact J_iretI dJ0_length_8abf5_10 rfl)
theorem sok_ck3 {d : Nat} {h : Hp} {i n : Int32} (h0 : ¬ i < 0) (hi : i < n) : CT d YJ3_checkIndex_8e157 [.int i, .int n, .retAddr 2000] h (oI i) h := CT_of (by decide +kernel) (Nat.le_of_ble_eq_true rfl) (by
  show J d YJ3_checkIndex_8e157 0 [.int i, .int n, .retAddr 2000] [] h (oI i) h
  refine J_iload_n 0 dJ3_checkIndex_8e157_0 rfl rfl ?_
  refine J_if_lt 9 dJ3_checkIndex_8e157_1 rfl (fun q => absurd q h0) (fun q => ?_)
  refine J_iload_n 0 dJ3_checkIndex_8e157_4 rfl rfl ?_
  refine J_iload_n 1 dJ3_checkIndex_8e157_5 rfl rfl ?_
  refine J_icmp_lt 16 dJ3_checkIndex_8e157_6 rfl (fun q => ?_) (fun q => absurd hi q)
  refine J_iload_n 0 dJ3_checkIndex_8e157_16 rfl rfl ?_
  exact J_iretI dJ3_checkIndex_8e157_17 rfl)
theorem sok_ck0 {d : Nat} {h : Hp} {i n : Int32} (h0 : ¬ i < 0) (hi : i < n) : CT (d + 1) YJ0_checkIndex_df160 [.int i, .int n] h oV h := CT_of (by decide +kernel) (Nat.le_of_ble_eq_true rfl) (by
  show J (d + 1) YJ0_checkIndex_df160 0 [.int i, .int n] [] h oV h
  refine J_iload_n 0 dJ0_checkIndex_df160_0 rfl rfl ?_
  refine J_iload_n 1 dJ0_checkIndex_df160_1 rfl rfl ?_
  refine J_gsi dJ0_checkIndex_df160_2 flJ0_1053 ?_
  refine J_cS (as := [.int i, .int n, .retAddr 2000]) YJ3_checkIndex_8e157 3 dJ0_checkIndex_df160_5 moJ3_checkIndex_8e157 msJ3_checkIndex_8e157 mlJ0_1059 (sok_ck3 h0 hi) rfl rfl [] rfl rfl (st2 := [.int i]) rfl ?_
  refine J_pop dJ0_checkIndex_df160_8 rfl ?_
  exact J_ret dJ0_checkIndex_df160_9 rfl)
theorem sAt_255 : ∀ k, k < 21 → ∀ j, j < 100 → (((((sTx.getD k []).getD j 0) &&& 255).toUInt32 % 65536).toInt32) = (sTx.getD k []).getD j 0 ∧ narrow .char (.int ((sTx.getD k []).getD j 0)) = .int ((sTx.getD k []).getD j 0) := by decide +kernel
theorem sok_ch1 {d : Nat} {h : Hp} {k : Nat} {i : Int32} (hk : k < 21) (hi : inB i (sN k) = true) : CT (d + 2) YJ1_charAt_3b067 [.retAddr (1000 + k), .int i] h (oI (sAt k i)) h := CT_of (by decide +kernel) (Nat.le_of_ble_eq_true rfl) (by
  have hi2 := inB_ok hi
  have hN := (sT_len k hk).2
  obtain ⟨j, hj, rfl⟩ := vp_in_of hi2 (by show (sTx.getD k []).length < _; omega)
  have ej : (nI j).toNatClampNeg = j := nI_clamp (by have : j < (sTx.getD k []).length := hj; omega)
  have ht := sAt_255 k hk j (by have : j < (sTx.getD k []).length := hj; omega)
  show J (d + 2) YJ1_charAt_3b067 0 [.retAddr (1000 + k), .int (nI j)] [] h (oI (sAt k (nI j))) h
  refine J_iload_n 1 dJ1_charAt_3b067_0 rfl rfl ?_
  refine J_aload_nT 0 dJ1_charAt_3b067_1 rfl rfl ?_
  refine J_sal hk dJ1_charAt_3b067_2 ?_
  refine J_cS (as := [.int (nI j), .int (sLen k)]) YJ0_checkIndex_df160 2 dJ1_charAt_3b067_3 moJ0_checkIndex_df160 msJ0_checkIndex_df160 mlJ1_9 (sok_ck0 (d := d) (fun z => hi2 (Or.inl z)) (nI_lt hj (by show (sTx.getD k []).length < _; omega))) rfl rfl [] rfl rfl (st2 := []) rfl ?_
  refine J_aload_nT 0 dJ1_charAt_3b067_6 rfl rfl ?_
  refine J_iload_n 1 dJ1_charAt_3b067_7 rfl rfl ?_
  refine J_sbl hk hi2 dJ1_charAt_3b067_8 ?_
  refine J_sipush 255 dJ1_charAt_3b067_9 (by decide) ?_
  refine J_iand dJ1_charAt_3b067_12 ?_
  refine J_i2c dJ1_charAt_3b067_13 ?_
  have e : ((sAt k (nI j) &&& 255).toUInt32 % 65536).toInt32 = sAt k (nI j) := by simp only [sAt, ej]; exact ht.1
  rw [e]
  exact J_rN dJ1_charAt_3b067_14 rfl (by simp only [sAt, ej]; exact ht.2))
theorem sok_ch0 {d : Nat} {h : Hp} {k : Nat} {i : Int32} (hk : k < 21) (hi : inB i (sN k) = true) : CT (d + 3) YJ0_charAt_5068e [.retAddr k, .int i] h (oI (sAt k i)) h := CT_of (by decide +kernel) (Nat.le_of_ble_eq_true rfl) (by
  have hi2 := inB_ok hi
  have hN := (sT_len k hk).2
  obtain ⟨j, hj, rfl⟩ := vp_in_of hi2 (by show (sTx.getD k []).length < _; omega)
  have ej : (nI j).toNatClampNeg = j := nI_clamp (by have : j < (sTx.getD k []).length := hj; omega)
  have ht := sAt_255 k hk j (by have : j < (sTx.getD k []).length := hj; omega)
  show J (d + 3) YJ0_charAt_5068e 0 [.retAddr k, .int (nI j)] [] h (oI (sAt k (nI j))) h
  refine J_aload_nT 0 dJ0_charAt_5068e_0 rfl rfl ?_
  refine J_cT (as := []) hk YJ0_isLatin1_aae02 0 dJ0_charAt_5068e_1 moJ0_isLatin1_aae02 mvJ0_isLatin1_aae02 mlJ0_492 rfl (sok_isLatin1 hk) rfl rfl [] rfl rfl (st2 := [.int 1]) rfl ?_
  refine J_if_eq 16 dJ0_charAt_5068e_4 rfl (fun q => absurd q (by decide)) (fun q => ?_)
  refine J_aload_nT 0 dJ0_charAt_5068e_7 rfl rfl ?_
  refine J_sv hk dJ0_charAt_5068e_8 flJ0_9 ?_
  refine J_iload_n 1 dJ0_charAt_5068e_11 rfl rfl ?_
  refine J_cS (as := [.retAddr (1000 + k), .int (nI j)]) YJ1_charAt_3b067 2 dJ0_charAt_5068e_12 moJ1_charAt_3b067 msJ1_charAt_3b067 mlJ0_495 (sok_ch1 hk hi) rfl rfl [] rfl rfl (st2 := [.int (sAt k (nI j))]) rfl ?_
  exact J_rN dJ0_charAt_5068e_15 rfl (by simp only [sAt, ej]; exact ht.2))
section
variable {Φ : Kc → State → Code → Prop} {d pc : Nat} {Y : Mt} {ls st : List Value} {h h' : Hp} {o : Oc}
theorem J_sl {idx k : Nat} (hd : decode Y.2.1 pc = .ok (.invokevirtual idx, 3)) (hl : Cond.methodLink Y.1.cls idx yJ0_length_8abf5 ∈ lw_tbl) (hk : k.blt 21 = true) (hw : ((st.map Value.category).sum).ble 8 = true) (kk : J (d + 2) Y (pc + 3) ls (.int (sLen k) :: st) h o h') : J (d + 2) Y pc ls (.retAddr k :: st) h o h' :=
  J_cT (as := []) (blt_ok hk) YJ0_length_8abf5 0 hd moJ0_length_8abf5 mvJ0_length_8abf5 hl rfl (sok_length (blt_ok hk)) rfl rfl st rfl hw rfl kk
theorem J_sc {idx k : Nat} {i : Int32} (hd : decode Y.2.1 pc = .ok (.invokevirtual idx, 3)) (hl : Cond.methodLink Y.1.cls idx yJ0_charAt_5068e ∈ lw_tbl) (hk : k.blt 21 = true) (hi : inB i (sN k) = true) (hw : ((st.map Value.category).sum).ble 8 = true) (kk : J (d + 4) Y (pc + 3) ls (.int (sAt k i) :: st) h o h') : J (d + 4) Y pc ls (.int i :: .retAddr k :: st) h o h' :=
  J_cT (as := [.int i]) (blt_ok hk) YJ0_charAt_5068e 1 hd moJ0_charAt_5068e mvJ0_charAt_5068e hl rfl (sok_ch0 (blt_ok hk) hi) rfl rfl st rfl hw rfl kk
end
