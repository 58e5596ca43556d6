/-! the classes whose objects the world holds: their fields by the tables -/
set_option maxRecDepth 20000 in
theorem ugX0 : ∀ w ∈ u_ws RX0 TX0 14, w ∈ gWs := fun w hw => List.mem_filter.mpr ⟨(goodIn_r (big := lw_tbl) (u_ws RX0 TX0 14) [339, 341, 343, 345, 347, 349, 351, 353, 355, 357, 359, 361, 363, 365] (by decide +kernel) (by decide +kernel) w hw).1, List.all_eq_true.mp (by decide +kernel : (u_ws RX0 TX0 14).all goodWord = true) w hw⟩
set_option maxRecDepth 20000 in
theorem ugX2 : ∀ w ∈ u_ws RX2 TX2 12, w ∈ gWs := fun w hw => List.mem_filter.mpr ⟨(goodIn_r (big := lw_tbl) (u_ws RX2 TX2 12) [470, 472, 474, 476, 478, 480, 482, 484, 486, 488, 490, 492] (by decide +kernel) (by decide +kernel) w hw).1, List.all_eq_true.mp (by decide +kernel : (u_ws RX2 TX2 12).all goodWord = true) w hw⟩
set_option maxRecDepth 20000 in
theorem ugX3 : ∀ w ∈ u_ws RX3 TX3 11, w ∈ gWs := fun w hw => List.mem_filter.mpr ⟨(goodIn_r (big := lw_tbl) (u_ws RX3 TX3 11) [517, 519, 521, 523, 525, 527, 529, 531, 533, 535, 537] (by decide +kernel) (by decide +kernel) w hw).1, List.all_eq_true.mp (by decide +kernel : (u_ws RX3 TX3 11).all goodWord = true) w hw⟩
set_option maxRecDepth 20000 in
theorem ugX4 : ∀ w ∈ u_ws RX4 TX4 11, w ∈ gWs := fun w hw => List.mem_filter.mpr ⟨(goodIn_r (big := lw_tbl) (u_ws RX4 TX4 11) [784, 786, 788, 790, 792, 794, 796, 798, 800, 802, 804] (by decide +kernel) (by decide +kernel) w hw).1, List.all_eq_true.mp (by decide +kernel : (u_ws RX4 TX4 11).all goodWord = true) w hw⟩
set_option maxRecDepth 20000 in
theorem ugX5 : ∀ w ∈ u_ws RX5 TX5 12, w ∈ gWs := fun w hw => List.mem_filter.mpr ⟨(goodIn_r (big := lw_tbl) (u_ws RX5 TX5 12) [273, 275, 277, 279, 281, 283, 285, 287, 289, 291, 293, 295] (by decide +kernel) (by decide +kernel) w hw).1, List.all_eq_true.mp (by decide +kernel : (u_ws RX5 TX5 12).all goodWord = true) w hw⟩
set_option maxRecDepth 20000 in
theorem ugX6 : ∀ w ∈ u_ws RX6 TX6 5, w ∈ gWs := fun w hw => List.mem_filter.mpr ⟨(goodIn_r (big := lw_tbl) (u_ws RX6 TX6 5) [551, 553, 555, 557, 559] (by decide +kernel) (by decide +kernel) w hw).1, List.all_eq_true.mp (by decide +kernel : (u_ws RX6 TX6 5).all goodWord = true) w hw⟩
set_option maxRecDepth 20000 in
theorem ugX7 : ∀ w ∈ u_ws RX7 TX7 20, w ∈ gWs := fun w hw => List.mem_filter.mpr ⟨(goodIn_r (big := lw_tbl) (u_ws RX7 TX7 20) [402, 404, 406, 408, 410, 412, 414, 416, 418, 420, 422, 424, 426, 428, 430, 432, 434, 436, 438, 440] (by decide +kernel) (by decide +kernel) w hw).1, List.all_eq_true.mp (by decide +kernel : (u_ws RX7 TX7 20).all goodWord = true) w hw⟩
set_option maxRecDepth 20000 in
theorem ugX8 : ∀ w ∈ u_ws RX8 TX8 15, w ∈ gWs := fun w hw => List.mem_filter.mpr ⟨(goodIn_r (big := lw_tbl) (u_ws RX8 TX8 15) [866, 868, 870, 872, 874, 876, 878, 880, 882, 884, 886, 888, 890, 892, 894] (by decide +kernel) (by decide +kernel) w hw).1, List.all_eq_true.mp (by decide +kernel : (u_ws RX8 TX8 15).all goodWord = true) w hw⟩
set_option maxRecDepth 20000 in
theorem ugX9 : ∀ w ∈ u_ws RX9 TX9 9, w ∈ gWs := fun w hw => List.mem_filter.mpr ⟨(goodIn_r (big := lw_tbl) (u_ws RX9 TX9 9) [184, 186, 188, 190, 192, 194, 196, 198, 200] (by decide +kernel) (by decide +kernel) w hw).1, List.all_eq_true.mp (by decide +kernel : (u_ws RX9 TX9 9).all goodWord = true) w hw⟩
set_option maxRecDepth 20000 in
theorem ugX10 : ∀ w ∈ u_ws RX10 TX10 6, w ∈ gWs := fun w hw => List.mem_filter.mpr ⟨(goodIn_r (big := lw_tbl) (u_ws RX10 TX10 6) [213, 215, 217, 219, 221, 223] (by decide +kernel) (by decide +kernel) w hw).1, List.all_eq_true.mp (by decide +kernel : (u_ws RX10 TX10 6).all goodWord = true) w hw⟩
set_option maxRecDepth 20000 in
theorem ugX11 : ∀ w ∈ u_ws RX11 TX11 12, w ∈ gWs := fun w hw => List.mem_filter.mpr ⟨(goodIn_r (big := lw_tbl) (u_ws RX11 TX11 12) [574, 576, 578, 580, 582, 584, 586, 588, 590, 592, 594, 596] (by decide +kernel) (by decide +kernel) w hw).1, List.all_eq_true.mp (by decide +kernel : (u_ws RX11 TX11 12).all goodWord = true) w hw⟩
set_option maxRecDepth 20000 in
theorem ugX12 : ∀ w ∈ u_ws RX12 TX12 58, w ∈ gWs := fun w hw => List.mem_filter.mpr ⟨(goodIn_r (big := lw_tbl) (u_ws RX12 TX12 58) [1956, 1958, 1960, 1962, 1964, 1966, 1968, 1970, 1972, 1974, 1976, 1978, 1980, 1982, 1984, 1986, 1988, 1990, 1992, 1994, 1996, 1998, 2000, 2002, 2004, 2006, 2008, 2010, 2012, 2014, 2016, 2018, 2020, 2022, 2024, 2026, 2028, 2030, 2032, 2034, 2036, 2038, 2040, 2042, 2044, 2046, 2048, 2050, 2052, 2054, 2056, 2058, 2060, 2062, 2064, 2066, 2068, 2070] (by decide +kernel) (by decide +kernel) w hw).1, List.all_eq_true.mp (by decide +kernel : (u_ws RX12 TX12 58).all goodWord = true) w hw⟩
theorem clsF (c : Nat) (hc : c < 12) : vwCl[c]? = some (FC c, FT c, nF c) ∧ (∀ w ∈ u_ws (FC c) (FT c) (nF c), w ∈ gWs) ∧ (∀ k, k < nF c → parseFieldDescriptor (FT c k).2.2.1 = some (tyF c k)) ∧ (∀ a, a < nF c → ∀ b, b < nF c → a ≠ b → (FT c a).2.1 ≠ (FT c b).2.1) := by
  match c, hc with
  | 0, _ => exact ⟨rfl, ugX0, tyX0_ok, nmX0⟩
  | 1, _ => exact ⟨rfl, ugX2, tyX2_ok, nmX2⟩
  | 2, _ => exact ⟨rfl, ugX3, tyX3_ok, nmX3⟩
  | 3, _ => exact ⟨rfl, ugX4, tyX4_ok, nmX4⟩
  | 4, _ => exact ⟨rfl, ugX5, tyX5_ok, nmX5⟩
  | 5, _ => exact ⟨rfl, ugX6, tyX6_ok, nmX6⟩
  | 6, _ => exact ⟨rfl, ugX7, tyX7_ok, nmX7⟩
  | 7, _ => exact ⟨rfl, ugX8, tyX8_ok, nmX8⟩
  | 8, _ => exact ⟨rfl, ugX9, tyX9_ok, nmX9⟩
  | 9, _ => exact ⟨rfl, ugX10, tyX10_ok, nmX10⟩
  | 10, _ => exact ⟨rfl, ugX11, tyX11_ok, nmX11⟩
  | 11, _ => exact ⟨rfl, ugX12, tyX12_ok, nmX12⟩
  | k + 12, h => exact absurd h (by omega)
theorem dflX0 : ∀ j, j < 14 → defaultValue (tyX0 j) = (if refF 0 j then Value.null else .int 0) := by decide +kernel
theorem dflX2 : ∀ j, j < 12 → defaultValue (tyX2 j) = (if refF 1 j then Value.null else .int 0) := by decide +kernel
theorem dflX3 : ∀ j, j < 11 → defaultValue (tyX3 j) = (if refF 2 j then Value.null else .int 0) := by decide +kernel
theorem dflX4 : ∀ j, j < 11 → defaultValue (tyX4 j) = (if refF 3 j then Value.null else .int 0) := by decide +kernel
theorem dflX5 : ∀ j, j < 12 → defaultValue (tyX5 j) = (if refF 4 j then Value.null else .int 0) := by decide +kernel
theorem dflX6 : ∀ j, j < 5 → defaultValue (tyX6 j) = (if refF 5 j then Value.null else .int 0) := by decide +kernel
theorem dflX7 : ∀ j, j < 20 → defaultValue (tyX7 j) = (if refF 6 j then Value.null else .int 0) := by decide +kernel
theorem dflX8 : ∀ j, j < 15 → defaultValue (tyX8 j) = (if refF 7 j then Value.null else .int 0) := by decide +kernel
theorem dflX9 : ∀ j, j < 9 → defaultValue (tyX9 j) = (if refF 8 j then Value.null else .int 0) := by decide +kernel
theorem dflX10 : ∀ j, j < 6 → defaultValue (tyX10 j) = (if refF 9 j then Value.null else .int 0) := by decide +kernel
theorem dflX11 : ∀ j, j < 12 → defaultValue (tyX11 j) = (if refF 10 j then Value.null else .int 0) := by decide +kernel
theorem dflX12 : ∀ j, j < 58 → defaultValue (tyX12 j) = (if refF 11 j then Value.null else .int 0) := by decide +kernel
theorem dfl (c : Nat) (hc : c < 12) : ∀ j, j < nF c → defaultValue (tyF c j) = (if refF c j then Value.null else .int 0) := by
  match c, hc with
  | 0, _ => exact dflX0
  | 1, _ => exact dflX2
  | 2, _ => exact dflX3
  | 3, _ => exact dflX4
  | 4, _ => exact dflX5
  | 5, _ => exact dflX6
  | 6, _ => exact dflX7
  | 7, _ => exact dflX8
  | 8, _ => exact dflX9
  | 9, _ => exact dflX10
  | 10, _ => exact dflX11
  | 11, _ => exact dflX12
  | k + 12, h => exact absurd h (by omega)
