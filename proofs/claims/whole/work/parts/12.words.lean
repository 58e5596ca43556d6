/-! what the tables say of each method, link and field, by their places -/
theorem tb1 {w : Cond} (h : w ∈ tables_1_1) : w ∈ lw_tbl := List.mem_append_right _ (show w ∈ tables_1 from List.mem_append_left _ h)
theorem tb2 {w : Cond} (h : w ∈ tables_1_2) : w ∈ lw_tbl := List.mem_append_right _ (show w ∈ tables_1 from List.mem_append_right _ (List.mem_append_left _ h))
theorem tb3 {w : Cond} (h : w ∈ tables_1_3) : w ∈ lw_tbl := List.mem_append_right _ (show w ∈ tables_1 from List.mem_append_right _ (List.mem_append_right _ (List.mem_append_left _ h)))
theorem tb4 {w : Cond} (h : w ∈ tables_1_4) : w ∈ lw_tbl := List.mem_append_right _ (show w ∈ tables_1 from List.mem_append_right _ (List.mem_append_right _ (List.mem_append_right _ (List.mem_append_left _ h))))
theorem tb5 {w : Cond} (h : w ∈ tables_1_5) : w ∈ lw_tbl := List.mem_append_right _ (show w ∈ tables_1 from List.mem_append_right _ (List.mem_append_right _ (List.mem_append_right _ (List.mem_append_right _ (List.mem_append_left _ h)))))
theorem tb6 {w : Cond} (h : w ∈ tables_1_6) : w ∈ lw_tbl := List.mem_append_right _ (show w ∈ tables_1 from List.mem_append_right _ (List.mem_append_right _ (List.mem_append_right _ (List.mem_append_right _ (List.mem_append_right _ (List.mem_append_left _ h))))))
theorem tb7 {w : Cond} (h : w ∈ tables_1_7) : w ∈ lw_tbl := List.mem_append_right _ (show w ∈ tables_1 from List.mem_append_right _ (List.mem_append_right _ (List.mem_append_right _ (List.mem_append_right _ (List.mem_append_right _ (List.mem_append_right _ (List.mem_append_left _ h)))))))
theorem tb8 {w : Cond} (h : w ∈ tables_1_8) : w ∈ lw_tbl := List.mem_append_right _ (show w ∈ tables_1 from List.mem_append_right _ (List.mem_append_right _ (List.mem_append_right _ (List.mem_append_right _ (List.mem_append_right _ (List.mem_append_right _ (List.mem_append_right _ (List.mem_append_left _ h))))))))
theorem tb9 {w : Cond} (h : w ∈ tables_1_9) : w ∈ lw_tbl := List.mem_append_right _ (show w ∈ tables_1 from List.mem_append_right _ (List.mem_append_right _ (List.mem_append_right _ (List.mem_append_right _ (List.mem_append_right _ (List.mem_append_right _ (List.mem_append_right _ (List.mem_append_right _ (List.mem_append_left _ h)))))))))
theorem tb10 {w : Cond} (h : w ∈ tables_1_10) : w ∈ lw_tbl := List.mem_append_right _ (show w ∈ tables_1 from List.mem_append_right _ (List.mem_append_right _ (List.mem_append_right _ (List.mem_append_right _ (List.mem_append_right _ (List.mem_append_right _ (List.mem_append_right _ (List.mem_append_right _ (List.mem_append_right _ (List.mem_append_left _ h))))))))))
theorem tb11 {w : Cond} (h : w ∈ tables_1_11) : w ∈ lw_tbl := List.mem_append_right _ (show w ∈ tables_1 from List.mem_append_right _ (List.mem_append_right _ (List.mem_append_right _ (List.mem_append_right _ (List.mem_append_right _ (List.mem_append_right _ (List.mem_append_right _ (List.mem_append_right _ (List.mem_append_right _ (List.mem_append_right _ (h)))))))))))
theorem pv1 {q : MethodName × Nat} (h : q ∈ lw_privs_1) : Cond.selects q.1.cls q.1 q.1 ∈ lw_tbl := List.mem_append_left _ (List.mem_map_of_mem (f := fun q => Cond.selects q.1.cls q.1 q.1) (show q ∈ lw_privs from List.mem_append_left _ h))
theorem pv2 {q : MethodName × Nat} (h : q ∈ lw_privs_2) : Cond.selects q.1.cls q.1 q.1 ∈ lw_tbl := List.mem_append_left _ (List.mem_map_of_mem (f := fun q => Cond.selects q.1.cls q.1 q.1) (show q ∈ lw_privs from List.mem_append_right _ (List.mem_append_left _ h)))
theorem pv3 {q : MethodName × Nat} (h : q ∈ lw_privs_3) : Cond.selects q.1.cls q.1 q.1 ∈ lw_tbl := List.mem_append_left _ (List.mem_map_of_mem (f := fun q => Cond.selects q.1.cls q.1 q.1) (show q ∈ lw_privs from List.mem_append_right _ (List.mem_append_right _ (List.mem_append_left _ h))))
theorem pv4 {q : MethodName × Nat} (h : q ∈ lw_privs_4) : Cond.selects q.1.cls q.1 q.1 ∈ lw_tbl := List.mem_append_left _ (List.mem_map_of_mem (f := fun q => Cond.selects q.1.cls q.1 q.1) (show q ∈ lw_privs from List.mem_append_right _ (List.mem_append_right _ (List.mem_append_right _ (List.mem_append_left _ h)))))
theorem pv5 {q : MethodName × Nat} (h : q ∈ lw_privs_5) : Cond.selects q.1.cls q.1 q.1 ∈ lw_tbl := List.mem_append_left _ (List.mem_map_of_mem (f := fun q => Cond.selects q.1.cls q.1 q.1) (show q ∈ lw_privs from List.mem_append_right _ (List.mem_append_right _ (List.mem_append_right _ (List.mem_append_right _ (List.mem_append_left _ h))))))
theorem pv6 {q : MethodName × Nat} (h : q ∈ lw_privs_6) : Cond.selects q.1.cls q.1 q.1 ∈ lw_tbl := List.mem_append_left _ (List.mem_map_of_mem (f := fun q => Cond.selects q.1.cls q.1 q.1) (show q ∈ lw_privs from List.mem_append_right _ (List.mem_append_right _ (List.mem_append_right _ (List.mem_append_right _ (List.mem_append_right _ (List.mem_append_left _ h)))))))
theorem pv7 {q : MethodName × Nat} (h : q ∈ lw_privs_7) : Cond.selects q.1.cls q.1 q.1 ∈ lw_tbl := List.mem_append_left _ (List.mem_map_of_mem (f := fun q => Cond.selects q.1.cls q.1 q.1) (show q ∈ lw_privs from List.mem_append_right _ (List.mem_append_right _ (List.mem_append_right _ (List.mem_append_right _ (List.mem_append_right _ (List.mem_append_right _ (List.mem_append_left _ h))))))))
theorem pv8 {q : MethodName × Nat} (h : q ∈ lw_privs_8) : Cond.selects q.1.cls q.1 q.1 ∈ lw_tbl := List.mem_append_left _ (List.mem_map_of_mem (f := fun q => Cond.selects q.1.cls q.1 q.1) (show q ∈ lw_privs from List.mem_append_right _ (List.mem_append_right _ (List.mem_append_right _ (List.mem_append_right _ (List.mem_append_right _ (List.mem_append_right _ (List.mem_append_right _ (h)))))))))
theorem flX11_9 : FLs RX11 10 0 9 := ⟨by decide, by decide, tb2 (List.mem_of_getElem? (i := 203) rfl)⟩
theorem flX11_13 : FLs RX11 10 1 13 := ⟨by decide, by decide, tb2 (List.mem_of_getElem? (i := 204) rfl)⟩
theorem flX11_17 : FLs RX11 10 2 17 := ⟨by decide, by decide, tb2 (List.mem_of_getElem? (i := 205) rfl)⟩
theorem flX11_25 : FLs RX11 10 3 25 := ⟨by decide, by decide, tb2 (List.mem_of_getElem? (i := 206) rfl)⟩
theorem flX11_32 : FLs RX11 10 4 32 := ⟨by decide, by decide, tb2 (List.mem_of_getElem? (i := 207) rfl)⟩
theorem flX11_39 : FLs RX11 10 5 39 := ⟨by decide, by decide, tb2 (List.mem_of_getElem? (i := 208) rfl)⟩
theorem flX11_46 : FLs RX11 10 6 46 := ⟨by decide, by decide, tb2 (List.mem_of_getElem? (i := 209) rfl)⟩
theorem flX11_53 : FLs RX11 10 7 53 := ⟨by decide, by decide, tb2 (List.mem_of_getElem? (i := 210) rfl)⟩
theorem flX11_60 : FLs RX11 10 8 60 := ⟨by decide, by decide, tb2 (List.mem_of_getElem? (i := 211) rfl)⟩
theorem flX11_64 : FLs RX11 10 9 64 := ⟨by decide, by decide, tb2 (List.mem_of_getElem? (i := 212) rfl)⟩
theorem flX11_67 : FLs RX11 10 10 67 := ⟨by decide, by decide, tb2 (List.mem_of_getElem? (i := 213) rfl)⟩
theorem flX11_70 : FLs RX11 10 11 70 := ⟨by decide, by decide, tb2 (List.mem_of_getElem? (i := 214) rfl)⟩
theorem flX11_90 : FLs RX11 6 1 90 := ⟨by decide, by decide, tb2 (List.mem_of_getElem? (i := 13) rfl)⟩
theorem flX11_107 : FLs RX11 6 7 107 := ⟨by decide, by decide, tb2 (List.mem_of_getElem? (i := 24) rfl)⟩
theorem flX11_117 : FLs RX11 6 0 117 := ⟨by decide, by decide, tb2 (List.mem_of_getElem? (i := 11) rfl)⟩
theorem flX11_123 : FLs RX11 6 3 123 := ⟨by decide, by decide, tb2 (List.mem_of_getElem? (i := 16) rfl)⟩
theorem flX11_126 : FLs RX11 9 5 126 := ⟨by decide, by decide, tb1 (List.mem_of_getElem? (i := 93) rfl)⟩
theorem flX11_134 : FLs RX11 8 1 134 := ⟨by decide, by decide, tb1 (List.mem_of_getElem? (i := 53) rfl)⟩
theorem flX11_143 : FLs RX11 4 6 143 := ⟨by decide, by decide, tb1 (List.mem_of_getElem? (i := 132) rfl)⟩
theorem flX11_146 : FLs RX11 4 5 146 := ⟨by decide, by decide, tb1 (List.mem_of_getElem? (i := 129) rfl)⟩
theorem flX11_149 : FLs RX11 4 7 149 := ⟨by decide, by decide, tb1 (List.mem_of_getElem? (i := 136) rfl)⟩
theorem flX11_152 : FLs RX11 4 8 152 := ⟨by decide, by decide, tb1 (List.mem_of_getElem? (i := 140) rfl)⟩
theorem flX11_155 : FLs RX11 4 10 155 := ⟨by decide, by decide, tb1 (List.mem_of_getElem? (i := 150) rfl)⟩
theorem flX11_159 : FLs RX11 4 11 159 := ⟨by decide, by decide, tb1 (List.mem_of_getElem? (i := 152) rfl)⟩
theorem flX11_162 : FLs RX11 4 9 162 := ⟨by decide, by decide, tb1 (List.mem_of_getElem? (i := 145) rfl)⟩
theorem flX11_179 : FLs RX11 0 0 179 := ⟨by decide, by decide, tb1 (List.mem_of_getElem? (i := 201) rfl)⟩
theorem flX11_184 : FLs RX11 0 2 184 := ⟨by decide, by decide, tb1 (List.mem_of_getElem? (i := 205) rfl)⟩
theorem flX11_187 : FLs RX11 0 3 187 := ⟨by decide, by decide, tb1 (List.mem_of_getElem? (i := 207) rfl)⟩
theorem flX11_190 : FLs RX11 0 4 190 := ⟨by decide, by decide, tb1 (List.mem_of_getElem? (i := 209) rfl)⟩
theorem flX11_193 : FLs RX11 0 5 193 := ⟨by decide, by decide, tb1 (List.mem_of_getElem? (i := 211) rfl)⟩
theorem flX11_196 : FLs RX11 0 1 196 := ⟨by decide, by decide, tb1 (List.mem_of_getElem? (i := 203) rfl)⟩
theorem flX11_211 : FLs RX11 4 3 211 := ⟨by decide, by decide, tb1 (List.mem_of_getElem? (i := 121) rfl)⟩
theorem flX11_224 : FLs RX11 6 9 224 := ⟨by decide, by decide, tb2 (List.mem_of_getElem? (i := 28) rfl)⟩
theorem flX11_235 : FLs RX11 3 0 235 := ⟨by decide, by decide, tb3 (List.mem_of_getElem? (i := 157) rfl)⟩
theorem flX11_240 : FLs RX11 3 1 240 := ⟨by decide, by decide, tb3 (List.mem_of_getElem? (i := 159) rfl)⟩
theorem flX11_247 : FLs RX11 6 16 247 := ⟨by decide, by decide, tb2 (List.mem_of_getElem? (i := 39) rfl)⟩
theorem flX11_255 : FLs RX11 3 2 255 := ⟨by decide, by decide, tb3 (List.mem_of_getElem? (i := 163) rfl)⟩
theorem flX11_258 : FLs RX11 3 3 258 := ⟨by decide, by decide, tb3 (List.mem_of_getElem? (i := 166) rfl)⟩
theorem flX11_268 : FLs RX11 3 4 268 := ⟨by decide, by decide, tb3 (List.mem_of_getElem? (i := 169) rfl)⟩
theorem flX11_271 : FLs RX11 3 5 271 := ⟨by decide, by decide, tb3 (List.mem_of_getElem? (i := 172) rfl)⟩
theorem flX11_274 : FLs RX11 3 6 274 := ⟨by decide, by decide, tb3 (List.mem_of_getElem? (i := 175) rfl)⟩
theorem flX11_277 : FLs RX11 3 7 277 := ⟨by decide, by decide, tb3 (List.mem_of_getElem? (i := 178) rfl)⟩
theorem flX11_284 : FLs RX11 7 5 284 := ⟨by decide, by decide, tb3 (List.mem_of_getElem? (i := 239) rfl)⟩
theorem flX11_289 : FLs RX11 7 8 289 := ⟨by decide, by decide, tb4 (List.mem_of_getElem? (i := 8) rfl)⟩
theorem flX11_292 : FLs RX11 7 9 292 := ⟨by decide, by decide, tb4 (List.mem_of_getElem? (i := 11) rfl)⟩
theorem flX11_295 : FLs RX11 7 3 295 := ⟨by decide, by decide, tb3 (List.mem_of_getElem? (i := 234) rfl)⟩
theorem flX11_298 : FLs RX11 7 10 298 := ⟨by decide, by decide, tb4 (List.mem_of_getElem? (i := 13) rfl)⟩
theorem flX11_301 : FLs RX11 7 11 301 := ⟨by decide, by decide, tb4 (List.mem_of_getElem? (i := 16) rfl)⟩
theorem flX11_304 : FLs RX11 7 12 304 := ⟨by decide, by decide, tb4 (List.mem_of_getElem? (i := 19) rfl)⟩
theorem flX11_307 : FLs RX11 7 14 307 := ⟨by decide, by decide, tb4 (List.mem_of_getElem? (i := 26) rfl)⟩
theorem flX11_310 : FLs RX11 7 4 310 := ⟨by decide, by decide, tb3 (List.mem_of_getElem? (i := 236) rfl)⟩
theorem flX11_313 : FLs RX11 7 7 313 := ⟨by decide, by decide, tb4 (List.mem_of_getElem? (i := 4) rfl)⟩
theorem flX11_316 : FLs RX11 7 2 316 := ⟨by decide, by decide, tb3 (List.mem_of_getElem? (i := 230) rfl)⟩
theorem flX11_319 : FLs RX11 7 1 319 := ⟨by decide, by decide, tb3 (List.mem_of_getElem? (i := 228) rfl)⟩
theorem flX11_325 : FLs RX11 4 4 325 := ⟨by decide, by decide, tb1 (List.mem_of_getElem? (i := 125) rfl)⟩
theorem flX11_358 : FLs RX11 7 13 358 := ⟨by decide, by decide, tb4 (List.mem_of_getElem? (i := 22) rfl)⟩
theorem flX11_371 : FLs RX11 1 11 371 := ⟨by decide, by decide, tb2 (List.mem_of_getElem? (i := 110) rfl)⟩
theorem flX11_385 : FLs RX11 1 0 385 := ⟨by decide, by decide, tb2 (List.mem_of_getElem? (i := 93) rfl)⟩
theorem flX11_388 : FLs RX11 1 1 388 := ⟨by decide, by decide, tb2 (List.mem_of_getElem? (i := 95) rfl)⟩
theorem flX11_395 : FLs RX11 2 1 395 := ⟨by decide, by decide, tb2 (List.mem_of_getElem? (i := 145) rfl)⟩
theorem flX11_401 : FLs RX11 2 4 401 := ⟨by decide, by decide, tb2 (List.mem_of_getElem? (i := 151) rfl)⟩
theorem flX11_404 : FLs RX11 2 3 404 := ⟨by decide, by decide, tb2 (List.mem_of_getElem? (i := 149) rfl)⟩
theorem flX11_414 : FLs RX11 2 0 414 := ⟨by decide, by decide, tb2 (List.mem_of_getElem? (i := 143) rfl)⟩
theorem flX11_417 : FLs RX11 2 2 417 := ⟨by decide, by decide, tb2 (List.mem_of_getElem? (i := 147) rfl)⟩
theorem flX11_422 : FLs RX11 1 2 422 := ⟨by decide, by decide, tb2 (List.mem_of_getElem? (i := 97) rfl)⟩
theorem flX11_425 : FLs RX11 1 3 425 := ⟨by decide, by decide, tb2 (List.mem_of_getElem? (i := 99) rfl)⟩
theorem flX11_431 : FLs RX11 1 5 431 := ⟨by decide, by decide, tb2 (List.mem_of_getElem? (i := 102) rfl)⟩
theorem flX11_456 : FLs RX11 1 6 456 := ⟨by decide, by decide, tb2 (List.mem_of_getElem? (i := 104) rfl)⟩
theorem flX11_486 : FLs RX11 6 12 486 := ⟨by decide, by decide, tb2 (List.mem_of_getElem? (i := 33) rfl)⟩
theorem flX11_492 : FLs RX11 6 13 492 := ⟨by decide, by decide, tb2 (List.mem_of_getElem? (i := 35) rfl)⟩
theorem flX11_501 : FLs RX11 6 11 501 := ⟨by decide, by decide, tb2 (List.mem_of_getElem? (i := 31) rfl)⟩
theorem flX0_9 : FLs RX0 0 0 9 := ⟨by decide, by decide, tb1 (List.mem_of_getElem? (i := 200) rfl)⟩
theorem flX0_15 : FLs RX0 0 1 15 := ⟨by decide, by decide, tb1 (List.mem_of_getElem? (i := 202) rfl)⟩
theorem flX0_18 : FLs RX0 0 2 18 := ⟨by decide, by decide, tb1 (List.mem_of_getElem? (i := 204) rfl)⟩
theorem flX0_21 : FLs RX0 0 3 21 := ⟨by decide, by decide, tb1 (List.mem_of_getElem? (i := 206) rfl)⟩
theorem flX0_24 : FLs RX0 0 4 24 := ⟨by decide, by decide, tb1 (List.mem_of_getElem? (i := 208) rfl)⟩
theorem flX0_27 : FLs RX0 0 5 27 := ⟨by decide, by decide, tb1 (List.mem_of_getElem? (i := 210) rfl)⟩
theorem flX0_30 : FLs RX0 0 6 30 := ⟨by decide, by decide, tb1 (List.mem_of_getElem? (i := 212) rfl)⟩
theorem flX0_33 : FLs RX0 0 7 33 := ⟨by decide, by decide, tb1 (List.mem_of_getElem? (i := 213) rfl)⟩
theorem flX0_36 : FLs RX0 0 8 36 := ⟨by decide, by decide, tb1 (List.mem_of_getElem? (i := 214) rfl)⟩
theorem flX0_40 : FLs RX0 0 9 40 := ⟨by decide, by decide, tb1 (List.mem_of_getElem? (i := 215) rfl)⟩
theorem flX0_43 : FLs RX0 0 10 43 := ⟨by decide, by decide, tb1 (List.mem_of_getElem? (i := 216) rfl)⟩
theorem flX0_46 : FLs RX0 0 11 46 := ⟨by decide, by decide, tb1 (List.mem_of_getElem? (i := 217) rfl)⟩
theorem flX0_49 : FLs RX0 0 12 49 := ⟨by decide, by decide, tb1 (List.mem_of_getElem? (i := 218) rfl)⟩
theorem flX0_52 : FLs RX0 0 13 52 := ⟨by decide, by decide, tb1 (List.mem_of_getElem? (i := 219) rfl)⟩
theorem flX0_56 : FLs RX0 4 7 56 := ⟨by decide, by decide, tb1 (List.mem_of_getElem? (i := 135) rfl)⟩
theorem flX0_61 : FLs RX0 4 5 61 := ⟨by decide, by decide, tb1 (List.mem_of_getElem? (i := 128) rfl)⟩
theorem flX0_66 : FLs RX0 4 1 66 := ⟨by decide, by decide, tb1 (List.mem_of_getElem? (i := 116) rfl)⟩
theorem flX0_69 : FLs RX0 4 0 69 := ⟨by decide, by decide, tb1 (List.mem_of_getElem? (i := 114) rfl)⟩
theorem flX0_73 : FLs RX0 4 2 73 := ⟨by decide, by decide, tb1 (List.mem_of_getElem? (i := 118) rfl)⟩
theorem flX0_82 : FLs RX0 8 3 82 := ⟨by decide, by decide, tb1 (List.mem_of_getElem? (i := 57) rfl)⟩
theorem flX0_85 : FLs RX0 8 4 85 := ⟨by decide, by decide, tb1 (List.mem_of_getElem? (i := 60) rfl)⟩
theorem flX0_99 : FLs RX0 4 3 99 := ⟨by decide, by decide, tb1 (List.mem_of_getElem? (i := 120) rfl)⟩
theorem flX0_100 : FLs RX0 4 4 100 := ⟨by decide, by decide, tb1 (List.mem_of_getElem? (i := 124) rfl)⟩
theorem flX0_103 : FLs RX0 4 9 103 := ⟨by decide, by decide, tb1 (List.mem_of_getElem? (i := 146) rfl)⟩
theorem flX2_9 : FLs RX2 1 0 9 := ⟨by decide, by decide, tb2 (List.mem_of_getElem? (i := 92) rfl)⟩
theorem flX2_15 : FLs RX2 1 1 15 := ⟨by decide, by decide, tb2 (List.mem_of_getElem? (i := 94) rfl)⟩
theorem flX2_18 : FLs RX2 1 2 18 := ⟨by decide, by decide, tb2 (List.mem_of_getElem? (i := 96) rfl)⟩
theorem flX2_21 : FLs RX2 1 3 21 := ⟨by decide, by decide, tb2 (List.mem_of_getElem? (i := 98) rfl)⟩
theorem flX2_25 : FLs RX2 1 4 25 := ⟨by decide, by decide, tb2 (List.mem_of_getElem? (i := 100) rfl)⟩
theorem flX2_29 : FLs RX2 1 5 29 := ⟨by decide, by decide, tb2 (List.mem_of_getElem? (i := 101) rfl)⟩
theorem flX2_32 : FLs RX2 1 6 32 := ⟨by decide, by decide, tb2 (List.mem_of_getElem? (i := 103) rfl)⟩
theorem flX2_36 : FLs RX2 1 7 36 := ⟨by decide, by decide, tb2 (List.mem_of_getElem? (i := 105) rfl)⟩
theorem flX2_39 : FLs RX2 1 8 39 := ⟨by decide, by decide, tb2 (List.mem_of_getElem? (i := 106) rfl)⟩
theorem flX2_42 : FLs RX2 1 9 42 := ⟨by decide, by decide, tb2 (List.mem_of_getElem? (i := 107) rfl)⟩
theorem flX2_45 : FLs RX2 1 10 45 := ⟨by decide, by decide, tb2 (List.mem_of_getElem? (i := 108) rfl)⟩
theorem flX2_48 : FLs RX2 1 11 48 := ⟨by decide, by decide, tb2 (List.mem_of_getElem? (i := 109) rfl)⟩
theorem flX2_65 : FLs RX2 4 9 65 := ⟨by decide, by decide, tb1 (List.mem_of_getElem? (i := 144) rfl)⟩
theorem flX2_70 : FLs RX2 4 4 70 := ⟨by decide, by decide, tb1 (List.mem_of_getElem? (i := 123) rfl)⟩
theorem flX3_9 : FLs RX3 2 0 9 := ⟨by decide, by decide, tb2 (List.mem_of_getElem? (i := 142) rfl)⟩
theorem flX3_15 : FLs RX3 2 1 15 := ⟨by decide, by decide, tb2 (List.mem_of_getElem? (i := 144) rfl)⟩
theorem flX3_18 : FLs RX3 2 2 18 := ⟨by decide, by decide, tb2 (List.mem_of_getElem? (i := 146) rfl)⟩
theorem flX3_22 : FLs RX3 2 3 22 := ⟨by decide, by decide, tb2 (List.mem_of_getElem? (i := 148) rfl)⟩
theorem flX3_25 : FLs RX3 2 4 25 := ⟨by decide, by decide, tb2 (List.mem_of_getElem? (i := 150) rfl)⟩
theorem flX3_28 : FLs RX3 2 5 28 := ⟨by decide, by decide, tb2 (List.mem_of_getElem? (i := 152) rfl)⟩
theorem flX3_31 : FLs RX3 2 6 31 := ⟨by decide, by decide, tb2 (List.mem_of_getElem? (i := 153) rfl)⟩
theorem flX3_34 : FLs RX3 2 7 34 := ⟨by decide, by decide, tb2 (List.mem_of_getElem? (i := 154) rfl)⟩
theorem flX3_37 : FLs RX3 2 8 37 := ⟨by decide, by decide, tb2 (List.mem_of_getElem? (i := 155) rfl)⟩
theorem flX3_40 : FLs RX3 2 9 40 := ⟨by decide, by decide, tb2 (List.mem_of_getElem? (i := 156) rfl)⟩
theorem flX3_43 : FLs RX3 2 10 43 := ⟨by decide, by decide, tb2 (List.mem_of_getElem? (i := 157) rfl)⟩
theorem flX3_52 : FLs RX3 6 7 52 := ⟨by decide, by decide, tb2 (List.mem_of_getElem? (i := 22) rfl)⟩
theorem flX3_64 : FLs RX3 6 6 64 := ⟨by decide, by decide, tb2 (List.mem_of_getElem? (i := 20) rfl)⟩
theorem flX3_71 : FLs RX3 4 9 71 := ⟨by decide, by decide, tb1 (List.mem_of_getElem? (i := 143) rfl)⟩
theorem flX4_9 : FLs RX4 3 0 9 := ⟨by decide, by decide, tb3 (List.mem_of_getElem? (i := 156) rfl)⟩
theorem flX4_15 : FLs RX4 3 1 15 := ⟨by decide, by decide, tb3 (List.mem_of_getElem? (i := 158) rfl)⟩
theorem flX4_19 : FLs RX4 3 2 19 := ⟨by decide, by decide, tb3 (List.mem_of_getElem? (i := 161) rfl)⟩
theorem flX4_23 : FLs RX4 3 3 23 := ⟨by decide, by decide, tb3 (List.mem_of_getElem? (i := 165) rfl)⟩
theorem flX4_26 : FLs RX4 3 4 26 := ⟨by decide, by decide, tb3 (List.mem_of_getElem? (i := 168) rfl)⟩
theorem flX4_29 : FLs RX4 3 5 29 := ⟨by decide, by decide, tb3 (List.mem_of_getElem? (i := 171) rfl)⟩
theorem flX4_32 : FLs RX4 3 6 32 := ⟨by decide, by decide, tb3 (List.mem_of_getElem? (i := 174) rfl)⟩
theorem flX4_35 : FLs RX4 3 7 35 := ⟨by decide, by decide, tb3 (List.mem_of_getElem? (i := 176) rfl)⟩
theorem flX4_38 : FLs RX4 3 8 38 := ⟨by decide, by decide, tb3 (List.mem_of_getElem? (i := 179) rfl)⟩
theorem flX4_41 : FLs RX4 3 9 41 := ⟨by decide, by decide, tb3 (List.mem_of_getElem? (i := 181) rfl)⟩
theorem flX4_44 : FLs RX4 3 10 44 := ⟨by decide, by decide, tb3 (List.mem_of_getElem? (i := 183) rfl)⟩
theorem flX5_9 : FLs RX5 4 0 9 := ⟨by decide, by decide, tb1 (List.mem_of_getElem? (i := 113) rfl)⟩
theorem flX5_15 : FLs RX5 4 1 15 := ⟨by decide, by decide, tb1 (List.mem_of_getElem? (i := 115) rfl)⟩
theorem flX5_19 : FLs RX5 4 2 19 := ⟨by decide, by decide, tb1 (List.mem_of_getElem? (i := 117) rfl)⟩
theorem flX5_23 : FLs RX5 4 3 23 := ⟨by decide, by decide, tb1 (List.mem_of_getElem? (i := 119) rfl)⟩
theorem flX5_26 : FLs RX5 4 4 26 := ⟨by decide, by decide, tb1 (List.mem_of_getElem? (i := 122) rfl)⟩
theorem flX5_29 : FLs RX5 4 5 29 := ⟨by decide, by decide, tb1 (List.mem_of_getElem? (i := 127) rfl)⟩
theorem flX5_33 : FLs RX5 4 6 33 := ⟨by decide, by decide, tb1 (List.mem_of_getElem? (i := 131) rfl)⟩
theorem flX5_36 : FLs RX5 4 7 36 := ⟨by decide, by decide, tb1 (List.mem_of_getElem? (i := 134) rfl)⟩
theorem flX5_39 : FLs RX5 4 8 39 := ⟨by decide, by decide, tb1 (List.mem_of_getElem? (i := 138) rfl)⟩
theorem flX5_42 : FLs RX5 4 9 42 := ⟨by decide, by decide, tb1 (List.mem_of_getElem? (i := 142) rfl)⟩
theorem flX5_45 : FLs RX5 4 10 45 := ⟨by decide, by decide, tb1 (List.mem_of_getElem? (i := 148) rfl)⟩
theorem flX5_49 : FLs RX5 4 11 49 := ⟨by decide, by decide, tb1 (List.mem_of_getElem? (i := 151) rfl)⟩
theorem flX6_9 : FLs RX6 5 0 9 := ⟨by decide, by decide, tb2 (List.mem_of_getElem? (i := 187) rfl)⟩
theorem flX6_15 : FLs RX6 5 1 15 := ⟨by decide, by decide, tb2 (List.mem_of_getElem? (i := 188) rfl)⟩
theorem flX6_19 : FLs RX6 5 2 19 := ⟨by decide, by decide, tb2 (List.mem_of_getElem? (i := 189) rfl)⟩
theorem flX6_22 : FLs RX6 5 3 22 := ⟨by decide, by decide, tb2 (List.mem_of_getElem? (i := 190) rfl)⟩
theorem flX6_25 : FLs RX6 5 4 25 := ⟨by decide, by decide, tb2 (List.mem_of_getElem? (i := 191) rfl)⟩
theorem flX6_33 : FLs RX6 6 9 33 := ⟨by decide, by decide, tb2 (List.mem_of_getElem? (i := 27) rfl)⟩
theorem flX6_42 : FLs RX6 3 2 42 := ⟨by decide, by decide, tb3 (List.mem_of_getElem? (i := 162) rfl)⟩
theorem flX6_48 : FLs RX6 6 0 48 := ⟨by decide, by decide, tb2 (List.mem_of_getElem? (i := 10) rfl)⟩
theorem flX6_63 : FLs RX6 6 7 63 := ⟨by decide, by decide, tb2 (List.mem_of_getElem? (i := 23) rfl)⟩
theorem flX6_70 : FLs RX6 4 10 70 := ⟨by decide, by decide, tb1 (List.mem_of_getElem? (i := 149) rfl)⟩
theorem flX6_85 : FLs RX6 4 8 85 := ⟨by decide, by decide, tb1 (List.mem_of_getElem? (i := 139) rfl)⟩
theorem flX7_9 : FLs RX7 6 0 9 := ⟨by decide, by decide, tb2 (List.mem_of_getElem? (i := 9) rfl)⟩
theorem flX7_15 : FLs RX7 6 1 15 := ⟨by decide, by decide, tb2 (List.mem_of_getElem? (i := 12) rfl)⟩
theorem flX7_21 : FLs RX7 6 2 21 := ⟨by decide, by decide, tb2 (List.mem_of_getElem? (i := 14) rfl)⟩
theorem flX7_25 : FLs RX7 6 3 25 := ⟨by decide, by decide, tb2 (List.mem_of_getElem? (i := 15) rfl)⟩
theorem flX7_29 : FLs RX7 6 4 29 := ⟨by decide, by decide, tb2 (List.mem_of_getElem? (i := 17) rfl)⟩
theorem flX7_35 : FLs RX7 6 5 35 := ⟨by decide, by decide, tb2 (List.mem_of_getElem? (i := 18) rfl)⟩
theorem flX7_39 : FLs RX7 6 6 39 := ⟨by decide, by decide, tb2 (List.mem_of_getElem? (i := 19) rfl)⟩
theorem flX7_42 : FLs RX7 6 7 42 := ⟨by decide, by decide, tb2 (List.mem_of_getElem? (i := 21) rfl)⟩
theorem flX7_47 : FLs RX7 6 8 47 := ⟨by decide, by decide, tb2 (List.mem_of_getElem? (i := 25) rfl)⟩
theorem flX7_51 : FLs RX7 6 9 51 := ⟨by decide, by decide, tb2 (List.mem_of_getElem? (i := 26) rfl)⟩
theorem flX7_56 : FLs RX7 6 10 56 := ⟨by decide, by decide, tb2 (List.mem_of_getElem? (i := 29) rfl)⟩
theorem flX7_60 : FLs RX7 6 11 60 := ⟨by decide, by decide, tb2 (List.mem_of_getElem? (i := 30) rfl)⟩
theorem flX7_63 : FLs RX7 6 12 63 := ⟨by decide, by decide, tb2 (List.mem_of_getElem? (i := 32) rfl)⟩
theorem flX7_66 : FLs RX7 6 13 66 := ⟨by decide, by decide, tb2 (List.mem_of_getElem? (i := 34) rfl)⟩
theorem flX7_72 : FLs RX7 6 14 72 := ⟨by decide, by decide, tb2 (List.mem_of_getElem? (i := 36) rfl)⟩
theorem flX7_76 : FLs RX7 6 15 76 := ⟨by decide, by decide, tb2 (List.mem_of_getElem? (i := 37) rfl)⟩
theorem flX7_79 : FLs RX7 6 16 79 := ⟨by decide, by decide, tb2 (List.mem_of_getElem? (i := 38) rfl)⟩
theorem flX7_82 : FLs RX7 6 17 82 := ⟨by decide, by decide, tb2 (List.mem_of_getElem? (i := 40) rfl)⟩
theorem flX7_85 : FLs RX7 6 18 85 := ⟨by decide, by decide, tb2 (List.mem_of_getElem? (i := 41) rfl)⟩
theorem flX7_89 : FLs RX7 6 19 89 := ⟨by decide, by decide, tb2 (List.mem_of_getElem? (i := 42) rfl)⟩
theorem flX7_141 : FLs RX7 8 0 141 := ⟨by decide, by decide, tb1 (List.mem_of_getElem? (i := 50) rfl)⟩
theorem flX7_148 : FLs RX7 8 1 148 := ⟨by decide, by decide, tb1 (List.mem_of_getElem? (i := 54) rfl)⟩
theorem flX7_151 : FLs RX7 4 7 151 := ⟨by decide, by decide, tb1 (List.mem_of_getElem? (i := 137) rfl)⟩
theorem flX7_154 : FLs RX7 4 8 154 := ⟨by decide, by decide, tb1 (List.mem_of_getElem? (i := 141) rfl)⟩
theorem flX7_157 : FLs RX7 4 6 157 := ⟨by decide, by decide, tb1 (List.mem_of_getElem? (i := 133) rfl)⟩
theorem flX7_160 : FLs RX7 4 5 160 := ⟨by decide, by decide, tb1 (List.mem_of_getElem? (i := 130) rfl)⟩
theorem flX7_163 : FLs RX7 7 9 163 := ⟨by decide, by decide, tb4 (List.mem_of_getElem? (i := 10) rfl)⟩
theorem flX7_168 : FLs RX7 7 14 168 := ⟨by decide, by decide, tb4 (List.mem_of_getElem? (i := 25) rfl)⟩
theorem flX7_172 : FLs RX7 7 3 172 := ⟨by decide, by decide, tb3 (List.mem_of_getElem? (i := 233) rfl)⟩
theorem flX7_175 : FLs RX7 7 8 175 := ⟨by decide, by decide, tb4 (List.mem_of_getElem? (i := 7) rfl)⟩
theorem flX7_199 : FLs RX7 3 2 199 := ⟨by decide, by decide, tb3 (List.mem_of_getElem? (i := 164) rfl)⟩
theorem flX7_202 : FLs RX7 3 3 202 := ⟨by decide, by decide, tb3 (List.mem_of_getElem? (i := 167) rfl)⟩
theorem flX7_209 : FLs RX7 3 7 209 := ⟨by decide, by decide, tb3 (List.mem_of_getElem? (i := 177) rfl)⟩
theorem flX7_212 : FLs RX7 4 11 212 := ⟨by decide, by decide, tb1 (List.mem_of_getElem? (i := 153) rfl)⟩
theorem flX7_222 : FLs RX7 3 9 222 := ⟨by decide, by decide, tb3 (List.mem_of_getElem? (i := 182) rfl)⟩
theorem flX7_225 : FLs RX7 4 9 225 := ⟨by decide, by decide, tb1 (List.mem_of_getElem? (i := 147) rfl)⟩
theorem flX7_228 : FLs RX7 3 8 228 := ⟨by decide, by decide, tb3 (List.mem_of_getElem? (i := 180) rfl)⟩
theorem flX7_238 : FLs RX7 3 1 238 := ⟨by decide, by decide, tb3 (List.mem_of_getElem? (i := 160) rfl)⟩
theorem flX7_249 : FLs RX7 3 5 249 := ⟨by decide, by decide, tb3 (List.mem_of_getElem? (i := 173) rfl)⟩
theorem flX7_278 : FLs RX7 7 2 278 := ⟨by decide, by decide, tb3 (List.mem_of_getElem? (i := 231) rfl)⟩
theorem flX7_281 : FLs RX7 7 0 281 := ⟨by decide, by decide, tb3 (List.mem_of_getElem? (i := 226) rfl)⟩
theorem flX7_292 : FLs RX7 7 5 292 := ⟨by decide, by decide, tb4 (List.mem_of_getElem? (i := 0) rfl)⟩
theorem flX7_295 : FLs RX7 7 6 295 := ⟨by decide, by decide, tb4 (List.mem_of_getElem? (i := 2) rfl)⟩
theorem flX7_296 : FLs RX7 7 7 296 := ⟨by decide, by decide, tb4 (List.mem_of_getElem? (i := 5) rfl)⟩
theorem flX7_299 : FLs RX7 3 10 299 := ⟨by decide, by decide, tb3 (List.mem_of_getElem? (i := 184) rfl)⟩
theorem flX7_309 : FLs RX7 3 4 309 := ⟨by decide, by decide, tb3 (List.mem_of_getElem? (i := 170) rfl)⟩
theorem flX7_318 : FLs RX7 7 10 318 := ⟨by decide, by decide, tb4 (List.mem_of_getElem? (i := 14) rfl)⟩
theorem flX7_321 : FLs RX7 7 12 321 := ⟨by decide, by decide, tb4 (List.mem_of_getElem? (i := 20) rfl)⟩
theorem flX7_324 : FLs RX7 7 11 324 := ⟨by decide, by decide, tb4 (List.mem_of_getElem? (i := 17) rfl)⟩
theorem flX7_327 : FLs RX7 4 4 327 := ⟨by decide, by decide, tb1 (List.mem_of_getElem? (i := 126) rfl)⟩
theorem flX7_378 : FLs RX7 7 13 378 := ⟨by decide, by decide, tb4 (List.mem_of_getElem? (i := 23) rfl)⟩
theorem flX7_381 : FLs RX7 7 4 381 := ⟨by decide, by decide, tb3 (List.mem_of_getElem? (i := 237) rfl)⟩
theorem flX7_402 : FLs RX7 8 3 402 := ⟨by decide, by decide, tb1 (List.mem_of_getElem? (i := 58) rfl)⟩
theorem flX8_9 : FLs RX8 7 0 9 := ⟨by decide, by decide, tb3 (List.mem_of_getElem? (i := 225) rfl)⟩
theorem flX8_15 : FLs RX8 7 1 15 := ⟨by decide, by decide, tb3 (List.mem_of_getElem? (i := 227) rfl)⟩
theorem flX8_18 : FLs RX8 7 2 18 := ⟨by decide, by decide, tb3 (List.mem_of_getElem? (i := 229) rfl)⟩
theorem flX8_22 : FLs RX8 7 3 22 := ⟨by decide, by decide, tb3 (List.mem_of_getElem? (i := 232) rfl)⟩
theorem flX8_25 : FLs RX8 7 4 25 := ⟨by decide, by decide, tb3 (List.mem_of_getElem? (i := 235) rfl)⟩
theorem flX8_28 : FLs RX8 7 5 28 := ⟨by decide, by decide, tb3 (List.mem_of_getElem? (i := 238) rfl)⟩
theorem flX8_31 : FLs RX8 7 6 31 := ⟨by decide, by decide, tb4 (List.mem_of_getElem? (i := 1) rfl)⟩
theorem flX8_34 : FLs RX8 7 7 34 := ⟨by decide, by decide, tb4 (List.mem_of_getElem? (i := 3) rfl)⟩
theorem flX8_37 : FLs RX8 7 8 37 := ⟨by decide, by decide, tb4 (List.mem_of_getElem? (i := 6) rfl)⟩
theorem flX8_40 : FLs RX8 7 9 40 := ⟨by decide, by decide, tb4 (List.mem_of_getElem? (i := 9) rfl)⟩
theorem flX8_43 : FLs RX8 7 10 43 := ⟨by decide, by decide, tb4 (List.mem_of_getElem? (i := 12) rfl)⟩
theorem flX8_46 : FLs RX8 7 11 46 := ⟨by decide, by decide, tb4 (List.mem_of_getElem? (i := 15) rfl)⟩
theorem flX8_49 : FLs RX8 7 12 49 := ⟨by decide, by decide, tb4 (List.mem_of_getElem? (i := 18) rfl)⟩
theorem flX8_52 : FLs RX8 7 13 52 := ⟨by decide, by decide, tb4 (List.mem_of_getElem? (i := 21) rfl)⟩
theorem flX8_55 : FLs RX8 7 14 55 := ⟨by decide, by decide, tb4 (List.mem_of_getElem? (i := 24) rfl)⟩
theorem flX9_9 : FLs RX9 8 0 9 := ⟨by decide, by decide, tb1 (List.mem_of_getElem? (i := 49) rfl)⟩
theorem flX9_15 : FLs RX9 8 1 15 := ⟨by decide, by decide, tb1 (List.mem_of_getElem? (i := 51) rfl)⟩
theorem flX9_18 : FLs RX9 8 2 18 := ⟨by decide, by decide, tb1 (List.mem_of_getElem? (i := 55) rfl)⟩
theorem flX9_22 : FLs RX9 8 3 22 := ⟨by decide, by decide, tb1 (List.mem_of_getElem? (i := 56) rfl)⟩
theorem flX9_25 : FLs RX9 8 4 25 := ⟨by decide, by decide, tb1 (List.mem_of_getElem? (i := 59) rfl)⟩
theorem flX9_28 : FLs RX9 8 5 28 := ⟨by decide, by decide, tb1 (List.mem_of_getElem? (i := 61) rfl)⟩
theorem flX9_31 : FLs RX9 8 6 31 := ⟨by decide, by decide, tb1 (List.mem_of_getElem? (i := 62) rfl)⟩
theorem flX9_34 : FLs RX9 8 7 34 := ⟨by decide, by decide, tb1 (List.mem_of_getElem? (i := 63) rfl)⟩
theorem flX9_38 : FLs RX9 8 8 38 := ⟨by decide, by decide, tb1 (List.mem_of_getElem? (i := 64) rfl)⟩
theorem flX10_9 : FLs RX10 9 1 9 := ⟨by decide, by decide, tb1 (List.mem_of_getElem? (i := 88) rfl)⟩
theorem flX10_15 : FLs RX10 9 2 15 := ⟨by decide, by decide, tb1 (List.mem_of_getElem? (i := 89) rfl)⟩
theorem flX10_18 : FLs RX10 9 3 18 := ⟨by decide, by decide, tb1 (List.mem_of_getElem? (i := 90) rfl)⟩
theorem flX10_21 : FLs RX10 9 4 21 := ⟨by decide, by decide, tb1 (List.mem_of_getElem? (i := 91) rfl)⟩
theorem flX10_28 : FLs RX10 9 5 28 := ⟨by decide, by decide, tb1 (List.mem_of_getElem? (i := 92) rfl)⟩
theorem flX10_32 : FLs RX10 9 0 32 := ⟨by decide, by decide, tb1 (List.mem_of_getElem? (i := 87) rfl)⟩
theorem flX10_36 : FLs RX10 8 1 36 := ⟨by decide, by decide, tb1 (List.mem_of_getElem? (i := 52) rfl)⟩
theorem flX12_8 : FLs RX12 11 1 8 := ⟨by decide, by decide, tb8 (List.mem_of_getElem? (i := 100) rfl)⟩
theorem flX12_14 : FLs RX12 11 2 14 := ⟨by decide, by decide, tb8 (List.mem_of_getElem? (i := 101) rfl)⟩
theorem flX12_17 : FLs RX12 11 3 17 := ⟨by decide, by decide, tb8 (List.mem_of_getElem? (i := 102) rfl)⟩
theorem flX12_20 : FLs RX12 11 5 20 := ⟨by decide, by decide, tb8 (List.mem_of_getElem? (i := 104) rfl)⟩
theorem flX12_23 : FLs RX12 11 9 23 := ⟨by decide, by decide, tb8 (List.mem_of_getElem? (i := 108) rfl)⟩
theorem flX12_27 : FLs RX12 11 12 27 := ⟨by decide, by decide, tb8 (List.mem_of_getElem? (i := 111) rfl)⟩
theorem flX12_30 : FLs RX12 11 13 30 := ⟨by decide, by decide, tb8 (List.mem_of_getElem? (i := 112) rfl)⟩
theorem flX12_33 : FLs RX12 11 14 33 := ⟨by decide, by decide, tb8 (List.mem_of_getElem? (i := 113) rfl)⟩
theorem flX12_36 : FLs RX12 11 15 36 := ⟨by decide, by decide, tb8 (List.mem_of_getElem? (i := 114) rfl)⟩
theorem flX12_39 : FLs RX12 11 16 39 := ⟨by decide, by decide, tb8 (List.mem_of_getElem? (i := 115) rfl)⟩
theorem flX12_42 : FLs RX12 11 18 42 := ⟨by decide, by decide, tb8 (List.mem_of_getElem? (i := 117) rfl)⟩
theorem flX12_45 : FLs RX12 11 21 45 := ⟨by decide, by decide, tb8 (List.mem_of_getElem? (i := 120) rfl)⟩
theorem flX12_49 : FLs RX12 11 22 49 := ⟨by decide, by decide, tb8 (List.mem_of_getElem? (i := 121) rfl)⟩
theorem flX12_52 : FLs RX12 11 23 52 := ⟨by decide, by decide, tb8 (List.mem_of_getElem? (i := 122) rfl)⟩
theorem flX12_55 : FLs RX12 11 31 55 := ⟨by decide, by decide, tb8 (List.mem_of_getElem? (i := 130) rfl)⟩
theorem flX12_58 : FLs RX12 11 32 58 := ⟨by decide, by decide, tb8 (List.mem_of_getElem? (i := 131) rfl)⟩
theorem flX12_61 : FLs RX12 11 33 61 := ⟨by decide, by decide, tb8 (List.mem_of_getElem? (i := 132) rfl)⟩
theorem flX12_64 : FLs RX12 11 34 64 := ⟨by decide, by decide, tb8 (List.mem_of_getElem? (i := 133) rfl)⟩
theorem flX12_67 : FLs RX12 11 36 67 := ⟨by decide, by decide, tb8 (List.mem_of_getElem? (i := 135) rfl)⟩
theorem flX12_70 : FLs RX12 11 37 70 := ⟨by decide, by decide, tb8 (List.mem_of_getElem? (i := 136) rfl)⟩
theorem flX12_73 : FLs RX12 11 38 73 := ⟨by decide, by decide, tb8 (List.mem_of_getElem? (i := 137) rfl)⟩
theorem flX12_76 : FLs RX12 11 39 76 := ⟨by decide, by decide, tb8 (List.mem_of_getElem? (i := 138) rfl)⟩
theorem flX12_79 : FLs RX12 11 40 79 := ⟨by decide, by decide, tb8 (List.mem_of_getElem? (i := 139) rfl)⟩
theorem flX12_82 : FLs RX12 11 41 82 := ⟨by decide, by decide, tb8 (List.mem_of_getElem? (i := 140) rfl)⟩
theorem flX12_85 : FLs RX12 11 42 85 := ⟨by decide, by decide, tb8 (List.mem_of_getElem? (i := 141) rfl)⟩
theorem flX12_88 : FLs RX12 11 43 88 := ⟨by decide, by decide, tb8 (List.mem_of_getElem? (i := 142) rfl)⟩
theorem flX12_91 : FLs RX12 11 44 91 := ⟨by decide, by decide, tb8 (List.mem_of_getElem? (i := 143) rfl)⟩
theorem flX12_94 : FLs RX12 11 45 94 := ⟨by decide, by decide, tb8 (List.mem_of_getElem? (i := 144) rfl)⟩
theorem flX12_97 : FLs RX12 11 46 97 := ⟨by decide, by decide, tb8 (List.mem_of_getElem? (i := 145) rfl)⟩
theorem flX12_100 : FLs RX12 11 47 100 := ⟨by decide, by decide, tb8 (List.mem_of_getElem? (i := 146) rfl)⟩
theorem flX12_103 : FLs RX12 11 48 103 := ⟨by decide, by decide, tb8 (List.mem_of_getElem? (i := 147) rfl)⟩
theorem flX12_106 : FLs RX12 11 49 106 := ⟨by decide, by decide, tb8 (List.mem_of_getElem? (i := 148) rfl)⟩
theorem flX12_109 : FLs RX12 11 50 109 := ⟨by decide, by decide, tb8 (List.mem_of_getElem? (i := 149) rfl)⟩
theorem flX12_112 : FLs RX12 11 53 112 := ⟨by decide, by decide, tb8 (List.mem_of_getElem? (i := 152) rfl)⟩
theorem flX12_115 : FLs RX12 11 54 115 := ⟨by decide, by decide, tb8 (List.mem_of_getElem? (i := 153) rfl)⟩
theorem flX12_118 : FLs RX12 11 55 118 := ⟨by decide, by decide, tb8 (List.mem_of_getElem? (i := 154) rfl)⟩
theorem flX12_122 : FLs RX12 11 0 122 := ⟨by decide, by decide, tb8 (List.mem_of_getElem? (i := 99) rfl)⟩
theorem flX12_127 : FLs RX12 11 6 127 := ⟨by decide, by decide, tb8 (List.mem_of_getElem? (i := 105) rfl)⟩
theorem flX12_134 : FLs RX12 11 7 134 := ⟨by decide, by decide, tb8 (List.mem_of_getElem? (i := 106) rfl)⟩
theorem flX12_137 : FLs RX12 11 8 137 := ⟨by decide, by decide, tb8 (List.mem_of_getElem? (i := 107) rfl)⟩
theorem flX12_140 : FLs RX12 11 17 140 := ⟨by decide, by decide, tb8 (List.mem_of_getElem? (i := 116) rfl)⟩
theorem flX12_181 : FLs RX12 11 11 181 := ⟨by decide, by decide, tb8 (List.mem_of_getElem? (i := 110) rfl)⟩
theorem flX12_184 : FLs RX12 11 20 184 := ⟨by decide, by decide, tb8 (List.mem_of_getElem? (i := 119) rfl)⟩
theorem flX12_211 : FLs RX12 11 10 211 := ⟨by decide, by decide, tb8 (List.mem_of_getElem? (i := 109) rfl)⟩
theorem flX12_245 : FLs RX12 11 19 245 := ⟨by decide, by decide, tb8 (List.mem_of_getElem? (i := 118) rfl)⟩
theorem flX12_274 : FLs RX12 11 24 274 := ⟨by decide, by decide, tb8 (List.mem_of_getElem? (i := 123) rfl)⟩
theorem flX12_291 : FLs RX12 11 26 291 := ⟨by decide, by decide, tb8 (List.mem_of_getElem? (i := 125) rfl)⟩
theorem flX12_298 : FLs RX12 11 25 298 := ⟨by decide, by decide, tb8 (List.mem_of_getElem? (i := 124) rfl)⟩
theorem flX12_300 : FLs RX12 11 27 300 := ⟨by decide, by decide, tb8 (List.mem_of_getElem? (i := 126) rfl)⟩
theorem flX12_303 : FLs RX12 11 28 303 := ⟨by decide, by decide, tb8 (List.mem_of_getElem? (i := 127) rfl)⟩
theorem flX12_306 : FLs RX12 11 29 306 := ⟨by decide, by decide, tb8 (List.mem_of_getElem? (i := 128) rfl)⟩
theorem flX12_309 : FLs RX12 11 30 309 := ⟨by decide, by decide, tb8 (List.mem_of_getElem? (i := 129) rfl)⟩
theorem flX12_351 : FLs RX12 11 35 351 := ⟨by decide, by decide, tb8 (List.mem_of_getElem? (i := 134) rfl)⟩
theorem flX12_421 : FLs RX12 11 51 421 := ⟨by decide, by decide, tb8 (List.mem_of_getElem? (i := 150) rfl)⟩
theorem flX12_424 : FLs RX12 11 52 424 := ⟨by decide, by decide, tb8 (List.mem_of_getElem? (i := 151) rfl)⟩
theorem flX12_455 : FLs RX12 11 56 455 := ⟨by decide, by decide, tb8 (List.mem_of_getElem? (i := 155) rfl)⟩
theorem flX12_461 : FLs RX12 11 57 461 := ⟨by decide, by decide, tb8 (List.mem_of_getElem? (i := 156) rfl)⟩
theorem flX12_484 : FLs RX12 11 4 484 := ⟨by decide, by decide, tb8 (List.mem_of_getElem? (i := 103) rfl)⟩
theorem flJ0_9 : Cond.fieldLink RJ0 9 "java/lang/String" "value" "[B" ∈ lw_tbl := tb11 (List.mem_of_getElem? (i := 84) rfl)
theorem flJ0_15 : Cond.fieldLink RJ0 15 "java/lang/String" "coder" "B" ∈ lw_tbl := tb11 (List.mem_of_getElem? (i := 85) rfl)
theorem flJ0_38 : Cond.fieldLink RJ0 38 "java/lang/String" "COMPACT_STRINGS" "Z" ∈ lw_tbl := tb5 (List.mem_of_getElem? (i := 73) rfl)
theorem flJ0_1053 : Cond.fieldLink RJ0 1053 "jdk/internal/util/Preconditions" "SIOOBE_FORMATTER" "Ljava/util/function/BiFunction;" ∈ lw_tbl := tb5 (List.mem_of_getElem? (i := 89) rfl)
theorem flJ2_44 : Cond.fieldLink RJ2 44 "java/lang/StringUTF16" "$assertionsDisabled" "Z" ∈ lw_tbl := tb5 (List.mem_of_getElem? (i := 107) rfl)
theorem flJ2_59 : Cond.fieldLink RJ2 59 "java/lang/StringUTF16" "HI_BYTE_SHIFT" "I" ∈ lw_tbl := tb5 (List.mem_of_getElem? (i := 109) rfl)
theorem flJ2_63 : Cond.fieldLink RJ2 63 "java/lang/StringUTF16" "LO_BYTE_SHIFT" "I" ∈ lw_tbl := tb5 (List.mem_of_getElem? (i := 111) rfl)
def YJ0_charAt_5068e : Mt := (yJ0_charAt_5068e, cJ0_charAt_5068e, 2, (some .char))
theorem moJ0_charAt_5068e : MO YJ0_charAt_5068e 1 := ⟨tb5 (List.mem_of_getElem? (i := 78) rfl), tb1 (List.mem_of_getElem? (i := 19) rfl), by decide +kernel, by decide +kernel, by decide⟩
theorem miJ0_charAt_5068e : Cond.instanceMethod yJ0_charAt_5068e ∈ lw_tbl := tb5 (List.mem_of_getElem? (i := 76) rfl)
theorem mvJ0_charAt_5068e : MV YJ0_charAt_5068e := ⟨miJ0_charAt_5068e, tb5 (List.mem_of_getElem? (i := 77) rfl)⟩
def YJ0_checkIndex_df160 : Mt := (yJ0_checkIndex_df160, cJ0_checkIndex_df160, 2, none)
theorem moJ0_checkIndex_df160 : MO YJ0_checkIndex_df160 2 := ⟨tb5 (List.mem_of_getElem? (i := 88) rfl), tb1 (List.mem_of_getElem? (i := 19) rfl), by decide +kernel, by decide +kernel, by decide⟩
theorem msJ0_checkIndex_df160 : Cond.static yJ0_checkIndex_df160 ∈ lw_tbl := tb5 (List.mem_of_getElem? (i := 87) rfl)
def YJ0_coder_7d493 : Mt := (yJ0_coder_7d493, cJ0_coder_7d493, 1, (some .byte))
theorem moJ0_coder_7d493 : MO YJ0_coder_7d493 0 := ⟨tb5 (List.mem_of_getElem? (i := 72) rfl), tb1 (List.mem_of_getElem? (i := 19) rfl), by decide +kernel, by decide +kernel, by decide⟩
theorem miJ0_coder_7d493 : Cond.instanceMethod yJ0_coder_7d493 ∈ lw_tbl := tb5 (List.mem_of_getElem? (i := 70) rfl)
theorem mvJ0_coder_7d493 : MV YJ0_coder_7d493 := ⟨miJ0_coder_7d493, tb5 (List.mem_of_getElem? (i := 71) rfl)⟩
def YJ0_isLatin1_aae02 : Mt := (yJ0_isLatin1_aae02, cJ0_isLatin1_aae02, 1, (some .boolean))
theorem moJ0_isLatin1_aae02 : MO YJ0_isLatin1_aae02 0 := ⟨tb5 (List.mem_of_getElem? (i := 82) rfl), tb1 (List.mem_of_getElem? (i := 19) rfl), by decide +kernel, by decide +kernel, by decide⟩
theorem miJ0_isLatin1_aae02 : Cond.instanceMethod yJ0_isLatin1_aae02 ∈ lw_tbl := tb5 (List.mem_of_getElem? (i := 80) rfl)
theorem mvJ0_isLatin1_aae02 : MV YJ0_isLatin1_aae02 := ⟨miJ0_isLatin1_aae02, tb5 (List.mem_of_getElem? (i := 81) rfl)⟩
def YJ0_length_8abf5 : Mt := (yJ0_length_8abf5, cJ0_length_8abf5, 1, (some .int))
theorem moJ0_length_8abf5 : MO YJ0_length_8abf5 0 := ⟨tb5 (List.mem_of_getElem? (i := 68) rfl), tb1 (List.mem_of_getElem? (i := 19) rfl), by decide +kernel, by decide +kernel, by decide⟩
theorem miJ0_length_8abf5 : Cond.instanceMethod yJ0_length_8abf5 ∈ lw_tbl := tb5 (List.mem_of_getElem? (i := 66) rfl)
theorem mvJ0_length_8abf5 : MV YJ0_length_8abf5 := ⟨miJ0_length_8abf5, tb5 (List.mem_of_getElem? (i := 67) rfl)⟩
def YJ1_charAt_3b067 : Mt := (yJ1_charAt_3b067, cJ1_charAt_3b067, 2, (some .char))
theorem moJ1_charAt_3b067 : MO YJ1_charAt_3b067 2 := ⟨tb5 (List.mem_of_getElem? (i := 85) rfl), tb1 (List.mem_of_getElem? (i := 20) rfl), by decide +kernel, by decide +kernel, by decide⟩
theorem msJ1_charAt_3b067 : Cond.static yJ1_charAt_3b067 ∈ lw_tbl := tb5 (List.mem_of_getElem? (i := 84) rfl)
def YJ2_charAt_3b067 : Mt := (yJ2_charAt_3b067, cJ2_charAt_3b067, 2, (some .char))
theorem moJ2_charAt_3b067 : MO YJ2_charAt_3b067 2 := ⟨tb5 (List.mem_of_getElem? (i := 96) rfl), tb1 (List.mem_of_getElem? (i := 22) rfl), by decide +kernel, by decide +kernel, by decide⟩
theorem msJ2_charAt_3b067 : Cond.static yJ2_charAt_3b067 ∈ lw_tbl := tb5 (List.mem_of_getElem? (i := 95) rfl)
def YJ2_checkIndex_2214a : Mt := (yJ2_checkIndex_2214a, cJ2_checkIndex_2214a, 2, none)
theorem moJ2_checkIndex_2214a : MO YJ2_checkIndex_2214a 2 := ⟨tb5 (List.mem_of_getElem? (i := 99) rfl), tb1 (List.mem_of_getElem? (i := 22) rfl), by decide +kernel, by decide +kernel, by decide⟩
theorem msJ2_checkIndex_2214a : Cond.static yJ2_checkIndex_2214a ∈ lw_tbl := tb5 (List.mem_of_getElem? (i := 98) rfl)
def YJ2_getChar_3b067 : Mt := (yJ2_getChar_3b067, cJ2_getChar_3b067, 2, (some .char))
theorem moJ2_getChar_3b067 : MO YJ2_getChar_3b067 2 := ⟨tb5 (List.mem_of_getElem? (i := 106) rfl), tb1 (List.mem_of_getElem? (i := 22) rfl), by decide +kernel, by decide +kernel, by decide⟩
theorem msJ2_getChar_3b067 : Cond.static yJ2_getChar_3b067 ∈ lw_tbl := tb5 (List.mem_of_getElem? (i := 105) rfl)
def YJ2_length_9d52b : Mt := (yJ2_length_9d52b, cJ2_length_9d52b, 1, (some .int))
theorem moJ2_length_9d52b : MO YJ2_length_9d52b 1 := ⟨tb5 (List.mem_of_getElem? (i := 102) rfl), tb1 (List.mem_of_getElem? (i := 22) rfl), by decide +kernel, by decide +kernel, by decide⟩
theorem msJ2_length_9d52b : Cond.static yJ2_length_9d52b ∈ lw_tbl := tb5 (List.mem_of_getElem? (i := 101) rfl)
def YJ3_checkIndex_8e157 : Mt := (yJ3_checkIndex_8e157, cJ3_checkIndex_8e157, 3, (some .int))
theorem moJ3_checkIndex_8e157 : MO YJ3_checkIndex_8e157 3 := ⟨tb5 (List.mem_of_getElem? (i := 93) rfl), tb1 (List.mem_of_getElem? (i := 21) rfl), by decide +kernel, by decide +kernel, by decide⟩
theorem msJ3_checkIndex_8e157 : Cond.static yJ3_checkIndex_8e157 ∈ lw_tbl := tb5 (List.mem_of_getElem? (i := 92) rfl)
def YJ6_bitCount_0f7a4 : Mt := (yJ6_bitCount_0f7a4, cJ6_bitCount_0f7a4, 1, (some .int))
theorem moJ6_bitCount_0f7a4 : MO YJ6_bitCount_0f7a4 1 := ⟨tb7 (List.mem_of_getElem? (i := 163) rfl), tb1 (List.mem_of_getElem? (i := 28) rfl), by decide +kernel, by decide +kernel, by decide⟩
theorem msJ6_bitCount_0f7a4 : Cond.static yJ6_bitCount_0f7a4 ∈ lw_tbl := tb7 (List.mem_of_getElem? (i := 162) rfl)
def YJ9_max_7cf53 : Mt := (yJ9_max_7cf53, cJ9_max_7cf53, 2, (some .int))
theorem moJ9_max_7cf53 : MO YJ9_max_7cf53 2 := ⟨tb3 (List.mem_of_getElem? (i := 104) rfl), tb1 (List.mem_of_getElem? (i := 18) rfl), by decide +kernel, by decide +kernel, by decide⟩
theorem msJ9_max_7cf53 : Cond.static yJ9_max_7cf53 ∈ lw_tbl := tb3 (List.mem_of_getElem? (i := 103) rfl)
def YJ9_min_7cf53 : Mt := (yJ9_min_7cf53, cJ9_min_7cf53, 2, (some .int))
theorem moJ9_min_7cf53 : MO YJ9_min_7cf53 2 := ⟨tb3 (List.mem_of_getElem? (i := 112) rfl), tb1 (List.mem_of_getElem? (i := 18) rfl), by decide +kernel, by decide +kernel, by decide⟩
theorem msJ9_min_7cf53 : Cond.static yJ9_min_7cf53 ∈ lw_tbl := tb3 (List.mem_of_getElem? (i := 111) rfl)
def YX0_badnessFrom : Mt := (yX0_badnessFrom, cX0_badnessFrom, 2, (some .int))
theorem moX0_badnessFrom : MO YX0_badnessFrom 1 := ⟨tb6 (List.mem_of_getElem? (i := 33) rfl), tb1 (List.mem_of_getElem? (i := 6) rfl), by decide +kernel, by decide +kernel, by decide⟩
theorem miX0_badnessFrom : Cond.instanceMethod yX0_badnessFrom ∈ lw_tbl := tb6 (List.mem_of_getElem? (i := 31) rfl)
theorem mvX0_badnessFrom : MV YX0_badnessFrom := ⟨miX0_badnessFrom, tb6 (List.mem_of_getElem? (i := 32) rfl)⟩
def YX0_byHand : Mt := (yX0_byHand, cX0_byHand, 6, (some .int))
theorem moX0_byHand : MO YX0_byHand 1 := ⟨tb6 (List.mem_of_getElem? (i := 61) rfl), tb1 (List.mem_of_getElem? (i := 6) rfl), by decide +kernel, by decide +kernel, by decide⟩
theorem miX0_byHand : Cond.instanceMethod yX0_byHand ∈ lw_tbl := tb6 (List.mem_of_getElem? (i := 59) rfl)
theorem mvX0_byHand : MV YX0_byHand := ⟨miX0_byHand, tb6 (List.mem_of_getElem? (i := 60) rfl)⟩
def YX0_endOfLine : Mt := (yX0_endOfLine, cX0_endOfLine, 4, (some .int))
theorem moX0_endOfLine : MO YX0_endOfLine 1 := ⟨tb6 (List.mem_of_getElem? (i := 50) rfl), tb1 (List.mem_of_getElem? (i := 6) rfl), by decide +kernel, by decide +kernel, by decide⟩
theorem miX0_endOfLine : Cond.instanceMethod yX0_endOfLine ∈ lw_tbl := tb6 (List.mem_of_getElem? (i := 48) rfl)
theorem mvX0_endOfLine : MV YX0_endOfLine := ⟨miX0_endOfLine, tb6 (List.mem_of_getElem? (i := 49) rfl)⟩
def YX0_init : Mt := (yX0_init, cX0_init, 1, none)
theorem moX0_init : MO YX0_init 0 := ⟨tb1 (List.mem_of_getElem? (i := 198) rfl), tb1 (List.mem_of_getElem? (i := 6) rfl), by decide +kernel, by decide +kernel, by decide⟩
theorem miX0_init : Cond.instanceMethod yX0_init ∈ lw_tbl := tb1 (List.mem_of_getElem? (i := 197) rfl)
def YX0_lineBadness : Mt := (yX0_lineBadness, cX0_lineBadness, 6, (some .int))
theorem moX0_lineBadness : MO YX0_lineBadness 2 := ⟨tb3 (List.mem_of_getElem? (i := 85) rfl), tb1 (List.mem_of_getElem? (i := 6) rfl), by decide +kernel, by decide +kernel, by decide⟩
theorem miX0_lineBadness : Cond.instanceMethod yX0_lineBadness ∈ lw_tbl := tb3 (List.mem_of_getElem? (i := 84) rfl)
theorem mvX0_lineBadness : MV YX0_lineBadness := ⟨miX0_lineBadness, pv1 (q := (⟨"LeadRoom$Breaker", "lineBadness", "(II)I"⟩, 14)) (List.mem_of_getElem? (i := 6) rfl)⟩
def YX0_loadCopy : Mt := (yX0_loadCopy, cX0_loadCopy, 7, none)
theorem moX0_loadCopy : MO YX0_loadCopy 2 := ⟨tb3 (List.mem_of_getElem? (i := 70) rfl), tb1 (List.mem_of_getElem? (i := 6) rfl), by decide +kernel, by decide +kernel, by decide⟩
theorem miX0_loadCopy : Cond.instanceMethod yX0_loadCopy ∈ lw_tbl := tb3 (List.mem_of_getElem? (i := 68) rfl)
theorem mvX0_loadCopy : MV YX0_loadCopy := ⟨miX0_loadCopy, tb3 (List.mem_of_getElem? (i := 69) rfl)⟩
def YX0_loadRules : Mt := (yX0_loadRules, cX0_loadRules, 5, none)
theorem moX0_loadRules : MO YX0_loadRules 1 := ⟨tb3 (List.mem_of_getElem? (i := 62) rfl), tb1 (List.mem_of_getElem? (i := 6) rfl), by decide +kernel, by decide +kernel, by decide⟩
theorem miX0_loadRules : Cond.instanceMethod yX0_loadRules ∈ lw_tbl := tb3 (List.mem_of_getElem? (i := 60) rfl)
theorem mvX0_loadRules : MV YX0_loadRules := ⟨miX0_loadRules, tb3 (List.mem_of_getElem? (i := 61) rfl)⟩
def YX0_longestFrom : Mt := (yX0_longestFrom, cX0_longestFrom, 4, (some .int))
theorem moX0_longestFrom : MO YX0_longestFrom 1 := ⟨tb6 (List.mem_of_getElem? (i := 65) rfl), tb1 (List.mem_of_getElem? (i := 6) rfl), by decide +kernel, by decide +kernel, by decide⟩
theorem miX0_longestFrom : Cond.instanceMethod yX0_longestFrom ∈ lw_tbl := tb6 (List.mem_of_getElem? (i := 64) rfl)
theorem mvX0_longestFrom : MV YX0_longestFrom := ⟨miX0_longestFrom, pv3 (q := (⟨"LeadRoom$Breaker", "longestFrom", "(I)I"⟩, 14)) (List.mem_of_getElem? (i := 1) rfl)⟩
def YX0_putLines : Mt := (yX0_putLines, cX0_putLines, 6, none)
theorem moX0_putLines : MO YX0_putLines 3 := ⟨tb6 (List.mem_of_getElem? (i := 143) rfl), tb1 (List.mem_of_getElem? (i := 6) rfl), by decide +kernel, by decide +kernel, by decide⟩
theorem miX0_putLines : Cond.instanceMethod yX0_putLines ∈ lw_tbl := tb6 (List.mem_of_getElem? (i := 141) rfl)
theorem mvX0_putLines : MV YX0_putLines := ⟨miX0_putLines, tb6 (List.mem_of_getElem? (i := 142) rfl)⟩
def YX0_reach : Mt := (yX0_reach, cX0_reach, 4, (some .int))
theorem moX0_reach : MO YX0_reach 0 := ⟨tb6 (List.mem_of_getElem? (i := 37) rfl), tb1 (List.mem_of_getElem? (i := 6) rfl), by decide +kernel, by decide +kernel, by decide⟩
theorem miX0_reach : Cond.instanceMethod yX0_reach ∈ lw_tbl := tb6 (List.mem_of_getElem? (i := 35) rfl)
theorem mvX0_reach : MV YX0_reach := ⟨miX0_reach, tb6 (List.mem_of_getElem? (i := 36) rfl)⟩
def YX0_solve : Mt := (yX0_solve, cX0_solve, 3, (some .int))
theorem moX0_solve : MO YX0_solve 1 := ⟨tb3 (List.mem_of_getElem? (i := 77) rfl), tb1 (List.mem_of_getElem? (i := 6) rfl), by decide +kernel, by decide +kernel, by decide⟩
theorem miX0_solve : Cond.instanceMethod yX0_solve ∈ lw_tbl := tb3 (List.mem_of_getElem? (i := 75) rfl)
theorem mvX0_solve : MV YX0_solve := ⟨miX0_solve, tb3 (List.mem_of_getElem? (i := 76) rfl)⟩
def YX0_solveAt : Mt := (yX0_solveAt, cX0_solveAt, 7, none)
theorem moX0_solveAt : MO YX0_solveAt 1 := ⟨tb3 (List.mem_of_getElem? (i := 81) rfl), tb1 (List.mem_of_getElem? (i := 6) rfl), by decide +kernel, by decide +kernel, by decide⟩
theorem miX0_solveAt : Cond.instanceMethod yX0_solveAt ∈ lw_tbl := tb3 (List.mem_of_getElem? (i := 80) rfl)
theorem mvX0_solveAt : MV YX0_solveAt := ⟨miX0_solveAt, pv1 (q := (⟨"LeadRoom$Breaker", "solveAt", "(I)V"⟩, 14)) (List.mem_of_getElem? (i := 5) rfl)⟩
def YX0_spare : Mt := (yX0_spare, cX0_spare, 5, (some .int))
theorem moX0_spare : MO YX0_spare 2 := ⟨tb3 (List.mem_of_getElem? (i := 89) rfl), tb1 (List.mem_of_getElem? (i := 6) rfl), by decide +kernel, by decide +kernel, by decide⟩
theorem miX0_spare : Cond.instanceMethod yX0_spare ∈ lw_tbl := tb3 (List.mem_of_getElem? (i := 88) rfl)
theorem mvX0_spare : MV YX0_spare := ⟨miX0_spare, pv1 (q := (⟨"LeadRoom$Breaker", "spare", "(II)I"⟩, 14)) (List.mem_of_getElem? (i := 7) rfl)⟩
def YX0_widthOf : Mt := (yX0_widthOf, cX0_widthOf, 2, (some .int))
theorem moX0_widthOf : MO YX0_widthOf 2 := ⟨tb3 (List.mem_of_getElem? (i := 73) rfl), tb1 (List.mem_of_getElem? (i := 6) rfl), by decide +kernel, by decide +kernel, by decide⟩
theorem msX0_widthOf : Cond.static yX0_widthOf ∈ lw_tbl := tb3 (List.mem_of_getElem? (i := 72) rfl)
def YX10_anotherFollows : Mt := (yX10_anotherFollows, cX10_anotherFollows, 1, (some .boolean))
theorem moX10_anotherFollows : MO YX10_anotherFollows 0 := ⟨tb5 (List.mem_of_getElem? (i := 188) rfl), tb1 (List.mem_of_getElem? (i := 2) rfl), by decide +kernel, by decide +kernel, by decide⟩
theorem miX10_anotherFollows : Cond.instanceMethod yX10_anotherFollows ∈ lw_tbl := tb5 (List.mem_of_getElem? (i := 187) rfl)
theorem mvX10_anotherFollows : MV YX10_anotherFollows := ⟨miX10_anotherFollows, pv3 (q := (⟨"LeadRoom$StyleReader", "anotherFollows", "()Z"⟩, 6)) (List.mem_of_getElem? (i := 0) rfl)⟩
def YX10_atom : Mt := (yX10_atom, cX10_atom, 5, (some .boolean))
theorem moX10_atom : MO YX10_atom 1 := ⟨tb5 (List.mem_of_getElem? (i := 137) rfl), tb1 (List.mem_of_getElem? (i := 2) rfl), by decide +kernel, by decide +kernel, by decide⟩
theorem miX10_atom : Cond.instanceMethod yX10_atom ∈ lw_tbl := tb5 (List.mem_of_getElem? (i := 136) rfl)
theorem mvX10_atom : MV YX10_atom := ⟨miX10_atom, pv2 (q := (⟨"LeadRoom$StyleReader", "atom", "(I)Z"⟩, 6)) (List.mem_of_getElem? (i := 9) rfl)⟩
def YX10_either : Mt := (yX10_either, cX10_either, 3, (some .boolean))
theorem moX10_either : MO YX10_either 1 := ⟨tb5 (List.mem_of_getElem? (i := 129) rfl), tb1 (List.mem_of_getElem? (i := 2) rfl), by decide +kernel, by decide +kernel, by decide⟩
theorem miX10_either : Cond.instanceMethod yX10_either ∈ lw_tbl := tb5 (List.mem_of_getElem? (i := 128) rfl)
theorem mvX10_either : MV YX10_either := ⟨miX10_either, pv2 (q := (⟨"LeadRoom$StyleReader", "either", "(I)Z"⟩, 6)) (List.mem_of_getElem? (i := 7) rfl)⟩
def YX10_every : Mt := (yX10_every, cX10_every, 3, (some .boolean))
theorem moX10_every : MO YX10_every 1 := ⟨tb5 (List.mem_of_getElem? (i := 133) rfl), tb1 (List.mem_of_getElem? (i := 2) rfl), by decide +kernel, by decide +kernel, by decide⟩
theorem miX10_every : Cond.instanceMethod yX10_every ∈ lw_tbl := tb5 (List.mem_of_getElem? (i := 132) rfl)
theorem mvX10_every : MV YX10_every := ⟨miX10_every, pv2 (q := (⟨"LeadRoom$StyleReader", "every", "(I)Z"⟩, 6)) (List.mem_of_getElem? (i := 8) rfl)⟩
def YX10_failHere : Mt := (yX10_failHere, cX10_failHere, 1, (some .boolean))
theorem moX10_failHere : MO YX10_failHere 0 := ⟨tb5 (List.mem_of_getElem? (i := 163) rfl), tb1 (List.mem_of_getElem? (i := 2) rfl), by decide +kernel, by decide +kernel, by decide⟩
theorem miX10_failHere : Cond.instanceMethod yX10_failHere ∈ lw_tbl := tb5 (List.mem_of_getElem? (i := 162) rfl)
theorem mvX10_failHere : MV YX10_failHere := ⟨miX10_failHere, pv2 (q := (⟨"LeadRoom$StyleReader", "failHere", "()Z"⟩, 6)) (List.mem_of_getElem? (i := 13) rfl)⟩
def YX10_findInk : Mt := (yX10_findInk, cX10_findInk, 2, none)
theorem moX10_findInk : MO YX10_findInk 0 := ⟨tb5 (List.mem_of_getElem? (i := 55) rfl), tb1 (List.mem_of_getElem? (i := 2) rfl), by decide +kernel, by decide +kernel, by decide⟩
theorem miX10_findInk : Cond.instanceMethod yX10_findInk ∈ lw_tbl := tb5 (List.mem_of_getElem? (i := 54) rfl)
theorem mvX10_findInk : MV YX10_findInk := ⟨miX10_findInk, pv2 (q := (⟨"LeadRoom$StyleReader", "findInk", "()V"⟩, 6)) (List.mem_of_getElem? (i := 2) rfl)⟩
def YX10_firstWrong : Mt := (yX10_firstWrong, cX10_firstWrong, 4, (some .int))
theorem moX10_firstWrong : MO YX10_firstWrong 1 := ⟨tb5 (List.mem_of_getElem? (i := 50) rfl), tb1 (List.mem_of_getElem? (i := 2) rfl), by decide +kernel, by decide +kernel, by decide⟩
theorem miX10_firstWrong : Cond.instanceMethod yX10_firstWrong ∈ lw_tbl := tb5 (List.mem_of_getElem? (i := 48) rfl)
theorem mvX10_firstWrong : MV YX10_firstWrong := ⟨miX10_firstWrong, tb5 (List.mem_of_getElem? (i := 49) rfl)⟩
def YX10_init : Mt := (yX10_init, cX10_init, 2, none)
theorem moX10_init : MO YX10_init 1 := ⟨tb1 (List.mem_of_getElem? (i := 41) rfl), tb1 (List.mem_of_getElem? (i := 2) rfl), by decide +kernel, by decide +kernel, by decide⟩
theorem miX10_init : Cond.instanceMethod yX10_init ∈ lw_tbl := tb1 (List.mem_of_getElem? (i := 40) rfl)
def YX10_readClose : Mt := (yX10_readClose, cX10_readClose, 3, (some .boolean))
theorem moX10_readClose : MO YX10_readClose 0 := ⟨tb5 (List.mem_of_getElem? (i := 183) rfl), tb1 (List.mem_of_getElem? (i := 2) rfl), by decide +kernel, by decide +kernel, by decide⟩
theorem miX10_readClose : Cond.instanceMethod yX10_readClose ∈ lw_tbl := tb5 (List.mem_of_getElem? (i := 182) rfl)
theorem mvX10_readClose : MV YX10_readClose := ⟨miX10_readClose, pv2 (q := (⟨"LeadRoom$StyleReader", "readClose", "()Z"⟩, 6)) (List.mem_of_getElem? (i := 15) rfl)⟩
def YX10_readNumbered : Mt := (yX10_readNumbered, cX10_readNumbered, 5, (some .boolean))
theorem moX10_readNumbered : MO YX10_readNumbered 3 := ⟨tb5 (List.mem_of_getElem? (i := 116) rfl), tb1 (List.mem_of_getElem? (i := 2) rfl), by decide +kernel, by decide +kernel, by decide⟩
theorem miX10_readNumbered : Cond.instanceMethod yX10_readNumbered ∈ lw_tbl := tb5 (List.mem_of_getElem? (i := 115) rfl)
theorem mvX10_readNumbered : MV YX10_readNumbered := ⟨miX10_readNumbered, pv2 (q := (⟨"LeadRoom$StyleReader", "readNumbered", "(III)Z"⟩, 6)) (List.mem_of_getElem? (i := 5) rfl)⟩
def YX10_readRule : Mt := (yX10_readRule, cX10_readRule, 1, (some .boolean))
theorem moX10_readRule : MO YX10_readRule 0 := ⟨tb5 (List.mem_of_getElem? (i := 59) rfl), tb1 (List.mem_of_getElem? (i := 2) rfl), by decide +kernel, by decide +kernel, by decide⟩
theorem miX10_readRule : Cond.instanceMethod yX10_readRule ∈ lw_tbl := tb5 (List.mem_of_getElem? (i := 58) rfl)
theorem mvX10_readRule : MV YX10_readRule := ⟨miX10_readRule, pv2 (q := (⟨"LeadRoom$StyleReader", "readRule", "()Z"⟩, 6)) (List.mem_of_getElem? (i := 3) rfl)⟩
def YX10_readSpace : Mt := (yX10_readSpace, cX10_readSpace, 3, (some .boolean))
theorem moX10_readSpace : MO YX10_readSpace 0 := ⟨tb5 (List.mem_of_getElem? (i := 174) rfl), tb1 (List.mem_of_getElem? (i := 2) rfl), by decide +kernel, by decide +kernel, by decide⟩
theorem miX10_readSpace : Cond.instanceMethod yX10_readSpace ∈ lw_tbl := tb5 (List.mem_of_getElem? (i := 173) rfl)
theorem mvX10_readSpace : MV YX10_readSpace := ⟨miX10_readSpace, pv2 (q := (⟨"LeadRoom$StyleReader", "readSpace", "()Z"⟩, 6)) (List.mem_of_getElem? (i := 14) rfl)⟩
def YX10_tagOrComparison : Mt := (yX10_tagOrComparison, cX10_tagOrComparison, 4, (some .boolean))
theorem moX10_tagOrComparison : MO YX10_tagOrComparison 1 := ⟨tb5 (List.mem_of_getElem? (i := 159) rfl), tb1 (List.mem_of_getElem? (i := 2) rfl), by decide +kernel, by decide +kernel, by decide⟩
theorem miX10_tagOrComparison : Cond.instanceMethod yX10_tagOrComparison ∈ lw_tbl := tb5 (List.mem_of_getElem? (i := 158) rfl)
theorem mvX10_tagOrComparison : MV YX10_tagOrComparison := ⟨miX10_tagOrComparison, pv2 (q := (⟨"LeadRoom$StyleReader", "tagOrComparison", "(I)Z"⟩, 6)) (List.mem_of_getElem? (i := 12) rfl)⟩
def YX10_takeFact : Mt := (yX10_takeFact, cX10_takeFact, 1, (some .int))
theorem moX10_takeFact : MO YX10_takeFact 0 := ⟨tb5 (List.mem_of_getElem? (i := 146) rfl), tb1 (List.mem_of_getElem? (i := 2) rfl), by decide +kernel, by decide +kernel, by decide⟩
theorem miX10_takeFact : Cond.instanceMethod yX10_takeFact ∈ lw_tbl := tb5 (List.mem_of_getElem? (i := 145) rfl)
theorem mvX10_takeFact : MV YX10_takeFact := ⟨miX10_takeFact, pv2 (q := (⟨"LeadRoom$StyleReader", "takeFact", "()I"⟩, 6)) (List.mem_of_getElem? (i := 11) rfl)⟩
def YX10_takeNumber : Mt := (yX10_takeNumber, cX10_takeNumber, 5, (some .int))
theorem moX10_takeNumber : MO YX10_takeNumber 2 := ⟨tb5 (List.mem_of_getElem? (i := 120) rfl), tb1 (List.mem_of_getElem? (i := 2) rfl), by decide +kernel, by decide +kernel, by decide⟩
theorem miX10_takeNumber : Cond.instanceMethod yX10_takeNumber ∈ lw_tbl := tb5 (List.mem_of_getElem? (i := 119) rfl)
theorem mvX10_takeNumber : MV YX10_takeNumber := ⟨miX10_takeNumber, pv2 (q := (⟨"LeadRoom$StyleReader", "takeNumber", "(II)I"⟩, 6)) (List.mem_of_getElem? (i := 6) rfl)⟩
def YX10_takeSign : Mt := (yX10_takeSign, cX10_takeSign, 2, (some .boolean))
theorem moX10_takeSign : MO YX10_takeSign 1 := ⟨tb5 (List.mem_of_getElem? (i := 142) rfl), tb1 (List.mem_of_getElem? (i := 2) rfl), by decide +kernel, by decide +kernel, by decide⟩
theorem miX10_takeSign : Cond.instanceMethod yX10_takeSign ∈ lw_tbl := tb5 (List.mem_of_getElem? (i := 141) rfl)
theorem mvX10_takeSign : MV YX10_takeSign := ⟨miX10_takeSign, pv2 (q := (⟨"LeadRoom$StyleReader", "takeSign", "(I)Z"⟩, 6)) (List.mem_of_getElem? (i := 10) rfl)⟩
def YX10_takeWord : Mt := (yX10_takeWord, cX10_takeWord, 5, (some .boolean))
theorem moX10_takeWord : MO YX10_takeWord 1 := ⟨tb5 (List.mem_of_getElem? (i := 64) rfl), tb1 (List.mem_of_getElem? (i := 2) rfl), by decide +kernel, by decide +kernel, by decide⟩
theorem miX10_takeWord : Cond.instanceMethod yX10_takeWord ∈ lw_tbl := tb5 (List.mem_of_getElem? (i := 63) rfl)
theorem mvX10_takeWord : MV YX10_takeWord := ⟨miX10_takeWord, pv2 (q := (⟨"LeadRoom$StyleReader", "takeWord", "(Ljava/lang/String;)Z"⟩, 6)) (List.mem_of_getElem? (i := 4) rfl)⟩
def YX11_again : Mt := (yX11_again, cX11_again, 6, (some .int))
theorem moX11_again : MO YX11_again 3 := ⟨tb7 (List.mem_of_getElem? (i := 22) rfl), tb1 (List.mem_of_getElem? (i := 1) rfl), by decide +kernel, by decide +kernel, by decide⟩
theorem miX11_again : Cond.instanceMethod yX11_again ∈ lw_tbl := tb7 (List.mem_of_getElem? (i := 20) rfl)
theorem mvX11_again : MV YX11_again := ⟨miX11_again, tb7 (List.mem_of_getElem? (i := 21) rfl)⟩
def YX11_ahead : Mt := (yX11_ahead, cX11_ahead, 4, (some .int))
theorem moX11_ahead : MO YX11_ahead 1 := ⟨tb8 (List.mem_of_getElem? (i := 52) rfl), tb1 (List.mem_of_getElem? (i := 1) rfl), by decide +kernel, by decide +kernel, by decide⟩
theorem miX11_ahead : Cond.instanceMethod yX11_ahead ∈ lw_tbl := tb8 (List.mem_of_getElem? (i := 50) rfl)
theorem mvX11_ahead : MV YX11_ahead := ⟨miX11_ahead, tb8 (List.mem_of_getElem? (i := 51) rfl)⟩
def YX11_back : Mt := (yX11_back, cX11_back, 1, (some .boolean))
theorem moX11_back : MO YX11_back 0 := ⟨tb4 (List.mem_of_getElem? (i := 107) rfl), tb1 (List.mem_of_getElem? (i := 1) rfl), by decide +kernel, by decide +kernel, by decide⟩
theorem miX11_back : Cond.instanceMethod yX11_back ∈ lw_tbl := tb4 (List.mem_of_getElem? (i := 105) rfl)
theorem mvX11_back : MV YX11_back := ⟨miX11_back, tb4 (List.mem_of_getElem? (i := 106) rfl)⟩
def YX11_best : Mt := (yX11_best, cX11_best, 5, (some .int))
theorem moX11_best : MO YX11_best 2 := ⟨tb6 (List.mem_of_getElem? (i := 28) rfl), tb1 (List.mem_of_getElem? (i := 1) rfl), by decide +kernel, by decide +kernel, by decide⟩
theorem miX11_best : Cond.instanceMethod yX11_best ∈ lw_tbl := tb6 (List.mem_of_getElem? (i := 26) rfl)
theorem mvX11_best : MV YX11_best := ⟨miX11_best, tb6 (List.mem_of_getElem? (i := 27) rfl)⟩
def YX11_brass : Mt := (yX11_brass, cX11_brass, 5, (some .int))
theorem moX11_brass : MO YX11_brass 3 := ⟨tb6 (List.mem_of_getElem? (i := 90) rfl), tb1 (List.mem_of_getElem? (i := 1) rfl), by decide +kernel, by decide +kernel, by decide⟩
theorem miX11_brass : Cond.instanceMethod yX11_brass ∈ lw_tbl := tb6 (List.mem_of_getElem? (i := 88) rfl)
theorem mvX11_brass : MV YX11_brass := ⟨miX11_brass, tb6 (List.mem_of_getElem? (i := 89) rfl)⟩
def YX11_broken : Mt := (yX11_broken, cX11_broken, 5, (some .boolean))
theorem moX11_broken : MO YX11_broken 2 := ⟨tb6 (List.mem_of_getElem? (i := 109) rfl), tb1 (List.mem_of_getElem? (i := 1) rfl), by decide +kernel, by decide +kernel, by decide⟩
theorem miX11_broken : Cond.instanceMethod yX11_broken ∈ lw_tbl := tb6 (List.mem_of_getElem? (i := 107) rfl)
theorem mvX11_broken : MV YX11_broken := ⟨miX11_broken, tb6 (List.mem_of_getElem? (i := 108) rfl)⟩
def YX11_carry : Mt := (yX11_carry, cX11_carry, 5, (some .int))
theorem moX11_carry : MO YX11_carry 3 := ⟨tb7 (List.mem_of_getElem? (i := 124) rfl), tb1 (List.mem_of_getElem? (i := 1) rfl), by decide +kernel, by decide +kernel, by decide⟩
theorem miX11_carry : Cond.instanceMethod yX11_carry ∈ lw_tbl := tb7 (List.mem_of_getElem? (i := 122) rfl)
theorem mvX11_carry : MV YX11_carry := ⟨miX11_carry, tb7 (List.mem_of_getElem? (i := 123) rfl)⟩
def YX11_change : Mt := (yX11_change, cX11_change, 7, (some .boolean))
theorem moX11_change : MO YX11_change 2 := ⟨tb7 (List.mem_of_getElem? (i := 14) rfl), tb1 (List.mem_of_getElem? (i := 1) rfl), by decide +kernel, by decide +kernel, by decide⟩
theorem miX11_change : Cond.instanceMethod yX11_change ∈ lw_tbl := tb7 (List.mem_of_getElem? (i := 12) rfl)
theorem mvX11_change : MV YX11_change := ⟨miX11_change, tb7 (List.mem_of_getElem? (i := 13) rfl)⟩
def YX11_changed : Mt := (yX11_changed, cX11_changed, 4, (some .int))
theorem moX11_changed : MO YX11_changed 3 := ⟨tb8 (List.mem_of_getElem? (i := 36) rfl), tb1 (List.mem_of_getElem? (i := 1) rfl), by decide +kernel, by decide +kernel, by decide⟩
theorem miX11_changed : Cond.instanceMethod yX11_changed ∈ lw_tbl := tb8 (List.mem_of_getElem? (i := 34) rfl)
theorem mvX11_changed : MV YX11_changed := ⟨miX11_changed, tb8 (List.mem_of_getElem? (i := 35) rfl)⟩
def YX11_check : Mt := (yX11_check, cX11_check, 4, (some .int))
theorem moX11_check : MO YX11_check 0 := ⟨tb3 (List.mem_of_getElem? (i := 120) rfl), tb1 (List.mem_of_getElem? (i := 1) rfl), by decide +kernel, by decide +kernel, by decide⟩
theorem miX11_check : Cond.instanceMethod yX11_check ∈ lw_tbl := tb3 (List.mem_of_getElem? (i := 118) rfl)
theorem mvX11_check : MV YX11_check := ⟨miX11_check, tb3 (List.mem_of_getElem? (i := 119) rfl)⟩
def YX11_copyFlags : Mt := (yX11_copyFlags, cX11_copyFlags, 3, none)
theorem moX11_copyFlags : MO YX11_copyFlags 2 := ⟨tb3 (List.mem_of_getElem? (i := 215) rfl), tb1 (List.mem_of_getElem? (i := 1) rfl), by decide +kernel, by decide +kernel, by decide⟩
theorem msX11_copyFlags : Cond.static yX11_copyFlags ∈ lw_tbl := tb3 (List.mem_of_getElem? (i := 214) rfl)
def YX11_correct : Mt := (yX11_correct, cX11_correct, 8, (some .int))
theorem moX11_correct : MO YX11_correct 3 := ⟨tb7 (List.mem_of_getElem? (i := 29) rfl), tb1 (List.mem_of_getElem? (i := 1) rfl), by decide +kernel, by decide +kernel, by decide⟩
theorem miX11_correct : Cond.instanceMethod yX11_correct ∈ lw_tbl := tb7 (List.mem_of_getElem? (i := 27) rfl)
theorem mvX11_correct : MV YX11_correct := ⟨miX11_correct, tb7 (List.mem_of_getElem? (i := 28) rfl)⟩
def YX11_count : Mt := (yX11_count, cX11_count, 2, (some .int))
theorem moX11_count : MO YX11_count 1 := ⟨tb4 (List.mem_of_getElem? (i := 111) rfl), tb1 (List.mem_of_getElem? (i := 1) rfl), by decide +kernel, by decide +kernel, by decide⟩
theorem miX11_count : Cond.instanceMethod yX11_count ∈ lw_tbl := tb4 (List.mem_of_getElem? (i := 109) rfl)
theorem mvX11_count : MV YX11_count := ⟨miX11_count, tb4 (List.mem_of_getElem? (i := 110) rfl)⟩
def YX11_edition : Mt := (yX11_edition, cX11_edition, 1, (some .int))
theorem moX11_edition : MO YX11_edition 0 := ⟨tb8 (List.mem_of_getElem? (i := 25) rfl), tb1 (List.mem_of_getElem? (i := 1) rfl), by decide +kernel, by decide +kernel, by decide⟩
theorem miX11_edition : Cond.instanceMethod yX11_edition ∈ lw_tbl := tb8 (List.mem_of_getElem? (i := 23) rfl)
theorem mvX11_edition : MV YX11_edition := ⟨miX11_edition, tb8 (List.mem_of_getElem? (i := 24) rfl)⟩
def YX11_end : Mt := (yX11_end, cX11_end, 2, (some .boolean))
theorem moX11_end : MO YX11_end 1 := ⟨tb3 (List.mem_of_getElem? (i := 11) rfl), tb1 (List.mem_of_getElem? (i := 1) rfl), by decide +kernel, by decide +kernel, by decide⟩
theorem miX11_end : Cond.instanceMethod yX11_end ∈ lw_tbl := tb3 (List.mem_of_getElem? (i := 9) rfl)
theorem mvX11_end : MV YX11_end := ⟨miX11_end, tb3 (List.mem_of_getElem? (i := 10) rfl)⟩
def YX11_ends : Mt := (yX11_ends, cX11_ends, 5, (some .int))
theorem moX11_ends : MO YX11_ends 2 := ⟨tb6 (List.mem_of_getElem? (i := 45) rfl), tb1 (List.mem_of_getElem? (i := 1) rfl), by decide +kernel, by decide +kernel, by decide⟩
theorem miX11_ends : Cond.instanceMethod yX11_ends ∈ lw_tbl := tb6 (List.mem_of_getElem? (i := 43) rfl)
theorem mvX11_ends : MV YX11_ends := ⟨miX11_ends, tb6 (List.mem_of_getElem? (i := 44) rfl)⟩
def YX11_fault : Mt := (yX11_fault, cX11_fault, 1, (some .int))
theorem moX11_fault : MO YX11_fault 0 := ⟨tb3 (List.mem_of_getElem? (i := 15) rfl), tb1 (List.mem_of_getElem? (i := 1) rfl), by decide +kernel, by decide +kernel, by decide⟩
theorem miX11_fault : Cond.instanceMethod yX11_fault ∈ lw_tbl := tb3 (List.mem_of_getElem? (i := 13) rfl)
theorem mvX11_fault : MV YX11_fault := ⟨miX11_fault, tb3 (List.mem_of_getElem? (i := 14) rfl)⟩
def YX11_feed : Mt := (yX11_feed, cX11_feed, 6, (some .int))
theorem moX11_feed : MO YX11_feed 5 := ⟨tb3 (List.mem_of_getElem? (i := 3) rfl), tb1 (List.mem_of_getElem? (i := 1) rfl), by decide +kernel, by decide +kernel, by decide⟩
theorem miX11_feed : Cond.instanceMethod yX11_feed ∈ lw_tbl := tb3 (List.mem_of_getElem? (i := 1) rfl)
theorem mvX11_feed : MV YX11_feed := ⟨miX11_feed, tb3 (List.mem_of_getElem? (i := 2) rfl)⟩
def YX11_feedNumber : Mt := (yX11_feedNumber, cX11_feedNumber, 3, none)
theorem moX11_feedNumber : MO YX11_feedNumber 1 := ⟨tb3 (List.mem_of_getElem? (i := 7) rfl), tb1 (List.mem_of_getElem? (i := 1) rfl), by decide +kernel, by decide +kernel, by decide⟩
theorem miX11_feedNumber : Cond.instanceMethod yX11_feedNumber ∈ lw_tbl := tb3 (List.mem_of_getElem? (i := 6) rfl)
theorem mvX11_feedNumber : MV YX11_feedNumber := ⟨miX11_feedNumber, pv1 (q := (⟨"LeadRoom", "feedNumber", "(I)V"⟩, 12)) (List.mem_of_getElem? (i := 0) rfl)⟩
def YX11_findFit : Mt := (yX11_findFit, cX11_findFit, 5, none)
theorem moX11_findFit : MO YX11_findFit 2 := ⟨tb7 (List.mem_of_getElem? (i := 160) rfl), tb1 (List.mem_of_getElem? (i := 1) rfl), by decide +kernel, by decide +kernel, by decide⟩
theorem miX11_findFit : Cond.instanceMethod yX11_findFit ∈ lw_tbl := tb7 (List.mem_of_getElem? (i := 159) rfl)
theorem mvX11_findFit : MV YX11_findFit := ⟨miX11_findFit, pv3 (q := (⟨"LeadRoom", "findFit", "(II)V"⟩, 12)) (List.mem_of_getElem? (i := 10) rfl)⟩
def YX11_fit : Mt := (yX11_fit, cX11_fit, 3, (some .int))
theorem moX11_fit : MO YX11_fit 2 := ⟨tb7 (List.mem_of_getElem? (i := 156) rfl), tb1 (List.mem_of_getElem? (i := 1) rfl), by decide +kernel, by decide +kernel, by decide⟩
theorem miX11_fit : Cond.instanceMethod yX11_fit ∈ lw_tbl := tb7 (List.mem_of_getElem? (i := 154) rfl)
theorem mvX11_fit : MV YX11_fit := ⟨miX11_fit, tb7 (List.mem_of_getElem? (i := 155) rfl)⟩
def YX11_fits : Mt := (yX11_fits, cX11_fits, 6, (some .int))
theorem moX11_fits : MO YX11_fits 4 := ⟨tb7 (List.mem_of_getElem? (i := 200) rfl), tb1 (List.mem_of_getElem? (i := 1) rfl), by decide +kernel, by decide +kernel, by decide⟩
theorem miX11_fits : Cond.instanceMethod yX11_fits ∈ lw_tbl := tb7 (List.mem_of_getElem? (i := 198) rfl)
theorem mvX11_fits : MV YX11_fits := ⟨miX11_fits, tb7 (List.mem_of_getElem? (i := 199) rfl)⟩
def YX11_give : Mt := (yX11_give, cX11_give, 5, (some .int))
theorem moX11_give : MO YX11_give 2 := ⟨tb6 (List.mem_of_getElem? (i := 116) rfl), tb1 (List.mem_of_getElem? (i := 1) rfl), by decide +kernel, by decide +kernel, by decide⟩
theorem miX11_give : Cond.instanceMethod yX11_give ∈ lw_tbl := tb6 (List.mem_of_getElem? (i := 114) rfl)
theorem mvX11_give : MV YX11_give := ⟨miX11_give, tb6 (List.mem_of_getElem? (i := 115) rfl)⟩
def YX11_hand : Mt := (yX11_hand, cX11_hand, 4, (some .int))
theorem moX11_hand : MO YX11_hand 2 := ⟨tb6 (List.mem_of_getElem? (i := 57) rfl), tb1 (List.mem_of_getElem? (i := 1) rfl), by decide +kernel, by decide +kernel, by decide⟩
theorem miX11_hand : Cond.instanceMethod yX11_hand ∈ lw_tbl := tb6 (List.mem_of_getElem? (i := 55) rfl)
theorem mvX11_hand : MV YX11_hand := ⟨miX11_hand, tb6 (List.mem_of_getElem? (i := 56) rfl)⟩
def YX11_image : Mt := (yX11_image, cX11_image, 1, none)
theorem moX11_image : MO YX11_image 0 := ⟨tb3 (List.mem_of_getElem? (i := 134) rfl), tb1 (List.mem_of_getElem? (i := 1) rfl), by decide +kernel, by decide +kernel, by decide⟩
theorem miX11_image : Cond.instanceMethod yX11_image ∈ lw_tbl := tb3 (List.mem_of_getElem? (i := 132) rfl)
theorem mvX11_image : MV YX11_image := ⟨miX11_image, tb3 (List.mem_of_getElem? (i := 133) rfl)⟩
def YX11_init : Mt := (yX11_init, cX11_init, 1, none)
theorem moX11_init : MO YX11_init 0 := ⟨tb1 (List.mem_of_getElem? (i := 33) rfl), tb1 (List.mem_of_getElem? (i := 1) rfl), by decide +kernel, by decide +kernel, by decide⟩
theorem miX11_init : Cond.instanceMethod yX11_init ∈ lw_tbl := tb1 (List.mem_of_getElem? (i := 32) rfl)
def YX11_isBrasses : Mt := (yX11_isBrasses, cX11_isBrasses, 1, (some .boolean))
theorem moX11_isBrasses : MO YX11_isBrasses 1 := ⟨tb6 (List.mem_of_getElem? (i := 75) rfl), tb1 (List.mem_of_getElem? (i := 1) rfl), by decide +kernel, by decide +kernel, by decide⟩
theorem msX11_isBrasses : Cond.static yX11_isBrasses ∈ lw_tbl := tb6 (List.mem_of_getElem? (i := 74) rfl)
def YX11_isEdition : Mt := (yX11_isEdition, cX11_isEdition, 2, (some .boolean))
theorem moX11_isEdition : MO YX11_isEdition 1 := ⟨tb8 (List.mem_of_getElem? (i := 14) rfl), tb1 (List.mem_of_getElem? (i := 1) rfl), by decide +kernel, by decide +kernel, by decide⟩
theorem miX11_isEdition : Cond.instanceMethod yX11_isEdition ∈ lw_tbl := tb8 (List.mem_of_getElem? (i := 13) rfl)
theorem mvX11_isEdition : MV YX11_isEdition := ⟨miX11_isEdition, pv4 (q := (⟨"LeadRoom", "isEdition", "(I)Z"⟩, 12)) (List.mem_of_getElem? (i := 0) rfl)⟩
def YX11_isFace : Mt := (yX11_isFace, cX11_isFace, 1, (some .boolean))
theorem moX11_isFace : MO YX11_isFace 1 := ⟨tb4 (List.mem_of_getElem? (i := 143) rfl), tb1 (List.mem_of_getElem? (i := 1) rfl), by decide +kernel, by decide +kernel, by decide⟩
theorem msX11_isFace : Cond.static yX11_isFace ∈ lw_tbl := tb4 (List.mem_of_getElem? (i := 142) rfl)
def YX11_isMinute : Mt := (yX11_isMinute, cX11_isMinute, 1, (some .boolean))
theorem moX11_isMinute : MO YX11_isMinute 1 := ⟨tb5 (List.mem_of_getElem? (i := 1) rfl), tb1 (List.mem_of_getElem? (i := 1) rfl), by decide +kernel, by decide +kernel, by decide⟩
theorem msX11_isMinute : Cond.static yX11_isMinute ∈ lw_tbl := tb5 (List.mem_of_getElem? (i := 0) rfl)
def YX11_isPage : Mt := (yX11_isPage, cX11_isPage, 1, (some .boolean))
theorem moX11_isPage : MO YX11_isPage 1 := ⟨tb7 (List.mem_of_getElem? (i := 149) rfl), tb1 (List.mem_of_getElem? (i := 1) rfl), by decide +kernel, by decide +kernel, by decide⟩
theorem msX11_isPage : Cond.static yX11_isPage ∈ lw_tbl := tb7 (List.mem_of_getElem? (i := 148) rfl)
def YX11_isSign : Mt := (yX11_isSign, cX11_isSign, 1, (some .boolean))
theorem moX11_isSign : MO YX11_isSign 1 := ⟨tb4 (List.mem_of_getElem? (i := 146) rfl), tb1 (List.mem_of_getElem? (i := 1) rfl), by decide +kernel, by decide +kernel, by decide⟩
theorem msX11_isSign : Cond.static yX11_isSign ∈ lw_tbl := tb4 (List.mem_of_getElem? (i := 145) rfl)
def YX11_judge : Mt := (yX11_judge, cX11_judge, 3, (some .int))
theorem moX11_judge : MO YX11_judge 1 := ⟨tb6 (List.mem_of_getElem? (i := 235) rfl), tb1 (List.mem_of_getElem? (i := 1) rfl), by decide +kernel, by decide +kernel, by decide⟩
theorem miX11_judge : Cond.instanceMethod yX11_judge ∈ lw_tbl := tb6 (List.mem_of_getElem? (i := 233) rfl)
theorem mvX11_judge : MV YX11_judge := ⟨miX11_judge, tb6 (List.mem_of_getElem? (i := 234) rfl)⟩
def YX11_layStory : Mt := (yX11_layStory, cX11_layStory, 6, none)
theorem moX11_layStory : MO YX11_layStory 3 := ⟨tb7 (List.mem_of_getElem? (i := 224) rfl), tb1 (List.mem_of_getElem? (i := 1) rfl), by decide +kernel, by decide +kernel, by decide⟩
theorem miX11_layStory : Cond.instanceMethod yX11_layStory ∈ lw_tbl := tb7 (List.mem_of_getElem? (i := 223) rfl)
theorem mvX11_layStory : MV YX11_layStory := ⟨miX11_layStory, pv3 (q := (⟨"LeadRoom", "layStory", "(III)V"⟩, 12)) (List.mem_of_getElem? (i := 15) rfl)⟩
def YX11_least : Mt := (yX11_least, cX11_least, 1, (some .int))
theorem moX11_least : MO YX11_least 0 := ⟨tb3 (List.mem_of_getElem? (i := 19) rfl), tb1 (List.mem_of_getElem? (i := 1) rfl), by decide +kernel, by decide +kernel, by decide⟩
theorem miX11_least : Cond.instanceMethod yX11_least ∈ lw_tbl := tb3 (List.mem_of_getElem? (i := 17) rfl)
theorem mvX11_least : MV YX11_least := ⟨miX11_least, tb3 (List.mem_of_getElem? (i := 18) rfl)⟩
def YX11_lies : Mt := (yX11_lies, cX11_lies, 4, (some .int))
theorem moX11_lies : MO YX11_lies 2 := ⟨tb6 (List.mem_of_getElem? (i := 213) rfl), tb1 (List.mem_of_getElem? (i := 1) rfl), by decide +kernel, by decide +kernel, by decide⟩
theorem miX11_lies : Cond.instanceMethod yX11_lies ∈ lw_tbl := tb6 (List.mem_of_getElem? (i := 211) rfl)
theorem mvX11_lies : MV YX11_lies := ⟨miX11_lies, tb6 (List.mem_of_getElem? (i := 212) rfl)⟩
def YX11_lock : Mt := (yX11_lock, cX11_lock, 6, (some .int))
theorem moX11_lock : MO YX11_lock 2 := ⟨tb7 (List.mem_of_getElem? (i := 211) rfl), tb1 (List.mem_of_getElem? (i := 1) rfl), by decide +kernel, by decide +kernel, by decide⟩
theorem miX11_lock : Cond.instanceMethod yX11_lock ∈ lw_tbl := tb7 (List.mem_of_getElem? (i := 209) rfl)
theorem mvX11_lock : MV YX11_lock := ⟨miX11_lock, tb7 (List.mem_of_getElem? (i := 210) rfl)⟩
def YX11_locked : Mt := (yX11_locked, cX11_locked, 3, (some .int))
theorem moX11_locked : MO YX11_locked 2 := ⟨tb8 (List.mem_of_getElem? (i := 3) rfl), tb1 (List.mem_of_getElem? (i := 1) rfl), by decide +kernel, by decide +kernel, by decide⟩
theorem miX11_locked : Cond.instanceMethod yX11_locked ∈ lw_tbl := tb8 (List.mem_of_getElem? (i := 1) rfl)
theorem mvX11_locked : MV YX11_locked := ⟨miX11_locked, tb8 (List.mem_of_getElem? (i := 2) rfl)⟩
def YX11_machine : Mt := (yX11_machine, cX11_machine, 3, (some .int))
theorem moX11_machine : MO YX11_machine 2 := ⟨tb6 (List.mem_of_getElem? (i := 72) rfl), tb1 (List.mem_of_getElem? (i := 1) rfl), by decide +kernel, by decide +kernel, by decide⟩
theorem miX11_machine : Cond.instanceMethod yX11_machine ∈ lw_tbl := tb6 (List.mem_of_getElem? (i := 70) rfl)
theorem mvX11_machine : MV YX11_machine := ⟨miX11_machine, tb6 (List.mem_of_getElem? (i := 71) rfl)⟩
def YX11_minutes : Mt := (yX11_minutes, cX11_minutes, 3, (some .int))
theorem moX11_minutes : MO YX11_minutes 1 := ⟨tb6 (List.mem_of_getElem? (i := 127) rfl), tb1 (List.mem_of_getElem? (i := 1) rfl), by decide +kernel, by decide +kernel, by decide⟩
theorem miX11_minutes : Cond.instanceMethod yX11_minutes ∈ lw_tbl := tb6 (List.mem_of_getElem? (i := 125) rfl)
theorem mvX11_minutes : MV YX11_minutes := ⟨miX11_minutes, tb6 (List.mem_of_getElem? (i := 126) rfl)⟩
def YX11_page : Mt := (yX11_page, cX11_page, 4, none)
theorem moX11_page : MO YX11_page 3 := ⟨tb7 (List.mem_of_getElem? (i := 146) rfl), tb1 (List.mem_of_getElem? (i := 1) rfl), by decide +kernel, by decide +kernel, by decide⟩
theorem miX11_page : Cond.instanceMethod yX11_page ∈ lw_tbl := tb7 (List.mem_of_getElem? (i := 144) rfl)
theorem mvX11_page : MV YX11_page := ⟨miX11_page, tb7 (List.mem_of_getElem? (i := 145) rfl)⟩
def YX11_part : Mt := (yX11_part, cX11_part, 4, (some .int))
theorem moX11_part : MO YX11_part 2 := ⟨tb5 (List.mem_of_getElem? (i := 200) rfl), tb1 (List.mem_of_getElem? (i := 1) rfl), by decide +kernel, by decide +kernel, by decide⟩
theorem miX11_part : Cond.instanceMethod yX11_part ∈ lw_tbl := tb5 (List.mem_of_getElem? (i := 198) rfl)
theorem mvX11_part : MV YX11_part := ⟨miX11_part, tb5 (List.mem_of_getElem? (i := 199) rfl)⟩
def YX11_pay : Mt := (yX11_pay, cX11_pay, 4, (some .int))
theorem moX11_pay : MO YX11_pay 3 := ⟨tb8 (List.mem_of_getElem? (i := 63) rfl), tb1 (List.mem_of_getElem? (i := 1) rfl), by decide +kernel, by decide +kernel, by decide⟩
theorem miX11_pay : Cond.instanceMethod yX11_pay ∈ lw_tbl := tb8 (List.mem_of_getElem? (i := 61) rfl)
theorem mvX11_pay : MV YX11_pay := ⟨miX11_pay, tb8 (List.mem_of_getElem? (i := 62) rfl)⟩
def YX11_pie : Mt := (yX11_pie, cX11_pie, 3, (some .boolean))
theorem moX11_pie : MO YX11_pie 1 := ⟨tb7 (List.mem_of_getElem? (i := 6) rfl), tb1 (List.mem_of_getElem? (i := 1) rfl), by decide +kernel, by decide +kernel, by decide⟩
theorem miX11_pie : Cond.instanceMethod yX11_pie ∈ lw_tbl := tb7 (List.mem_of_getElem? (i := 4) rfl)
theorem mvX11_pie : MV YX11_pie := ⟨miX11_pie, tb7 (List.mem_of_getElem? (i := 5) rfl)⟩
def YX11_proof : Mt := (yX11_proof, cX11_proof, 2, (some .int))
theorem moX11_proof : MO YX11_proof 1 := ⟨tb7 (List.mem_of_getElem? (i := 108) rfl), tb1 (List.mem_of_getElem? (i := 1) rfl), by decide +kernel, by decide +kernel, by decide⟩
theorem miX11_proof : Cond.instanceMethod yX11_proof ∈ lw_tbl := tb7 (List.mem_of_getElem? (i := 106) rfl)
theorem mvX11_proof : MV YX11_proof := ⟨miX11_proof, tb7 (List.mem_of_getElem? (i := 107) rfl)⟩
def YX11_read : Mt := (yX11_read, cX11_read, 5, (some .boolean))
theorem moX11_read : MO YX11_read 2 := ⟨tb7 (List.mem_of_getElem? (i := 101) rfl), tb1 (List.mem_of_getElem? (i := 1) rfl), by decide +kernel, by decide +kernel, by decide⟩
theorem miX11_read : Cond.instanceMethod yX11_read ∈ lw_tbl := tb7 (List.mem_of_getElem? (i := 99) rfl)
theorem mvX11_read : MV YX11_read := ⟨miX11_read, tb7 (List.mem_of_getElem? (i := 100) rfl)⟩
def YX11_row : Mt := (yX11_row, cX11_row, 4, (some .int))
theorem moX11_row : MO YX11_row 2 := ⟨tb8 (List.mem_of_getElem? (i := 83) rfl), tb1 (List.mem_of_getElem? (i := 1) rfl), by decide +kernel, by decide +kernel, by decide⟩
theorem miX11_row : Cond.instanceMethod yX11_row ∈ lw_tbl := tb8 (List.mem_of_getElem? (i := 81) rfl)
theorem mvX11_row : MV YX11_row := ⟨miX11_row, tb8 (List.mem_of_getElem? (i := 82) rfl)⟩
def YX11_rule : Mt := (yX11_rule, cX11_rule, 6, (some .int))
theorem moX11_rule : MO YX11_rule 3 := ⟨tb6 (List.mem_of_getElem? (i := 20) rfl), tb1 (List.mem_of_getElem? (i := 1) rfl), by decide +kernel, by decide +kernel, by decide⟩
theorem miX11_rule : Cond.instanceMethod yX11_rule ∈ lw_tbl := tb6 (List.mem_of_getElem? (i := 18) rfl)
theorem mvX11_rule : MV YX11_rule := ⟨miX11_rule, tb6 (List.mem_of_getElem? (i := 19) rfl)⟩
def YX11_runs : Mt := (yX11_runs, cX11_runs, 4, (some .int))
theorem moX11_runs : MO YX11_runs 2 := ⟨tb6 (List.mem_of_getElem? (i := 190) rfl), tb1 (List.mem_of_getElem? (i := 1) rfl), by decide +kernel, by decide +kernel, by decide⟩
theorem miX11_runs : Cond.instanceMethod yX11_runs ∈ lw_tbl := tb6 (List.mem_of_getElem? (i := 188) rfl)
theorem mvX11_runs : MV YX11_runs := ⟨miX11_runs, tb6 (List.mem_of_getElem? (i := 189) rfl)⟩
def YX11_says : Mt := (yX11_says, cX11_says, 4, (some .int))
theorem moX11_says : MO YX11_says 2 := ⟨tb6 (List.mem_of_getElem? (i := 205) rfl), tb1 (List.mem_of_getElem? (i := 1) rfl), by decide +kernel, by decide +kernel, by decide⟩
theorem miX11_says : Cond.instanceMethod yX11_says ∈ lw_tbl := tb6 (List.mem_of_getElem? (i := 203) rfl)
theorem mvX11_says : MV YX11_says := ⟨miX11_says, tb6 (List.mem_of_getElem? (i := 204) rfl)⟩
def YX11_slip : Mt := (yX11_slip, cX11_slip, 6, (some .boolean))
theorem moX11_slip : MO YX11_slip 3 := ⟨tb7 (List.mem_of_getElem? (i := 85) rfl), tb1 (List.mem_of_getElem? (i := 1) rfl), by decide +kernel, by decide +kernel, by decide⟩
theorem miX11_slip : Cond.instanceMethod yX11_slip ∈ lw_tbl := tb7 (List.mem_of_getElem? (i := 83) rfl)
theorem mvX11_slip : MV YX11_slip := ⟨miX11_slip, tb7 (List.mem_of_getElem? (i := 84) rfl)⟩
def YX11_slug : Mt := (yX11_slug, cX11_slug, 4, (some .int))
theorem moX11_slug : MO YX11_slug 2 := ⟨tb6 (List.mem_of_getElem? (i := 197) rfl), tb1 (List.mem_of_getElem? (i := 1) rfl), by decide +kernel, by decide +kernel, by decide⟩
theorem miX11_slug : Cond.instanceMethod yX11_slug ∈ lw_tbl := tb6 (List.mem_of_getElem? (i := 195) rfl)
theorem mvX11_slug : MV YX11_slug := ⟨miX11_slug, tb6 (List.mem_of_getElem? (i := 196) rfl)⟩
def YX11_stands : Mt := (yX11_stands, cX11_stands, 4, (some .int))
theorem moX11_stands : MO YX11_stands 3 := ⟨tb8 (List.mem_of_getElem? (i := 10) rfl), tb1 (List.mem_of_getElem? (i := 1) rfl), by decide +kernel, by decide +kernel, by decide⟩
theorem miX11_stands : Cond.instanceMethod yX11_stands ∈ lw_tbl := tb8 (List.mem_of_getElem? (i := 8) rfl)
theorem mvX11_stands : MV YX11_stands := ⟨miX11_stands, tb8 (List.mem_of_getElem? (i := 9) rfl)⟩
def YX11_story : Mt := (yX11_story, cX11_story, 4, (some .int))
theorem moX11_story : MO YX11_story 2 := ⟨tb4 (List.mem_of_getElem? (i := 234) rfl), tb1 (List.mem_of_getElem? (i := 1) rfl), by decide +kernel, by decide +kernel, by decide⟩
theorem miX11_story : Cond.instanceMethod yX11_story ∈ lw_tbl := tb4 (List.mem_of_getElem? (i := 232) rfl)
theorem mvX11_story : MV YX11_story := ⟨miX11_story, tb4 (List.mem_of_getElem? (i := 233) rfl)⟩
def YX11_style : Mt := (yX11_style, cX11_style, 3, (some .int))
theorem moX11_style : MO YX11_style 1 := ⟨tb5 (List.mem_of_getElem? (i := 46) rfl), tb1 (List.mem_of_getElem? (i := 1) rfl), by decide +kernel, by decide +kernel, by decide⟩
theorem miX11_style : Cond.instanceMethod yX11_style ∈ lw_tbl := tb5 (List.mem_of_getElem? (i := 44) rfl)
theorem mvX11_style : MV YX11_style := ⟨miX11_style, tb5 (List.mem_of_getElem? (i := 45) rfl)⟩
def YX11_tear : Mt := (yX11_tear, cX11_tear, 5, (some .int))
theorem moX11_tear : MO YX11_tear 3 := ⟨tb8 (List.mem_of_getElem? (i := 90) rfl), tb1 (List.mem_of_getElem? (i := 1) rfl), by decide +kernel, by decide +kernel, by decide⟩
theorem miX11_tear : Cond.instanceMethod yX11_tear ∈ lw_tbl := tb8 (List.mem_of_getElem? (i := 88) rfl)
theorem mvX11_tear : MV YX11_tear := ⟨miX11_tear, tb8 (List.mem_of_getElem? (i := 89) rfl)⟩
def YX11_useTape : Mt := (yX11_useTape, cX11_useTape, 2, (some .int))
theorem moX11_useTape : MO YX11_useTape 0 := ⟨tb4 (List.mem_of_getElem? (i := 238) rfl), tb1 (List.mem_of_getElem? (i := 1) rfl), by decide +kernel, by decide +kernel, by decide⟩
theorem miX11_useTape : Cond.instanceMethod yX11_useTape ∈ lw_tbl := tb4 (List.mem_of_getElem? (i := 237) rfl)
theorem mvX11_useTape : MV YX11_useTape := ⟨miX11_useTape, pv2 (q := (⟨"LeadRoom", "useTape", "()I"⟩, 12)) (List.mem_of_getElem? (i := 0) rfl)⟩
def YX11_where : Mt := (yX11_where, cX11_where, 4, (some .int))
theorem moX11_where : MO YX11_where 3 := ⟨tb7 (List.mem_of_getElem? (i := 135) rfl), tb1 (List.mem_of_getElem? (i := 1) rfl), by decide +kernel, by decide +kernel, by decide⟩
theorem miX11_where : Cond.instanceMethod yX11_where ∈ lw_tbl := tb7 (List.mem_of_getElem? (i := 133) rfl)
theorem mvX11_where : MV YX11_where := ⟨miX11_where, tb7 (List.mem_of_getElem? (i := 134) rfl)⟩
def YX11_width : Mt := (yX11_width, cX11_width, 4, none)
theorem moX11_width : MO YX11_width 3 := ⟨tb4 (List.mem_of_getElem? (i := 140) rfl), tb1 (List.mem_of_getElem? (i := 1) rfl), by decide +kernel, by decide +kernel, by decide⟩
theorem miX11_width : Cond.instanceMethod yX11_width ∈ lw_tbl := tb4 (List.mem_of_getElem? (i := 138) rfl)
theorem mvX11_width : MV YX11_width := ⟨miX11_width, tb4 (List.mem_of_getElem? (i := 139) rfl)⟩
def YX12_act : Mt := (yX12_act, cX12_act, 2, none)
theorem moX12_act : MO YX12_act 1 := ⟨tb9 (List.mem_of_getElem? (i := 141) rfl), tb1 (List.mem_of_getElem? (i := 10) rfl), by decide +kernel, by decide +kernel, by decide⟩
theorem miX12_act : Cond.instanceMethod yX12_act ∈ lw_tbl := tb9 (List.mem_of_getElem? (i := 140) rfl)
theorem mvX12_act : MV YX12_act := ⟨miX12_act, pv5 (q := (⟨"LeadRoomModel", "act", "(I)V"⟩, 58)) (List.mem_of_getElem? (i := 2) rfl)⟩
def YX12_again : Mt := (yX12_again, cX12_again, 5, (some .int))
theorem moX12_again : MO YX12_again 3 := ⟨tb10 (List.mem_of_getElem? (i := 135) rfl), tb1 (List.mem_of_getElem? (i := 10) rfl), by decide +kernel, by decide +kernel, by decide⟩
theorem miX12_again : Cond.instanceMethod yX12_again ∈ lw_tbl := tb10 (List.mem_of_getElem? (i := 133) rfl)
theorem mvX12_again : MV YX12_again := ⟨miX12_again, tb10 (List.mem_of_getElem? (i := 134) rfl)⟩
def YX12_ahead : Mt := (yX12_ahead, cX12_ahead, 3, (some .int))
theorem moX12_ahead : MO YX12_ahead 1 := ⟨tb11 (List.mem_of_getElem? (i := 24) rfl), tb1 (List.mem_of_getElem? (i := 10) rfl), by decide +kernel, by decide +kernel, by decide⟩
theorem miX12_ahead : Cond.instanceMethod yX12_ahead ∈ lw_tbl := tb11 (List.mem_of_getElem? (i := 22) rfl)
theorem mvX12_ahead : MV YX12_ahead := ⟨miX12_ahead, tb11 (List.mem_of_getElem? (i := 23) rfl)⟩
def YX12_away : Mt := (yX12_away, cX12_away, 4, none)
theorem moX12_away : MO YX12_away 1 := ⟨tb10 (List.mem_of_getElem? (i := 79) rfl), tb1 (List.mem_of_getElem? (i := 10) rfl), by decide +kernel, by decide +kernel, by decide⟩
theorem miX12_away : Cond.instanceMethod yX12_away ∈ lw_tbl := tb10 (List.mem_of_getElem? (i := 78) rfl)
theorem mvX12_away : MV YX12_away := ⟨miX12_away, pv6 (q := (⟨"LeadRoomModel", "away", "(I)V"⟩, 58)) (List.mem_of_getElem? (i := 15) rfl)⟩
def YX12_back : Mt := (yX12_back, cX12_back, 1, (some .boolean))
theorem moX12_back : MO YX12_back 0 := ⟨tb11 (List.mem_of_getElem? (i := 58) rfl), tb1 (List.mem_of_getElem? (i := 10) rfl), by decide +kernel, by decide +kernel, by decide⟩
theorem miX12_back : Cond.instanceMethod yX12_back ∈ lw_tbl := tb11 (List.mem_of_getElem? (i := 56) rfl)
theorem mvX12_back : MV YX12_back := ⟨miX12_back, tb11 (List.mem_of_getElem? (i := 57) rfl)⟩
def YX12_badness : Mt := (yX12_badness, cX12_badness, 5, (some .int))
theorem moX12_badness : MO YX12_badness 3 := ⟨tb10 (List.mem_of_getElem? (i := 14) rfl), tb1 (List.mem_of_getElem? (i := 10) rfl), by decide +kernel, by decide +kernel, by decide⟩
theorem miX12_badness : Cond.instanceMethod yX12_badness ∈ lw_tbl := tb10 (List.mem_of_getElem? (i := 13) rfl)
theorem mvX12_badness : MV YX12_badness := ⟨miX12_badness, pv6 (q := (⟨"LeadRoomModel", "badness", "(III)I"⟩, 58)) (List.mem_of_getElem? (i := 7) rfl)⟩
def YX12_begins : Mt := (yX12_begins, cX12_begins, 3, (some .int))
theorem moX12_begins : MO YX12_begins 2 := ⟨tb9 (List.mem_of_getElem? (i := 218) rfl), tb1 (List.mem_of_getElem? (i := 10) rfl), by decide +kernel, by decide +kernel, by decide⟩
theorem miX12_begins : Cond.instanceMethod yX12_begins ∈ lw_tbl := tb9 (List.mem_of_getElem? (i := 217) rfl)
theorem mvX12_begins : MV YX12_begins := ⟨miX12_begins, pv5 (q := (⟨"LeadRoomModel", "begins", "(II)I"⟩, 58)) (List.mem_of_getElem? (i := 15) rfl)⟩
def YX12_best : Mt := (yX12_best, cX12_best, 3, (some .int))
theorem moX12_best : MO YX12_best 2 := ⟨tb9 (List.mem_of_getElem? (i := 226) rfl), tb1 (List.mem_of_getElem? (i := 10) rfl), by decide +kernel, by decide +kernel, by decide⟩
theorem miX12_best : Cond.instanceMethod yX12_best ∈ lw_tbl := tb9 (List.mem_of_getElem? (i := 224) rfl)
theorem mvX12_best : MV YX12_best := ⟨miX12_best, tb9 (List.mem_of_getElem? (i := 225) rfl)⟩
def YX12_blanks : Mt := (yX12_blanks, cX12_blanks, 1, none)
theorem moX12_blanks : MO YX12_blanks 0 := ⟨tb9 (List.mem_of_getElem? (i := 72) rfl), tb1 (List.mem_of_getElem? (i := 10) rfl), by decide +kernel, by decide +kernel, by decide⟩
theorem miX12_blanks : Cond.instanceMethod yX12_blanks ∈ lw_tbl := tb9 (List.mem_of_getElem? (i := 71) rfl)
theorem mvX12_blanks : MV YX12_blanks := ⟨miX12_blanks, pv4 (q := (⟨"LeadRoomModel", "blanks", "()V"⟩, 58)) (List.mem_of_getElem? (i := 7) rfl)⟩
def YX12_brass : Mt := (yX12_brass, cX12_brass, 4, (some .int))
theorem moX12_brass : MO YX12_brass 3 := ⟨tb10 (List.mem_of_getElem? (i := 38) rfl), tb1 (List.mem_of_getElem? (i := 10) rfl), by decide +kernel, by decide +kernel, by decide⟩
theorem miX12_brass : Cond.instanceMethod yX12_brass ∈ lw_tbl := tb10 (List.mem_of_getElem? (i := 36) rfl)
theorem mvX12_brass : MV YX12_brass := ⟨miX12_brass, tb10 (List.mem_of_getElem? (i := 37) rfl)⟩
def YX12_broken : Mt := (yX12_broken, cX12_broken, 5, (some .boolean))
theorem moX12_broken : MO YX12_broken 2 := ⟨tb10 (List.mem_of_getElem? (i := 50) rfl), tb1 (List.mem_of_getElem? (i := 10) rfl), by decide +kernel, by decide +kernel, by decide⟩
theorem miX12_broken : Cond.instanceMethod yX12_broken ∈ lw_tbl := tb10 (List.mem_of_getElem? (i := 48) rfl)
theorem mvX12_broken : MV YX12_broken := ⟨miX12_broken, tb10 (List.mem_of_getElem? (i := 49) rfl)⟩
def YX12_byteCame : Mt := (yX12_byteCame, cX12_byteCame, 2, none)
theorem moX12_byteCame : MO YX12_byteCame 1 := ⟨tb9 (List.mem_of_getElem? (i := 45) rfl), tb1 (List.mem_of_getElem? (i := 10) rfl), by decide +kernel, by decide +kernel, by decide⟩
theorem miX12_byteCame : Cond.instanceMethod yX12_byteCame ∈ lw_tbl := tb9 (List.mem_of_getElem? (i := 44) rfl)
theorem mvX12_byteCame : MV YX12_byteCame := ⟨miX12_byteCame, pv4 (q := (⟨"LeadRoomModel", "byteCame", "(I)V"⟩, 58)) (List.mem_of_getElem? (i := 4) rfl)⟩
def YX12_carry : Mt := (yX12_carry, cX12_carry, 5, (some .int))
theorem moX12_carry : MO YX12_carry 3 := ⟨tb10 (List.mem_of_getElem? (i := 171) rfl), tb1 (List.mem_of_getElem? (i := 10) rfl), by decide +kernel, by decide +kernel, by decide⟩
theorem miX12_carry : Cond.instanceMethod yX12_carry ∈ lw_tbl := tb10 (List.mem_of_getElem? (i := 169) rfl)
theorem mvX12_carry : MV YX12_carry := ⟨miX12_carry, tb10 (List.mem_of_getElem? (i := 170) rfl)⟩
def YX12_casts : Mt := (yX12_casts, cX12_casts, 10, none)
theorem moX12_casts : MO YX12_casts 4 := ⟨tb10 (List.mem_of_getElem? (i := 83) rfl), tb1 (List.mem_of_getElem? (i := 10) rfl), by decide +kernel, by decide +kernel, by decide⟩
theorem miX12_casts : Cond.instanceMethod yX12_casts ∈ lw_tbl := tb10 (List.mem_of_getElem? (i := 82) rfl)
theorem mvX12_casts : MV YX12_casts := ⟨miX12_casts, pv7 (q := (⟨"LeadRoomModel", "casts", "(IIII)V"⟩, 58)) (List.mem_of_getElem? (i := 0) rfl)⟩
def YX12_change : Mt := (yX12_change, cX12_change, 7, (some .boolean))
theorem moX12_change : MO YX12_change 2 := ⟨tb10 (List.mem_of_getElem? (i := 131) rfl), tb1 (List.mem_of_getElem? (i := 10) rfl), by decide +kernel, by decide +kernel, by decide⟩
theorem miX12_change : Cond.instanceMethod yX12_change ∈ lw_tbl := tb10 (List.mem_of_getElem? (i := 129) rfl)
theorem mvX12_change : MV YX12_change := ⟨miX12_change, tb10 (List.mem_of_getElem? (i := 130) rfl)⟩
def YX12_changed : Mt := (yX12_changed, cX12_changed, 8, (some .int))
theorem moX12_changed : MO YX12_changed 3 := ⟨tb11 (List.mem_of_getElem? (i := 8) rfl), tb1 (List.mem_of_getElem? (i := 10) rfl), by decide +kernel, by decide +kernel, by decide⟩
theorem miX12_changed : Cond.instanceMethod yX12_changed ∈ lw_tbl := tb11 (List.mem_of_getElem? (i := 6) rfl)
theorem mvX12_changed : MV YX12_changed := ⟨miX12_changed, tb11 (List.mem_of_getElem? (i := 7) rfl)⟩
def YX12_changes : Mt := (yX12_changes, cX12_changes, 9, none)
theorem moX12_changes : MO YX12_changes 4 := ⟨tb10 (List.mem_of_getElem? (i := 155) rfl), tb1 (List.mem_of_getElem? (i := 10) rfl), by decide +kernel, by decide +kernel, by decide⟩
theorem miX12_changes : Cond.instanceMethod yX12_changes ∈ lw_tbl := tb10 (List.mem_of_getElem? (i := 154) rfl)
theorem mvX12_changes : MV YX12_changes := ⟨miX12_changes, pv7 (q := (⟨"LeadRoomModel", "changes", "(IIII)V"⟩, 58)) (List.mem_of_getElem? (i := 8) rfl)⟩
def YX12_check : Mt := (yX12_check, cX12_check, 5, (some .int))
theorem moX12_check : MO YX12_check 0 := ⟨tb11 (List.mem_of_getElem? (i := 50) rfl), tb1 (List.mem_of_getElem? (i := 10) rfl), by decide +kernel, by decide +kernel, by decide⟩
theorem miX12_check : Cond.instanceMethod yX12_check ∈ lw_tbl := tb11 (List.mem_of_getElem? (i := 48) rfl)
theorem mvX12_check : MV YX12_check := ⟨miX12_check, tb11 (List.mem_of_getElem? (i := 49) rfl)⟩
def YX12_columns : Mt := (yX12_columns, cX12_columns, 4, none)
theorem moX12_columns : MO YX12_columns 2 := ⟨tb10 (List.mem_of_getElem? (i := 199) rfl), tb1 (List.mem_of_getElem? (i := 10) rfl), by decide +kernel, by decide +kernel, by decide⟩
theorem miX12_columns : Cond.instanceMethod yX12_columns ∈ lw_tbl := tb10 (List.mem_of_getElem? (i := 198) rfl)
theorem mvX12_columns : MV YX12_columns := ⟨miX12_columns, pv7 (q := (⟨"LeadRoomModel", "columns", "(II)V"⟩, 58)) (List.mem_of_getElem? (i := 12) rfl)⟩
def YX12_correct : Mt := (yX12_correct, cX12_correct, 14, (some .int))
theorem moX12_correct : MO YX12_correct 3 := ⟨tb10 (List.mem_of_getElem? (i := 143) rfl), tb1 (List.mem_of_getElem? (i := 10) rfl), by decide +kernel, by decide +kernel, by decide⟩
theorem miX12_correct : Cond.instanceMethod yX12_correct ∈ lw_tbl := tb10 (List.mem_of_getElem? (i := 141) rfl)
theorem mvX12_correct : MV YX12_correct := ⟨miX12_correct, tb10 (List.mem_of_getElem? (i := 142) rfl)⟩
def YX12_count : Mt := (yX12_count, cX12_count, 7, (some .int))
theorem moX12_count : MO YX12_count 1 := ⟨tb11 (List.mem_of_getElem? (i := 62) rfl), tb1 (List.mem_of_getElem? (i := 10) rfl), by decide +kernel, by decide +kernel, by decide⟩
theorem miX12_count : Cond.instanceMethod yX12_count ∈ lw_tbl := tb11 (List.mem_of_getElem? (i := 60) rfl)
theorem mvX12_count : MV YX12_count := ⟨miX12_count, tb11 (List.mem_of_getElem? (i := 61) rfl)⟩
def YX12_edition : Mt := (yX12_edition, cX12_edition, 4, (some .int))
theorem moX12_edition : MO YX12_edition 0 := ⟨tb11 (List.mem_of_getElem? (i := 4) rfl), tb1 (List.mem_of_getElem? (i := 10) rfl), by decide +kernel, by decide +kernel, by decide⟩
theorem miX12_edition : Cond.instanceMethod yX12_edition ∈ lw_tbl := tb11 (List.mem_of_getElem? (i := 2) rfl)
theorem mvX12_edition : MV YX12_edition := ⟨miX12_edition, tb11 (List.mem_of_getElem? (i := 3) rfl)⟩
def YX12_end : Mt := (yX12_end, cX12_end, 2, (some .boolean))
theorem moX12_end : MO YX12_end 1 := ⟨tb9 (List.mem_of_getElem? (i := 49) rfl), tb1 (List.mem_of_getElem? (i := 10) rfl), by decide +kernel, by decide +kernel, by decide⟩
theorem miX12_end : Cond.instanceMethod yX12_end ∈ lw_tbl := tb9 (List.mem_of_getElem? (i := 47) rfl)
theorem mvX12_end : MV YX12_end := ⟨miX12_end, tb9 (List.mem_of_getElem? (i := 48) rfl)⟩
def YX12_ends : Mt := (yX12_ends, cX12_ends, 6, (some .int))
theorem moX12_ends : MO YX12_ends 2 := ⟨tb10 (List.mem_of_getElem? (i := 22) rfl), tb1 (List.mem_of_getElem? (i := 10) rfl), by decide +kernel, by decide +kernel, by decide⟩
theorem miX12_ends : Cond.instanceMethod yX12_ends ∈ lw_tbl := tb10 (List.mem_of_getElem? (i := 20) rfl)
theorem mvX12_ends : MV YX12_ends := ⟨miX12_ends, tb10 (List.mem_of_getElem? (i := 21) rfl)⟩
def YX12_endsWord : Mt := (yX12_endsWord, cX12_endsWord, 3, (some .boolean))
theorem moX12_endsWord : MO YX12_endsWord 2 := ⟨tb9 (List.mem_of_getElem? (i := 222) rfl), tb1 (List.mem_of_getElem? (i := 10) rfl), by decide +kernel, by decide +kernel, by decide⟩
theorem miX12_endsWord : Cond.instanceMethod yX12_endsWord ∈ lw_tbl := tb9 (List.mem_of_getElem? (i := 221) rfl)
theorem mvX12_endsWord : MV YX12_endsWord := ⟨miX12_endsWord, pv6 (q := (⟨"LeadRoomModel", "endsWord", "(II)Z"⟩, 58)) (List.mem_of_getElem? (i := 0) rfl)⟩
def YX12_factHere : Mt := (yX12_factHere, cX12_factHere, 1, (some .int))
theorem moX12_factHere : MO YX12_factHere 0 := ⟨tb9 (List.mem_of_getElem? (i := 152) rfl), tb1 (List.mem_of_getElem? (i := 10) rfl), by decide +kernel, by decide +kernel, by decide⟩
theorem miX12_factHere : Cond.instanceMethod yX12_factHere ∈ lw_tbl := tb9 (List.mem_of_getElem? (i := 151) rfl)
theorem mvX12_factHere : MV YX12_factHere := ⟨miX12_factHere, pv5 (q := (⟨"LeadRoomModel", "factHere", "()I"⟩, 58)) (List.mem_of_getElem? (i := 4) rfl)⟩
def YX12_factsOf : Mt := (yX12_factsOf, cX12_factsOf, 5, none)
theorem moX12_factsOf : MO YX12_factsOf 2 := ⟨tb9 (List.mem_of_getElem? (i := 182) rfl), tb1 (List.mem_of_getElem? (i := 10) rfl), by decide +kernel, by decide +kernel, by decide⟩
theorem miX12_factsOf : Cond.instanceMethod yX12_factsOf ∈ lw_tbl := tb9 (List.mem_of_getElem? (i := 181) rfl)
theorem mvX12_factsOf : MV YX12_factsOf := ⟨miX12_factsOf, pv5 (q := (⟨"LeadRoomModel", "factsOf", "(II)V"⟩, 58)) (List.mem_of_getElem? (i := 8) rfl)⟩
def YX12_fails : Mt := (yX12_fails, cX12_fails, 1, (some .boolean))
theorem moX12_fails : MO YX12_fails 0 := ⟨tb9 (List.mem_of_getElem? (i := 98) rfl), tb1 (List.mem_of_getElem? (i := 10) rfl), by decide +kernel, by decide +kernel, by decide⟩
theorem miX12_fails : Cond.instanceMethod yX12_fails ∈ lw_tbl := tb9 (List.mem_of_getElem? (i := 97) rfl)
theorem mvX12_fails : MV YX12_fails := ⟨miX12_fails, pv4 (q := (⟨"LeadRoomModel", "fails", "()Z"⟩, 58)) (List.mem_of_getElem? (i := 10) rfl)⟩
def YX12_fault : Mt := (yX12_fault, cX12_fault, 1, (some .int))
theorem moX12_fault : MO YX12_fault 0 := ⟨tb9 (List.mem_of_getElem? (i := 53) rfl), tb1 (List.mem_of_getElem? (i := 10) rfl), by decide +kernel, by decide +kernel, by decide⟩
theorem miX12_fault : Cond.instanceMethod yX12_fault ∈ lw_tbl := tb9 (List.mem_of_getElem? (i := 51) rfl)
theorem mvX12_fault : MV YX12_fault := ⟨miX12_fault, tb9 (List.mem_of_getElem? (i := 52) rfl)⟩
def YX12_feed : Mt := (yX12_feed, cX12_feed, 7, (some .int))
theorem moX12_feed : MO YX12_feed 5 := ⟨tb9 (List.mem_of_getElem? (i := 41) rfl), tb1 (List.mem_of_getElem? (i := 10) rfl), by decide +kernel, by decide +kernel, by decide⟩
theorem miX12_feed : Cond.instanceMethod yX12_feed ∈ lw_tbl := tb9 (List.mem_of_getElem? (i := 39) rfl)
theorem mvX12_feed : MV YX12_feed := ⟨miX12_feed, tb9 (List.mem_of_getElem? (i := 40) rfl)⟩
def YX12_fit : Mt := (yX12_fit, cX12_fit, 3, (some .int))
theorem moX12_fit : MO YX12_fit 2 := ⟨tb10 (List.mem_of_getElem? (i := 187) rfl), tb1 (List.mem_of_getElem? (i := 10) rfl), by decide +kernel, by decide +kernel, by decide⟩
theorem miX12_fit : Cond.instanceMethod yX12_fit ∈ lw_tbl := tb10 (List.mem_of_getElem? (i := 185) rfl)
theorem mvX12_fit : MV YX12_fit := ⟨miX12_fit, tb10 (List.mem_of_getElem? (i := 186) rfl)⟩
def YX12_fits : Mt := (yX12_fits, cX12_fits, 6, (some .int))
theorem moX12_fits : MO YX12_fits 4 := ⟨tb10 (List.mem_of_getElem? (i := 211) rfl), tb1 (List.mem_of_getElem? (i := 10) rfl), by decide +kernel, by decide +kernel, by decide⟩
theorem miX12_fits : Cond.instanceMethod yX12_fits ∈ lw_tbl := tb10 (List.mem_of_getElem? (i := 209) rfl)
theorem mvX12_fits : MV YX12_fits := ⟨miX12_fits, tb10 (List.mem_of_getElem? (i := 210) rfl)⟩
def YX12_fitting : Mt := (yX12_fitting, cX12_fitting, 4, none)
theorem moX12_fitting : MO YX12_fitting 2 := ⟨tb10 (List.mem_of_getElem? (i := 195) rfl), tb1 (List.mem_of_getElem? (i := 10) rfl), by decide +kernel, by decide +kernel, by decide⟩
theorem miX12_fitting : Cond.instanceMethod yX12_fitting ∈ lw_tbl := tb10 (List.mem_of_getElem? (i := 194) rfl)
theorem mvX12_fitting : MV YX12_fitting := ⟨miX12_fitting, pv7 (q := (⟨"LeadRoomModel", "fitting", "(II)V"⟩, 58)) (List.mem_of_getElem? (i := 11) rfl)⟩
def YX12_gapsOf : Mt := (yX12_gapsOf, cX12_gapsOf, 4, (some .int))
theorem moX12_gapsOf : MO YX12_gapsOf 3 := ⟨tb10 (List.mem_of_getElem? (i := 6) rfl), tb1 (List.mem_of_getElem? (i := 10) rfl), by decide +kernel, by decide +kernel, by decide⟩
theorem miX12_gapsOf : Cond.instanceMethod yX12_gapsOf ∈ lw_tbl := tb10 (List.mem_of_getElem? (i := 5) rfl)
theorem mvX12_gapsOf : MV YX12_gapsOf := ⟨miX12_gapsOf, pv6 (q := (⟨"LeadRoomModel", "gapsOf", "(III)I"⟩, 58)) (List.mem_of_getElem? (i := 5) rfl)⟩
def YX12_give : Mt := (yX12_give, cX12_give, 6, (some .int))
theorem moX12_give : MO YX12_give 2 := ⟨tb10 (List.mem_of_getElem? (i := 54) rfl), tb1 (List.mem_of_getElem? (i := 10) rfl), by decide +kernel, by decide +kernel, by decide⟩
theorem miX12_give : Cond.instanceMethod yX12_give ∈ lw_tbl := tb10 (List.mem_of_getElem? (i := 52) rfl)
theorem mvX12_give : MV YX12_give := ⟨miX12_give, tb10 (List.mem_of_getElem? (i := 53) rfl)⟩
def YX12_hand : Mt := (yX12_hand, cX12_hand, 9, (some .int))
theorem moX12_hand : MO YX12_hand 2 := ⟨tb10 (List.mem_of_getElem? (i := 26) rfl), tb1 (List.mem_of_getElem? (i := 10) rfl), by decide +kernel, by decide +kernel, by decide⟩
theorem miX12_hand : Cond.instanceMethod yX12_hand ∈ lw_tbl := tb10 (List.mem_of_getElem? (i := 24) rfl)
theorem mvX12_hand : MV YX12_hand := ⟨miX12_hand, tb10 (List.mem_of_getElem? (i := 25) rfl)⟩
def YX12_hasJob : Mt := (yX12_hasJob, cX12_hasJob, 5, (some .boolean))
theorem moX12_hasJob : MO YX12_hasJob 1 := ⟨tb10 (List.mem_of_getElem? (i := 151) rfl), tb1 (List.mem_of_getElem? (i := 10) rfl), by decide +kernel, by decide +kernel, by decide⟩
theorem miX12_hasJob : Cond.instanceMethod yX12_hasJob ∈ lw_tbl := tb10 (List.mem_of_getElem? (i := 150) rfl)
theorem mvX12_hasJob : MV YX12_hasJob := ⟨miX12_hasJob, pv7 (q := (⟨"LeadRoomModel", "hasJob", "(I)Z"⟩, 58)) (List.mem_of_getElem? (i := 7) rfl)⟩
def YX12_holds : Mt := (yX12_holds, cX12_holds, 9, (some .boolean))
theorem moX12_holds : MO YX12_holds 2 := ⟨tb9 (List.mem_of_getElem? (i := 194) rfl), tb1 (List.mem_of_getElem? (i := 10) rfl), by decide +kernel, by decide +kernel, by decide⟩
theorem miX12_holds : Cond.instanceMethod yX12_holds ∈ lw_tbl := tb9 (List.mem_of_getElem? (i := 193) rfl)
theorem mvX12_holds : MV YX12_holds := ⟨miX12_holds, pv5 (q := (⟨"LeadRoomModel", "holds", "(II)Z"⟩, 58)) (List.mem_of_getElem? (i := 11) rfl)⟩
def YX12_image : Mt := (yX12_image, cX12_image, 1, none)
theorem moX12_image : MO YX12_image 0 := ⟨tb11 (List.mem_of_getElem? (i := 54) rfl), tb1 (List.mem_of_getElem? (i := 10) rfl), by decide +kernel, by decide +kernel, by decide⟩
theorem miX12_image : Cond.instanceMethod yX12_image ∈ lw_tbl := tb11 (List.mem_of_getElem? (i := 52) rfl)
theorem mvX12_image : MV YX12_image := ⟨miX12_image, tb11 (List.mem_of_getElem? (i := 53) rfl)⟩
def YX12_init : Mt := (yX12_init, cX12_init, 2, none)
theorem moX12_init : MO YX12_init 0 := ⟨tb8 (List.mem_of_getElem? (i := 95) rfl), tb1 (List.mem_of_getElem? (i := 10) rfl), by decide +kernel, by decide +kernel, by decide⟩
theorem miX12_init : Cond.instanceMethod yX12_init ∈ lw_tbl := tb8 (List.mem_of_getElem? (i := 94) rfl)
def YX12_isEdition : Mt := (yX12_isEdition, cX12_isEdition, 2, (some .boolean))
theorem moX12_isEdition : MO YX12_isEdition 1 := ⟨tb10 (List.mem_of_getElem? (i := 227) rfl), tb1 (List.mem_of_getElem? (i := 10) rfl), by decide +kernel, by decide +kernel, by decide⟩
theorem miX12_isEdition : Cond.instanceMethod yX12_isEdition ∈ lw_tbl := tb10 (List.mem_of_getElem? (i := 226) rfl)
theorem mvX12_isEdition : MV YX12_isEdition := ⟨miX12_isEdition, pv7 (q := (⟨"LeadRoomModel", "isEdition", "(I)Z"⟩, 58)) (List.mem_of_getElem? (i := 15) rfl)⟩
def YX12_isIn : Mt := (yX12_isIn, cX12_isIn, 3, (some .boolean))
theorem moX12_isIn : MO YX12_isIn 3 := ⟨tb9 (List.mem_of_getElem? (i := 64) rfl), tb1 (List.mem_of_getElem? (i := 10) rfl), by decide +kernel, by decide +kernel, by decide⟩
theorem msX12_isIn : Cond.static yX12_isIn ∈ lw_tbl := tb9 (List.mem_of_getElem? (i := 63) rfl)
def YX12_isLast : Mt := (yX12_isLast, cX12_isLast, 3, (some .boolean))
theorem moX12_isLast : MO YX12_isLast 2 := ⟨tb10 (List.mem_of_getElem? (i := 10) rfl), tb1 (List.mem_of_getElem? (i := 10) rfl), by decide +kernel, by decide +kernel, by decide⟩
theorem miX12_isLast : Cond.instanceMethod yX12_isLast ∈ lw_tbl := tb10 (List.mem_of_getElem? (i := 9) rfl)
theorem mvX12_isLast : MV YX12_isLast := ⟨miX12_isLast, pv6 (q := (⟨"LeadRoomModel", "isLast", "(II)Z"⟩, 58)) (List.mem_of_getElem? (i := 6) rfl)⟩
def YX12_isLetter : Mt := (yX12_isLetter, cX12_isLetter, 1, (some .boolean))
theorem moX12_isLetter : MO YX12_isLetter 1 := ⟨tb9 (List.mem_of_getElem? (i := 75) rfl), tb1 (List.mem_of_getElem? (i := 10) rfl), by decide +kernel, by decide +kernel, by decide⟩
theorem msX12_isLetter : Cond.static yX12_isLetter ∈ lw_tbl := tb9 (List.mem_of_getElem? (i := 74) rfl)
def YX12_isMachine : Mt := (yX12_isMachine, cX12_isMachine, 2, (some .boolean))
theorem moX12_isMachine : MO YX12_isMachine 1 := ⟨tb10 (List.mem_of_getElem? (i := 42) rfl), tb1 (List.mem_of_getElem? (i := 10) rfl), by decide +kernel, by decide +kernel, by decide⟩
theorem miX12_isMachine : Cond.instanceMethod yX12_isMachine ∈ lw_tbl := tb10 (List.mem_of_getElem? (i := 41) rfl)
theorem mvX12_isMachine : MV YX12_isMachine := ⟨miX12_isMachine, pv6 (q := (⟨"LeadRoomModel", "isMachine", "(I)Z"⟩, 58)) (List.mem_of_getElem? (i := 9) rfl)⟩
def YX12_isPage : Mt := (yX12_isPage, cX12_isPage, 1, (some .boolean))
theorem moX12_isPage : MO YX12_isPage 1 := ⟨tb10 (List.mem_of_getElem? (i := 183) rfl), tb1 (List.mem_of_getElem? (i := 10) rfl), by decide +kernel, by decide +kernel, by decide⟩
theorem msX12_isPage : Cond.static yX12_isPage ∈ lw_tbl := tb10 (List.mem_of_getElem? (i := 182) rfl)
def YX12_isPart : Mt := (yX12_isPart, cX12_isPart, 2, (some .boolean))
theorem moX12_isPart : MO YX12_isPart 1 := ⟨tb9 (List.mem_of_getElem? (i := 174) rfl), tb1 (List.mem_of_getElem? (i := 10) rfl), by decide +kernel, by decide +kernel, by decide⟩
theorem miX12_isPart : Cond.instanceMethod yX12_isPart ∈ lw_tbl := tb9 (List.mem_of_getElem? (i := 173) rfl)
theorem mvX12_isPart : MV YX12_isPart := ⟨miX12_isPart, pv5 (q := (⟨"LeadRoomModel", "isPart", "(I)Z"⟩, 58)) (List.mem_of_getElem? (i := 6) rfl)⟩
def YX12_isRight : Mt := (yX12_isRight, cX12_isRight, 7, (some .boolean))
theorem moX12_isRight : MO YX12_isRight 2 := ⟨tb9 (List.mem_of_getElem? (i := 206) rfl), tb1 (List.mem_of_getElem? (i := 10) rfl), by decide +kernel, by decide +kernel, by decide⟩
theorem miX12_isRight : Cond.instanceMethod yX12_isRight ∈ lw_tbl := tb9 (List.mem_of_getElem? (i := 205) rfl)
theorem mvX12_isRight : MV YX12_isRight := ⟨miX12_isRight, pv5 (q := (⟨"LeadRoomModel", "isRight", "(II)Z"⟩, 58)) (List.mem_of_getElem? (i := 13) rfl)⟩
def YX12_isRow : Mt := (yX12_isRow, cX12_isRow, 3, (some .boolean))
theorem moX12_isRow : MO YX12_isRow 2 := ⟨tb11 (List.mem_of_getElem? (i := 42) rfl), tb1 (List.mem_of_getElem? (i := 10) rfl), by decide +kernel, by decide +kernel, by decide⟩
theorem miX12_isRow : Cond.instanceMethod yX12_isRow ∈ lw_tbl := tb11 (List.mem_of_getElem? (i := 41) rfl)
theorem mvX12_isRow : MV YX12_isRow := ⟨miX12_isRow, pv8 (q := (⟨"LeadRoomModel", "isRow", "(II)Z"⟩, 58)) (List.mem_of_getElem? (i := 6) rfl)⟩
def YX12_isSame : Mt := (yX12_isSame, cX12_isSame, 6, (some .boolean))
theorem moX12_isSame : MO YX12_isSame 3 := ⟨tb10 (List.mem_of_getElem? (i := 159) rfl), tb1 (List.mem_of_getElem? (i := 10) rfl), by decide +kernel, by decide +kernel, by decide⟩
theorem miX12_isSame : Cond.instanceMethod yX12_isSame ∈ lw_tbl := tb10 (List.mem_of_getElem? (i := 158) rfl)
theorem mvX12_isSame : MV YX12_isSame := ⟨miX12_isSame, pv7 (q := (⟨"LeadRoomModel", "isSame", "(III)Z"⟩, 58)) (List.mem_of_getElem? (i := 9) rfl)⟩
def YX12_isSlug : Mt := (yX12_isSlug, cX12_isSlug, 2, (some .boolean))
theorem moX12_isSlug : MO YX12_isSlug 1 := ⟨tb10 (List.mem_of_getElem? (i := 103) rfl), tb1 (List.mem_of_getElem? (i := 10) rfl), by decide +kernel, by decide +kernel, by decide⟩
theorem miX12_isSlug : Cond.instanceMethod yX12_isSlug ∈ lw_tbl := tb10 (List.mem_of_getElem? (i := 102) rfl)
theorem mvX12_isSlug : MV YX12_isSlug := ⟨miX12_isSlug, pv7 (q := (⟨"LeadRoomModel", "isSlug", "(I)Z"⟩, 58)) (List.mem_of_getElem? (i := 3) rfl)⟩
def YX12_isStanding : Mt := (yX12_isStanding, cX12_isStanding, 4, (some .boolean))
theorem moX12_isStanding : MO YX12_isStanding 3 := ⟨tb9 (List.mem_of_getElem? (i := 234) rfl), tb1 (List.mem_of_getElem? (i := 10) rfl), by decide +kernel, by decide +kernel, by decide⟩
theorem miX12_isStanding : Cond.instanceMethod yX12_isStanding ∈ lw_tbl := tb9 (List.mem_of_getElem? (i := 233) rfl)
theorem mvX12_isStanding : MV YX12_isStanding := ⟨miX12_isStanding, pv6 (q := (⟨"LeadRoomModel", "isStanding", "(III)Z"⟩, 58)) (List.mem_of_getElem? (i := 2) rfl)⟩
def YX12_isWrong : Mt := (yX12_isWrong, cX12_isWrong, 5, (some .boolean))
theorem moX12_isWrong : MO YX12_isWrong 1 := ⟨tb10 (List.mem_of_getElem? (i := 107) rfl), tb1 (List.mem_of_getElem? (i := 10) rfl), by decide +kernel, by decide +kernel, by decide⟩
theorem miX12_isWrong : Cond.instanceMethod yX12_isWrong ∈ lw_tbl := tb10 (List.mem_of_getElem? (i := 106) rfl)
theorem mvX12_isWrong : MV YX12_isWrong := ⟨miX12_isWrong, pv7 (q := (⟨"LeadRoomModel", "isWrong", "(I)Z"⟩, 58)) (List.mem_of_getElem? (i := 4) rfl)⟩
def YX12_jobs : Mt := (yX12_jobs, cX12_jobs, 3, (some .int))
theorem moX12_jobs : MO YX12_jobs 0 := ⟨tb11 (List.mem_of_getElem? (i := 29) rfl), tb1 (List.mem_of_getElem? (i := 10) rfl), by decide +kernel, by decide +kernel, by decide⟩
theorem miX12_jobs : Cond.instanceMethod yX12_jobs ∈ lw_tbl := tb11 (List.mem_of_getElem? (i := 28) rfl)
theorem mvX12_jobs : MV YX12_jobs := ⟨miX12_jobs, pv8 (q := (⟨"LeadRoomModel", "jobs", "()I"⟩, 58)) (List.mem_of_getElem? (i := 5) rfl)⟩
def YX12_judge : Mt := (yX12_judge, cX12_judge, 3, (some .int))
theorem moX12_judge : MO YX12_judge 1 := ⟨tb10 (List.mem_of_getElem? (i := 123) rfl), tb1 (List.mem_of_getElem? (i := 10) rfl), by decide +kernel, by decide +kernel, by decide⟩
theorem miX12_judge : Cond.instanceMethod yX12_judge ∈ lw_tbl := tb10 (List.mem_of_getElem? (i := 121) rfl)
theorem mvX12_judge : MV YX12_judge := ⟨miX12_judge, tb10 (List.mem_of_getElem? (i := 122) rfl)⟩
def YX12_keeps : Mt := (yX12_keeps, cX12_keeps, 7, none)
theorem moX12_keeps : MO YX12_keeps 3 := ⟨tb10 (List.mem_of_getElem? (i := 203) rfl), tb1 (List.mem_of_getElem? (i := 10) rfl), by decide +kernel, by decide +kernel, by decide⟩
theorem miX12_keeps : Cond.instanceMethod yX12_keeps ∈ lw_tbl := tb10 (List.mem_of_getElem? (i := 202) rfl)
theorem mvX12_keeps : MV YX12_keeps := ⟨miX12_keeps, pv7 (q := (⟨"LeadRoomModel", "keeps", "(III)V"⟩, 58)) (List.mem_of_getElem? (i := 13) rfl)⟩
def YX12_lastRule : Mt := (yX12_lastRule, cX12_lastRule, 5, (some .int))
theorem moX12_lastRule : MO YX12_lastRule 2 := ⟨tb9 (List.mem_of_getElem? (i := 190) rfl), tb1 (List.mem_of_getElem? (i := 10) rfl), by decide +kernel, by decide +kernel, by decide⟩
theorem miX12_lastRule : Cond.instanceMethod yX12_lastRule ∈ lw_tbl := tb9 (List.mem_of_getElem? (i := 189) rfl)
theorem mvX12_lastRule : MV YX12_lastRule := ⟨miX12_lastRule, pv5 (q := (⟨"LeadRoomModel", "lastRule", "(II)I"⟩, 58)) (List.mem_of_getElem? (i := 10) rfl)⟩
def YX12_least : Mt := (yX12_least, cX12_least, 2, (some .int))
theorem moX12_least : MO YX12_least 0 := ⟨tb11 (List.mem_of_getElem? (i := 12) rfl), tb1 (List.mem_of_getElem? (i := 10) rfl), by decide +kernel, by decide +kernel, by decide⟩
theorem miX12_least : Cond.instanceMethod yX12_least ∈ lw_tbl := tb11 (List.mem_of_getElem? (i := 10) rfl)
theorem mvX12_least : MV YX12_least := ⟨miX12_least, tb11 (List.mem_of_getElem? (i := 11) rfl)⟩
def YX12_lies : Mt := (yX12_lies, cX12_lies, 3, (some .int))
theorem moX12_lies : MO YX12_lies 2 := ⟨tb10 (List.mem_of_getElem? (i := 115) rfl), tb1 (List.mem_of_getElem? (i := 10) rfl), by decide +kernel, by decide +kernel, by decide⟩
theorem miX12_lies : Cond.instanceMethod yX12_lies ∈ lw_tbl := tb10 (List.mem_of_getElem? (i := 113) rfl)
theorem mvX12_lies : MV YX12_lies := ⟨miX12_lies, tb10 (List.mem_of_getElem? (i := 114) rfl)⟩
def YX12_linesOf : Mt := (yX12_linesOf, cX12_linesOf, 5, (some .int))
theorem moX12_linesOf : MO YX12_linesOf 2 := ⟨tb10 (List.mem_of_getElem? (i := 207) rfl), tb1 (List.mem_of_getElem? (i := 10) rfl), by decide +kernel, by decide +kernel, by decide⟩
theorem miX12_linesOf : Cond.instanceMethod yX12_linesOf ∈ lw_tbl := tb10 (List.mem_of_getElem? (i := 206) rfl)
theorem mvX12_linesOf : MV YX12_linesOf := ⟨miX12_linesOf, pv7 (q := (⟨"LeadRoomModel", "linesOf", "(II)I"⟩, 58)) (List.mem_of_getElem? (i := 14) rfl)⟩
def YX12_lock : Mt := (yX12_lock, cX12_lock, 11, (some .int))
theorem moX12_lock : MO YX12_lock 2 := ⟨tb10 (List.mem_of_getElem? (i := 215) rfl), tb1 (List.mem_of_getElem? (i := 10) rfl), by decide +kernel, by decide +kernel, by decide⟩
theorem miX12_lock : Cond.instanceMethod yX12_lock ∈ lw_tbl := tb10 (List.mem_of_getElem? (i := 213) rfl)
theorem mvX12_lock : MV YX12_lock := ⟨miX12_lock, tb10 (List.mem_of_getElem? (i := 214) rfl)⟩
def YX12_locked : Mt := (yX12_locked, cX12_locked, 4, (some .int))
theorem moX12_locked : MO YX12_locked 2 := ⟨tb10 (List.mem_of_getElem? (i := 219) rfl), tb1 (List.mem_of_getElem? (i := 10) rfl), by decide +kernel, by decide +kernel, by decide⟩
theorem miX12_locked : Cond.instanceMethod yX12_locked ∈ lw_tbl := tb10 (List.mem_of_getElem? (i := 217) rfl)
theorem mvX12_locked : MV YX12_locked := ⟨miX12_locked, tb10 (List.mem_of_getElem? (i := 218) rfl)⟩
def YX12_machine : Mt := (yX12_machine, cX12_machine, 5, (some .int))
theorem moX12_machine : MO YX12_machine 2 := ⟨tb10 (List.mem_of_getElem? (i := 30) rfl), tb1 (List.mem_of_getElem? (i := 10) rfl), by decide +kernel, by decide +kernel, by decide⟩
theorem miX12_machine : Cond.instanceMethod yX12_machine ∈ lw_tbl := tb10 (List.mem_of_getElem? (i := 28) rfl)
theorem mvX12_machine : MV YX12_machine := ⟨miX12_machine, tb10 (List.mem_of_getElem? (i := 29) rfl)⟩
def YX12_machine0 : Mt := (yX12_machine0, cX12_machine0, 1, (some .int))
theorem moX12_machine0 : MO YX12_machine0 1 := ⟨tb10 (List.mem_of_getElem? (i := 33) rfl), tb1 (List.mem_of_getElem? (i := 10) rfl), by decide +kernel, by decide +kernel, by decide⟩
theorem msX12_machine0 : Cond.static yX12_machine0 ∈ lw_tbl := tb10 (List.mem_of_getElem? (i := 32) rfl)
def YX12_many0 : Mt := (yX12_many0, cX12_many0, 3, (some .int))
theorem moX12_many0 : MO YX12_many0 2 := ⟨tb10 (List.mem_of_getElem? (i := 235) rfl), tb1 (List.mem_of_getElem? (i := 10) rfl), by decide +kernel, by decide +kernel, by decide⟩
theorem miX12_many0 : Cond.instanceMethod yX12_many0 ∈ lw_tbl := tb10 (List.mem_of_getElem? (i := 234) rfl)
theorem mvX12_many0 : MV YX12_many0 := ⟨miX12_many0, pv8 (q := (⟨"LeadRoomModel", "many0", "(II)I"⟩, 58)) (List.mem_of_getElem? (i := 1) rfl)⟩
def YX12_minute : Mt := (yX12_minute, cX12_minute, 3, none)
theorem moX12_minute : MO YX12_minute 0 := ⟨tb10 (List.mem_of_getElem? (i := 66) rfl), tb1 (List.mem_of_getElem? (i := 10) rfl), by decide +kernel, by decide +kernel, by decide⟩
theorem miX12_minute : Cond.instanceMethod yX12_minute ∈ lw_tbl := tb10 (List.mem_of_getElem? (i := 65) rfl)
theorem mvX12_minute : MV YX12_minute := ⟨miX12_minute, pv6 (q := (⟨"LeadRoomModel", "minute", "()V"⟩, 58)) (List.mem_of_getElem? (i := 12) rfl)⟩
def YX12_minutes : Mt := (yX12_minutes, cX12_minutes, 3, (some .int))
theorem moX12_minutes : MO YX12_minutes 1 := ⟨tb10 (List.mem_of_getElem? (i := 62) rfl), tb1 (List.mem_of_getElem? (i := 10) rfl), by decide +kernel, by decide +kernel, by decide⟩
theorem miX12_minutes : Cond.instanceMethod yX12_minutes ∈ lw_tbl := tb10 (List.mem_of_getElem? (i := 60) rfl)
theorem mvX12_minutes : MV YX12_minutes := ⟨miX12_minutes, tb10 (List.mem_of_getElem? (i := 61) rfl)⟩
def YX12_noPlace : Mt := (yX12_noPlace, cX12_noPlace, 4, (some .int))
theorem moX12_noPlace : MO YX12_noPlace 2 := ⟨tb10 (List.mem_of_getElem? (i := 119) rfl), tb1 (List.mem_of_getElem? (i := 10) rfl), by decide +kernel, by decide +kernel, by decide⟩
theorem miX12_noPlace : Cond.instanceMethod yX12_noPlace ∈ lw_tbl := tb10 (List.mem_of_getElem? (i := 118) rfl)
theorem mvX12_noPlace : MV YX12_noPlace := ⟨miX12_noPlace, pv7 (q := (⟨"LeadRoomModel", "noPlace", "(II)I"⟩, 58)) (List.mem_of_getElem? (i := 5) rfl)⟩
def YX12_notFit : Mt := (yX12_notFit, cX12_notFit, 6, (some .int))
theorem moX12_notFit : MO YX12_notFit 2 := ⟨tb10 (List.mem_of_getElem? (i := 191) rfl), tb1 (List.mem_of_getElem? (i := 10) rfl), by decide +kernel, by decide +kernel, by decide⟩
theorem miX12_notFit : Cond.instanceMethod yX12_notFit ∈ lw_tbl := tb10 (List.mem_of_getElem? (i := 190) rfl)
theorem mvX12_notFit : MV YX12_notFit := ⟨miX12_notFit, pv7 (q := (⟨"LeadRoomModel", "notFit", "(II)I"⟩, 58)) (List.mem_of_getElem? (i := 10) rfl)⟩
def YX12_page : Mt := (yX12_page, cX12_page, 4, none)
theorem moX12_page : MO YX12_page 3 := ⟨tb10 (List.mem_of_getElem? (i := 180) rfl), tb1 (List.mem_of_getElem? (i := 10) rfl), by decide +kernel, by decide +kernel, by decide⟩
theorem miX12_page : Cond.instanceMethod yX12_page ∈ lw_tbl := tb10 (List.mem_of_getElem? (i := 178) rfl)
theorem mvX12_page : MV YX12_page := ⟨miX12_page, tb10 (List.mem_of_getElem? (i := 179) rfl)⟩
def YX12_part : Mt := (yX12_part, cX12_part, 6, (some .int))
theorem moX12_part : MO YX12_part 2 := ⟨tb9 (List.mem_of_getElem? (i := 202) rfl), tb1 (List.mem_of_getElem? (i := 10) rfl), by decide +kernel, by decide +kernel, by decide⟩
theorem miX12_part : Cond.instanceMethod yX12_part ∈ lw_tbl := tb9 (List.mem_of_getElem? (i := 200) rfl)
theorem mvX12_part : MV YX12_part := ⟨miX12_part, tb9 (List.mem_of_getElem? (i := 201) rfl)⟩
def YX12_part0 : Mt := (yX12_part0, cX12_part0, 1, (some .int))
theorem moX12_part0 : MO YX12_part0 1 := ⟨tb9 (List.mem_of_getElem? (i := 82) rfl), tb1 (List.mem_of_getElem? (i := 10) rfl), by decide +kernel, by decide +kernel, by decide⟩
theorem msX12_part0 : Cond.static yX12_part0 ∈ lw_tbl := tb9 (List.mem_of_getElem? (i := 81) rfl)
def YX12_pay : Mt := (yX12_pay, cX12_pay, 9, (some .int))
theorem moX12_pay : MO YX12_pay 3 := ⟨tb11 (List.mem_of_getElem? (i := 33) rfl), tb1 (List.mem_of_getElem? (i := 10) rfl), by decide +kernel, by decide +kernel, by decide⟩
theorem miX12_pay : Cond.instanceMethod yX12_pay ∈ lw_tbl := tb11 (List.mem_of_getElem? (i := 31) rfl)
theorem mvX12_pay : MV YX12_pay := ⟨miX12_pay, tb11 (List.mem_of_getElem? (i := 32) rfl)⟩
def YX12_pie : Mt := (yX12_pie, cX12_pie, 3, (some .boolean))
theorem moX12_pie : MO YX12_pie 1 := ⟨tb10 (List.mem_of_getElem? (i := 127) rfl), tb1 (List.mem_of_getElem? (i := 10) rfl), by decide +kernel, by decide +kernel, by decide⟩
theorem miX12_pie : Cond.instanceMethod yX12_pie ∈ lw_tbl := tb10 (List.mem_of_getElem? (i := 125) rfl)
theorem mvX12_pie : MV YX12_pie := ⟨miX12_pie, tb10 (List.mem_of_getElem? (i := 126) rfl)⟩
def YX12_place : Mt := (yX12_place, cX12_place, 7, none)
theorem moX12_place : MO YX12_place 3 := ⟨tb11 (List.mem_of_getElem? (i := 20) rfl), tb1 (List.mem_of_getElem? (i := 10) rfl), by decide +kernel, by decide +kernel, by decide⟩
theorem miX12_place : Cond.instanceMethod yX12_place ∈ lw_tbl := tb11 (List.mem_of_getElem? (i := 19) rfl)
theorem mvX12_place : MV YX12_place := ⟨miX12_place, pv8 (q := (⟨"LeadRoomModel", "place", "(III)V"⟩, 58)) (List.mem_of_getElem? (i := 4) rfl)⟩
def YX12_pots : Mt := (yX12_pots, cX12_pots, 2, none)
theorem moX12_pots : MO YX12_pots 1 := ⟨tb10 (List.mem_of_getElem? (i := 87) rfl), tb1 (List.mem_of_getElem? (i := 10) rfl), by decide +kernel, by decide +kernel, by decide⟩
theorem miX12_pots : Cond.instanceMethod yX12_pots ∈ lw_tbl := tb10 (List.mem_of_getElem? (i := 86) rfl)
theorem mvX12_pots : MV YX12_pots := ⟨miX12_pots, pv7 (q := (⟨"LeadRoomModel", "pots", "(I)V"⟩, 58)) (List.mem_of_getElem? (i := 1) rfl)⟩
def YX12_proof : Mt := (yX12_proof, cX12_proof, 12, (some .int))
theorem moX12_proof : MO YX12_proof 1 := ⟨tb10 (List.mem_of_getElem? (i := 167) rfl), tb1 (List.mem_of_getElem? (i := 10) rfl), by decide +kernel, by decide +kernel, by decide⟩
theorem miX12_proof : Cond.instanceMethod yX12_proof ∈ lw_tbl := tb10 (List.mem_of_getElem? (i := 165) rfl)
theorem mvX12_proof : MV YX12_proof := ⟨miX12_proof, tb10 (List.mem_of_getElem? (i := 166) rfl)⟩
def YX12_puts : Mt := (yX12_puts, cX12_puts, 4, none)
theorem moX12_puts : MO YX12_puts 3 := ⟨tb10 (List.mem_of_getElem? (i := 91) rfl), tb1 (List.mem_of_getElem? (i := 10) rfl), by decide +kernel, by decide +kernel, by decide⟩
theorem miX12_puts : Cond.instanceMethod yX12_puts ∈ lw_tbl := tb10 (List.mem_of_getElem? (i := 90) rfl)
theorem mvX12_puts : MV YX12_puts := ⟨miX12_puts, pv7 (q := (⟨"LeadRoomModel", "puts", "(III)V"⟩, 58)) (List.mem_of_getElem? (i := 2) rfl)⟩
def YX12_queueLines : Mt := (yX12_queueLines, cX12_queueLines, 7, (some .int))
theorem moX12_queueLines : MO YX12_queueLines 1 := ⟨tb11 (List.mem_of_getElem? (i := 16) rfl), tb1 (List.mem_of_getElem? (i := 10) rfl), by decide +kernel, by decide +kernel, by decide⟩
theorem miX12_queueLines : Cond.instanceMethod yX12_queueLines ∈ lw_tbl := tb11 (List.mem_of_getElem? (i := 15) rfl)
theorem mvX12_queueLines : MV YX12_queueLines := ⟨miX12_queueLines, pv8 (q := (⟨"LeadRoomModel", "queueLines", "(I)I"⟩, 58)) (List.mem_of_getElem? (i := 3) rfl)⟩
def YX12_queues : Mt := (yX12_queues, cX12_queues, 9, (some .int))
theorem moX12_queues : MO YX12_queues 6 := ⟨tb10 (List.mem_of_getElem? (i := 58) rfl), tb1 (List.mem_of_getElem? (i := 10) rfl), by decide +kernel, by decide +kernel, by decide⟩
theorem miX12_queues : Cond.instanceMethod yX12_queues ∈ lw_tbl := tb10 (List.mem_of_getElem? (i := 57) rfl)
theorem mvX12_queues : MV YX12_queues := ⟨miX12_queues, pv6 (q := (⟨"LeadRoomModel", "queues", "(IIIIII)I"⟩, 58)) (List.mem_of_getElem? (i := 11) rfl)⟩
def YX12_reach : Mt := (yX12_reach, cX12_reach, 6, (some .int))
theorem moX12_reach : MO YX12_reach 1 := ⟨tb10 (List.mem_of_getElem? (i := 18) rfl), tb1 (List.mem_of_getElem? (i := 10) rfl), by decide +kernel, by decide +kernel, by decide⟩
theorem miX12_reach : Cond.instanceMethod yX12_reach ∈ lw_tbl := tb10 (List.mem_of_getElem? (i := 17) rfl)
theorem mvX12_reach : MV YX12_reach := ⟨miX12_reach, pv6 (q := (⟨"LeadRoomModel", "reach", "(I)I"⟩, 58)) (List.mem_of_getElem? (i := 8) rfl)⟩
def YX12_read : Mt := (yX12_read, cX12_read, 5, (some .boolean))
theorem moX12_read : MO YX12_read 2 := ⟨tb10 (List.mem_of_getElem? (i := 163) rfl), tb1 (List.mem_of_getElem? (i := 10) rfl), by decide +kernel, by decide +kernel, by decide⟩
theorem miX12_read : Cond.instanceMethod yX12_read ∈ lw_tbl := tb10 (List.mem_of_getElem? (i := 161) rfl)
theorem mvX12_read : MV YX12_read := ⟨miX12_read, tb10 (List.mem_of_getElem? (i := 162) rfl)⟩
def YX12_readAll : Mt := (yX12_readAll, cX12_readAll, 1, (some .boolean))
theorem moX12_readAll : MO YX12_readAll 0 := ⟨tb9 (List.mem_of_getElem? (i := 132) rfl), tb1 (List.mem_of_getElem? (i := 10) rfl), by decide +kernel, by decide +kernel, by decide⟩
theorem miX12_readAll : Cond.instanceMethod yX12_readAll ∈ lw_tbl := tb9 (List.mem_of_getElem? (i := 131) rfl)
theorem mvX12_readAll : MV YX12_readAll := ⟨miX12_readAll, pv5 (q := (⟨"LeadRoomModel", "readAll", "()Z"⟩, 58)) (List.mem_of_getElem? (i := 0) rfl)⟩
def YX12_readAny : Mt := (yX12_readAny, cX12_readAny, 1, (some .boolean))
theorem moX12_readAny : MO YX12_readAny 0 := ⟨tb9 (List.mem_of_getElem? (i := 128) rfl), tb1 (List.mem_of_getElem? (i := 10) rfl), by decide +kernel, by decide +kernel, by decide⟩
theorem miX12_readAny : Cond.instanceMethod yX12_readAny ∈ lw_tbl := tb9 (List.mem_of_getElem? (i := 127) rfl)
theorem mvX12_readAny : MV YX12_readAny := ⟨miX12_readAny, pv4 (q := (⟨"LeadRoomModel", "readAny", "()Z"⟩, 58)) (List.mem_of_getElem? (i := 15) rfl)⟩
def YX12_readAtom : Mt := (yX12_readAtom, cX12_readAtom, 7, (some .boolean))
theorem moX12_readAtom : MO YX12_readAtom 0 := ⟨tb9 (List.mem_of_getElem? (i := 136) rfl), tb1 (List.mem_of_getElem? (i := 10) rfl), by decide +kernel, by decide +kernel, by decide⟩
theorem miX12_readAtom : Cond.instanceMethod yX12_readAtom ∈ lw_tbl := tb9 (List.mem_of_getElem? (i := 135) rfl)
theorem mvX12_readAtom : MV YX12_readAtom := ⟨miX12_readAtom, pv5 (q := (⟨"LeadRoomModel", "readAtom", "()Z"⟩, 58)) (List.mem_of_getElem? (i := 1) rfl)⟩
def YX12_readIf : Mt := (yX12_readIf, cX12_readIf, 3, (some .boolean))
theorem moX12_readIf : MO YX12_readIf 1 := ⟨tb9 (List.mem_of_getElem? (i := 123) rfl), tb1 (List.mem_of_getElem? (i := 10) rfl), by decide +kernel, by decide +kernel, by decide⟩
theorem miX12_readIf : Cond.instanceMethod yX12_readIf ∈ lw_tbl := tb9 (List.mem_of_getElem? (i := 122) rfl)
theorem mvX12_readIf : MV YX12_readIf := ⟨miX12_readIf, pv4 (q := (⟨"LeadRoomModel", "readIf", "(Z)Z"⟩, 58)) (List.mem_of_getElem? (i := 14) rfl)⟩
def YX12_readNumber : Mt := (yX12_readNumber, cX12_readNumber, 5, (some .boolean))
theorem moX12_readNumber : MO YX12_readNumber 2 := ⟨tb9 (List.mem_of_getElem? (i := 162) rfl), tb1 (List.mem_of_getElem? (i := 10) rfl), by decide +kernel, by decide +kernel, by decide⟩
theorem miX12_readNumber : Cond.instanceMethod yX12_readNumber ∈ lw_tbl := tb9 (List.mem_of_getElem? (i := 161) rfl)
theorem mvX12_readNumber : MV YX12_readNumber := ⟨miX12_readNumber, pv5 (q := (⟨"LeadRoomModel", "readNumber", "(II)Z"⟩, 58)) (List.mem_of_getElem? (i := 5) rfl)⟩
def YX12_readOne : Mt := (yX12_readOne, cX12_readOne, 2, (some .boolean))
theorem moX12_readOne : MO YX12_readOne 1 := ⟨tb10 (List.mem_of_getElem? (i := 147) rfl), tb1 (List.mem_of_getElem? (i := 10) rfl), by decide +kernel, by decide +kernel, by decide⟩
theorem miX12_readOne : Cond.instanceMethod yX12_readOne ∈ lw_tbl := tb10 (List.mem_of_getElem? (i := 146) rfl)
theorem mvX12_readOne : MV YX12_readOne := ⟨miX12_readOne, pv7 (q := (⟨"LeadRoomModel", "readOne", "(I)Z"⟩, 58)) (List.mem_of_getElem? (i := 6) rfl)⟩
def YX12_readRule : Mt := (yX12_readRule, cX12_readRule, 5, (some .boolean))
theorem moX12_readRule : MO YX12_readRule 0 := ⟨tb9 (List.mem_of_getElem? (i := 102) rfl), tb1 (List.mem_of_getElem? (i := 10) rfl), by decide +kernel, by decide +kernel, by decide⟩
theorem miX12_readRule : Cond.instanceMethod yX12_readRule ∈ lw_tbl := tb9 (List.mem_of_getElem? (i := 101) rfl)
theorem mvX12_readRule : MV YX12_readRule := ⟨miX12_readRule, pv4 (q := (⟨"LeadRoomModel", "readRule", "()Z"⟩, 58)) (List.mem_of_getElem? (i := 11) rfl)⟩
def YX12_readStory : Mt := (yX12_readStory, cX12_readStory, 2, (some .boolean))
theorem moX12_readStory : MO YX12_readStory 0 := ⟨tb9 (List.mem_of_getElem? (i := 68) rfl), tb1 (List.mem_of_getElem? (i := 10) rfl), by decide +kernel, by decide +kernel, by decide⟩
theorem miX12_readStory : Cond.instanceMethod yX12_readStory ∈ lw_tbl := tb9 (List.mem_of_getElem? (i := 67) rfl)
theorem mvX12_readStory : MV YX12_readStory := ⟨miX12_readStory, pv4 (q := (⟨"LeadRoomModel", "readStory", "()Z"⟩, 58)) (List.mem_of_getElem? (i := 6) rfl)⟩
def YX12_readStyle : Mt := (yX12_readStyle, cX12_readStyle, 2, (some .boolean))
theorem moX12_readStyle : MO YX12_readStyle 0 := ⟨tb9 (List.mem_of_getElem? (i := 94) rfl), tb1 (List.mem_of_getElem? (i := 10) rfl), by decide +kernel, by decide +kernel, by decide⟩
theorem miX12_readStyle : Cond.instanceMethod yX12_readStyle ∈ lw_tbl := tb9 (List.mem_of_getElem? (i := 93) rfl)
theorem mvX12_readStyle : MV YX12_readStyle := ⟨miX12_readStyle, pv4 (q := (⟨"LeadRoomModel", "readStyle", "()Z"⟩, 58)) (List.mem_of_getElem? (i := 9) rfl)⟩
def YX12_readWord : Mt := (yX12_readWord, cX12_readWord, 6, (some .boolean))
theorem moX12_readWord : MO YX12_readWord 3 := ⟨tb9 (List.mem_of_getElem? (i := 79) rfl), tb1 (List.mem_of_getElem? (i := 10) rfl), by decide +kernel, by decide +kernel, by decide⟩
theorem miX12_readWord : Cond.instanceMethod yX12_readWord ∈ lw_tbl := tb9 (List.mem_of_getElem? (i := 78) rfl)
theorem mvX12_readWord : MV YX12_readWord := ⟨miX12_readWord, pv4 (q := (⟨"LeadRoomModel", "readWord", "(III)Z"⟩, 58)) (List.mem_of_getElem? (i := 8) rfl)⟩
def YX12_row : Mt := (yX12_row, cX12_row, 3, (some .int))
theorem moX12_row : MO YX12_row 2 := ⟨tb11 (List.mem_of_getElem? (i := 38) rfl), tb1 (List.mem_of_getElem? (i := 10) rfl), by decide +kernel, by decide +kernel, by decide⟩
theorem miX12_row : Cond.instanceMethod yX12_row ∈ lw_tbl := tb11 (List.mem_of_getElem? (i := 36) rfl)
theorem mvX12_row : MV YX12_row := ⟨miX12_row, tb11 (List.mem_of_getElem? (i := 37) rfl)⟩
def YX12_rule : Mt := (yX12_rule, cX12_rule, 4, (some .int))
theorem moX12_rule : MO YX12_rule 3 := ⟨tb9 (List.mem_of_getElem? (i := 170) rfl), tb1 (List.mem_of_getElem? (i := 10) rfl), by decide +kernel, by decide +kernel, by decide⟩
theorem miX12_rule : Cond.instanceMethod yX12_rule ∈ lw_tbl := tb9 (List.mem_of_getElem? (i := 168) rfl)
theorem mvX12_rule : MV YX12_rule := ⟨miX12_rule, tb9 (List.mem_of_getElem? (i := 169) rfl)⟩
def YX12_runs : Mt := (yX12_runs, cX12_runs, 4, (some .int))
theorem moX12_runs : MO YX12_runs 2 := ⟨tb10 (List.mem_of_getElem? (i := 95) rfl), tb1 (List.mem_of_getElem? (i := 10) rfl), by decide +kernel, by decide +kernel, by decide⟩
theorem miX12_runs : Cond.instanceMethod yX12_runs ∈ lw_tbl := tb10 (List.mem_of_getElem? (i := 93) rfl)
theorem mvX12_runs : MV YX12_runs := ⟨miX12_runs, tb10 (List.mem_of_getElem? (i := 94) rfl)⟩
def YX12_runsOn : Mt := (yX12_runsOn, cX12_runsOn, 10, none)
theorem moX12_runsOn : MO YX12_runsOn 1 := ⟨tb10 (List.mem_of_getElem? (i := 71) rfl), tb1 (List.mem_of_getElem? (i := 10) rfl), by decide +kernel, by decide +kernel, by decide⟩
theorem miX12_runsOn : Cond.instanceMethod yX12_runsOn ∈ lw_tbl := tb10 (List.mem_of_getElem? (i := 70) rfl)
theorem mvX12_runsOn : MV YX12_runsOn := ⟨miX12_runsOn, pv6 (q := (⟨"LeadRoomModel", "runsOn", "(I)V"⟩, 58)) (List.mem_of_getElem? (i := 13) rfl)⟩
def YX12_said : Mt := (yX12_said, cX12_said, 5, (some .int))
theorem moX12_said : MO YX12_said 4 := ⟨tb9 (List.mem_of_getElem? (i := 198) rfl), tb1 (List.mem_of_getElem? (i := 10) rfl), by decide +kernel, by decide +kernel, by decide⟩
theorem miX12_said : Cond.instanceMethod yX12_said ∈ lw_tbl := tb9 (List.mem_of_getElem? (i := 197) rfl)
theorem mvX12_said : MV YX12_said := ⟨miX12_said, pv5 (q := (⟨"LeadRoomModel", "said", "(IIII)I"⟩, 58)) (List.mem_of_getElem? (i := 12) rfl)⟩
def YX12_says : Mt := (yX12_says, cX12_says, 3, (some .int))
theorem moX12_says : MO YX12_says 2 := ⟨tb10 (List.mem_of_getElem? (i := 111) rfl), tb1 (List.mem_of_getElem? (i := 10) rfl), by decide +kernel, by decide +kernel, by decide⟩
theorem miX12_says : Cond.instanceMethod yX12_says ∈ lw_tbl := tb10 (List.mem_of_getElem? (i := 109) rfl)
theorem mvX12_says : MV YX12_says := ⟨miX12_says, tb10 (List.mem_of_getElem? (i := 110) rfl)⟩
def YX12_slip : Mt := (yX12_slip, cX12_slip, 8, (some .boolean))
theorem moX12_slip : MO YX12_slip 3 := ⟨tb10 (List.mem_of_getElem? (i := 139) rfl), tb1 (List.mem_of_getElem? (i := 10) rfl), by decide +kernel, by decide +kernel, by decide⟩
theorem miX12_slip : Cond.instanceMethod yX12_slip ∈ lw_tbl := tb10 (List.mem_of_getElem? (i := 137) rfl)
theorem mvX12_slip : MV YX12_slip := ⟨miX12_slip, tb10 (List.mem_of_getElem? (i := 138) rfl)⟩
def YX12_slug : Mt := (yX12_slug, cX12_slug, 4, (some .int))
theorem moX12_slug : MO YX12_slug 2 := ⟨tb10 (List.mem_of_getElem? (i := 99) rfl), tb1 (List.mem_of_getElem? (i := 10) rfl), by decide +kernel, by decide +kernel, by decide⟩
theorem miX12_slug : Cond.instanceMethod yX12_slug ∈ lw_tbl := tb10 (List.mem_of_getElem? (i := 97) rfl)
theorem mvX12_slug : MV YX12_slug := ⟨miX12_slug, tb10 (List.mem_of_getElem? (i := 98) rfl)⟩
def YX12_slug0 : Mt := (yX12_slug0, cX12_slug0, 1, (some .int))
theorem moX12_slug0 : MO YX12_slug0 1 := ⟨tb9 (List.mem_of_getElem? (i := 209) rfl), tb1 (List.mem_of_getElem? (i := 10) rfl), by decide +kernel, by decide +kernel, by decide⟩
theorem msX12_slug0 : Cond.static yX12_slug0 ∈ lw_tbl := tb9 (List.mem_of_getElem? (i := 208) rfl)
def YX12_slugOn : Mt := (yX12_slugOn, cX12_slugOn, 4, (some .int))
theorem moX12_slugOn : MO YX12_slugOn 3 := ⟨tb11 (List.mem_of_getElem? (i := 0) rfl), tb1 (List.mem_of_getElem? (i := 10) rfl), by decide +kernel, by decide +kernel, by decide⟩
theorem miX12_slugOn : Cond.instanceMethod yX12_slugOn ∈ lw_tbl := tb10 (List.mem_of_getElem? (i := 239) rfl)
theorem mvX12_slugOn : MV YX12_slugOn := ⟨miX12_slugOn, pv8 (q := (⟨"LeadRoomModel", "slugOn", "(III)I"⟩, 58)) (List.mem_of_getElem? (i := 2) rfl)⟩
def YX12_slugsOn : Mt := (yX12_slugsOn, cX12_slugsOn, 3, (some .int))
theorem moX12_slugsOn : MO YX12_slugsOn 2 := ⟨tb10 (List.mem_of_getElem? (i := 231) rfl), tb1 (List.mem_of_getElem? (i := 10) rfl), by decide +kernel, by decide +kernel, by decide⟩
theorem miX12_slugsOn : Cond.instanceMethod yX12_slugsOn ∈ lw_tbl := tb10 (List.mem_of_getElem? (i := 230) rfl)
theorem mvX12_slugsOn : MV YX12_slugsOn := ⟨miX12_slugsOn, pv8 (q := (⟨"LeadRoomModel", "slugsOn", "(II)I"⟩, 58)) (List.mem_of_getElem? (i := 0) rfl)⟩
def YX12_spikes : Mt := (yX12_spikes, cX12_spikes, 2, none)
theorem moX12_spikes : MO YX12_spikes 1 := ⟨tb10 (List.mem_of_getElem? (i := 75) rfl), tb1 (List.mem_of_getElem? (i := 10) rfl), by decide +kernel, by decide +kernel, by decide⟩
theorem miX12_spikes : Cond.instanceMethod yX12_spikes ∈ lw_tbl := tb10 (List.mem_of_getElem? (i := 74) rfl)
theorem mvX12_spikes : MV YX12_spikes := ⟨miX12_spikes, pv6 (q := (⟨"LeadRoomModel", "spikes", "(I)V"⟩, 58)) (List.mem_of_getElem? (i := 14) rfl)⟩
def YX12_stands : Mt := (yX12_stands, cX12_stands, 4, (some .int))
theorem moX12_stands : MO YX12_stands 3 := ⟨tb10 (List.mem_of_getElem? (i := 223) rfl), tb1 (List.mem_of_getElem? (i := 10) rfl), by decide +kernel, by decide +kernel, by decide⟩
theorem miX12_stands : Cond.instanceMethod yX12_stands ∈ lw_tbl := tb10 (List.mem_of_getElem? (i := 221) rfl)
theorem mvX12_stands : MV YX12_stands := ⟨miX12_stands, tb10 (List.mem_of_getElem? (i := 222) rfl)⟩
def YX12_story : Mt := (yX12_story, cX12_story, 8, (some .int))
theorem moX12_story : MO YX12_story 2 := ⟨tb9 (List.mem_of_getElem? (i := 57) rfl), tb1 (List.mem_of_getElem? (i := 10) rfl), by decide +kernel, by decide +kernel, by decide⟩
theorem miX12_story : Cond.instanceMethod yX12_story ∈ lw_tbl := tb9 (List.mem_of_getElem? (i := 55) rfl)
theorem mvX12_story : MV YX12_story := ⟨miX12_story, tb9 (List.mem_of_getElem? (i := 56) rfl)⟩
def YX12_style : Mt := (yX12_style, cX12_style, 4, (some .int))
theorem moX12_style : MO YX12_style 1 := ⟨tb9 (List.mem_of_getElem? (i := 90) rfl), tb1 (List.mem_of_getElem? (i := 10) rfl), by decide +kernel, by decide +kernel, by decide⟩
theorem miX12_style : Cond.instanceMethod yX12_style ∈ lw_tbl := tb9 (List.mem_of_getElem? (i := 88) rfl)
theorem mvX12_style : MV YX12_style := ⟨miX12_style, tb9 (List.mem_of_getElem? (i := 89) rfl)⟩
def YX12_styleOf : Mt := (yX12_styleOf, cX12_styleOf, 5, (some .int))
theorem moX12_styleOf : MO YX12_styleOf 1 := ⟨tb9 (List.mem_of_getElem? (i := 186) rfl), tb1 (List.mem_of_getElem? (i := 10) rfl), by decide +kernel, by decide +kernel, by decide⟩
theorem miX12_styleOf : Cond.instanceMethod yX12_styleOf ∈ lw_tbl := tb9 (List.mem_of_getElem? (i := 185) rfl)
theorem mvX12_styleOf : MV YX12_styleOf := ⟨miX12_styleOf, pv5 (q := (⟨"LeadRoomModel", "styleOf", "(I)I"⟩, 58)) (List.mem_of_getElem? (i := 9) rfl)⟩
def YX12_tagHere : Mt := (yX12_tagHere, cX12_tagHere, 1, (some .int))
theorem moX12_tagHere : MO YX12_tagHere 0 := ⟨tb9 (List.mem_of_getElem? (i := 145) rfl), tb1 (List.mem_of_getElem? (i := 10) rfl), by decide +kernel, by decide +kernel, by decide⟩
theorem miX12_tagHere : Cond.instanceMethod yX12_tagHere ∈ lw_tbl := tb9 (List.mem_of_getElem? (i := 144) rfl)
theorem mvX12_tagHere : MV YX12_tagHere := ⟨miX12_tagHere, pv5 (q := (⟨"LeadRoomModel", "tagHere", "()I"⟩, 58)) (List.mem_of_getElem? (i := 3) rfl)⟩
def YX12_takes : Mt := (yX12_takes, cX12_takes, 4, (some .boolean))
theorem moX12_takes : MO YX12_takes 1 := ⟨tb9 (List.mem_of_getElem? (i := 107) rfl), tb1 (List.mem_of_getElem? (i := 10) rfl), by decide +kernel, by decide +kernel, by decide⟩
theorem miX12_takes : Cond.instanceMethod yX12_takes ∈ lw_tbl := tb9 (List.mem_of_getElem? (i := 106) rfl)
theorem mvX12_takes : MV YX12_takes := ⟨miX12_takes, pv4 (q := (⟨"LeadRoomModel", "takes", "(Ljava/lang/String;)Z"⟩, 58)) (List.mem_of_getElem? (i := 12) rfl)⟩
def YX12_tear : Mt := (yX12_tear, cX12_tear, 5, (some .int))
theorem moX12_tear : MO YX12_tear 3 := ⟨tb11 (List.mem_of_getElem? (i := 46) rfl), tb1 (List.mem_of_getElem? (i := 10) rfl), by decide +kernel, by decide +kernel, by decide⟩
theorem miX12_tear : Cond.instanceMethod yX12_tear ∈ lw_tbl := tb11 (List.mem_of_getElem? (i := 44) rfl)
theorem mvX12_tear : MV YX12_tear := ⟨miX12_tear, tb11 (List.mem_of_getElem? (i := 45) rfl)⟩
def YX12_tells : Mt := (yX12_tells, cX12_tells, 5, none)
theorem moX12_tells : MO YX12_tells 2 := ⟨tb9 (List.mem_of_getElem? (i := 178) rfl), tb1 (List.mem_of_getElem? (i := 10) rfl), by decide +kernel, by decide +kernel, by decide⟩
theorem miX12_tells : Cond.instanceMethod yX12_tells ∈ lw_tbl := tb9 (List.mem_of_getElem? (i := 177) rfl)
theorem mvX12_tells : MV YX12_tells := ⟨miX12_tells, pv5 (q := (⟨"LeadRoomModel", "tells", "(II)V"⟩, 58)) (List.mem_of_getElem? (i := 7) rfl)⟩
def YX12_there : Mt := (yX12_there, cX12_there, 10, (some .int))
theorem moX12_there : MO YX12_there 3 := ⟨tb10 (List.mem_of_getElem? (i := 46) rfl), tb1 (List.mem_of_getElem? (i := 10) rfl), by decide +kernel, by decide +kernel, by decide⟩
theorem miX12_there : Cond.instanceMethod yX12_there ∈ lw_tbl := tb10 (List.mem_of_getElem? (i := 45) rfl)
theorem mvX12_there : MV YX12_there := ⟨miX12_there, pv6 (q := (⟨"LeadRoomModel", "there", "(III)I"⟩, 58)) (List.mem_of_getElem? (i := 10) rfl)⟩
def YX12_thrown : Mt := (yX12_thrown, cX12_thrown, 1, (some .int))
theorem moX12_thrown : MO YX12_thrown 0 := ⟨tb9 (List.mem_of_getElem? (i := 37) rfl), tb1 (List.mem_of_getElem? (i := 10) rfl), by decide +kernel, by decide +kernel, by decide⟩
theorem miX12_thrown : Cond.instanceMethod yX12_thrown ∈ lw_tbl := tb9 (List.mem_of_getElem? (i := 35) rfl)
theorem mvX12_thrown : MV YX12_thrown := ⟨miX12_thrown, tb9 (List.mem_of_getElem? (i := 36) rfl)⟩
def YX12_tight : Mt := (yX12_tight, cX12_tight, 4, (some .int))
theorem moX12_tight : MO YX12_tight 3 := ⟨tb9 (List.mem_of_getElem? (i := 238) rfl), tb1 (List.mem_of_getElem? (i := 10) rfl), by decide +kernel, by decide +kernel, by decide⟩
theorem miX12_tight : Cond.instanceMethod yX12_tight ∈ lw_tbl := tb9 (List.mem_of_getElem? (i := 237) rfl)
theorem mvX12_tight : MV YX12_tight := ⟨miX12_tight, pv6 (q := (⟨"LeadRoomModel", "tight", "(III)I"⟩, 58)) (List.mem_of_getElem? (i := 3) rfl)⟩
def YX12_use : Mt := (yX12_use, cX12_use, 1, none)
theorem moX12_use : MO YX12_use 0 := ⟨tb9 (List.mem_of_getElem? (i := 61) rfl), tb1 (List.mem_of_getElem? (i := 10) rfl), by decide +kernel, by decide +kernel, by decide⟩
theorem miX12_use : Cond.instanceMethod yX12_use ∈ lw_tbl := tb9 (List.mem_of_getElem? (i := 60) rfl)
theorem mvX12_use : MV YX12_use := ⟨miX12_use, pv4 (q := (⟨"LeadRoomModel", "use", "()V"⟩, 58)) (List.mem_of_getElem? (i := 5) rfl)⟩
def YX12_where : Mt := (yX12_where, cX12_where, 8, (some .int))
theorem moX12_where : MO YX12_where 3 := ⟨tb10 (List.mem_of_getElem? (i := 176) rfl), tb1 (List.mem_of_getElem? (i := 10) rfl), by decide +kernel, by decide +kernel, by decide⟩
theorem miX12_where : Cond.instanceMethod yX12_where ∈ lw_tbl := tb10 (List.mem_of_getElem? (i := 174) rfl)
theorem mvX12_where : MV YX12_where := ⟨miX12_where, tb10 (List.mem_of_getElem? (i := 175) rfl)⟩
def YX12_wide : Mt := (yX12_wide, cX12_wide, 9, (some .int))
theorem moX12_wide : MO YX12_wide 3 := ⟨tb10 (List.mem_of_getElem? (i := 2) rfl), tb1 (List.mem_of_getElem? (i := 10) rfl), by decide +kernel, by decide +kernel, by decide⟩
theorem miX12_wide : Cond.instanceMethod yX12_wide ∈ lw_tbl := tb10 (List.mem_of_getElem? (i := 1) rfl)
theorem mvX12_wide : MV YX12_wide := ⟨miX12_wide, pv6 (q := (⟨"LeadRoomModel", "wide", "(III)I"⟩, 58)) (List.mem_of_getElem? (i := 4) rfl)⟩
def YX12_width : Mt := (yX12_width, cX12_width, 4, none)
theorem moX12_width : MO YX12_width 3 := ⟨tb9 (List.mem_of_getElem? (i := 86) rfl), tb1 (List.mem_of_getElem? (i := 10) rfl), by decide +kernel, by decide +kernel, by decide⟩
theorem miX12_width : Cond.instanceMethod yX12_width ∈ lw_tbl := tb9 (List.mem_of_getElem? (i := 84) rfl)
theorem mvX12_width : MV YX12_width := ⟨miX12_width, tb9 (List.mem_of_getElem? (i := 85) rfl)⟩
def YX12_wordEnd : Mt := (yX12_wordEnd, cX12_wordEnd, 2, (some .int))
theorem moX12_wordEnd : MO YX12_wordEnd 0 := ⟨tb9 (List.mem_of_getElem? (i := 111) rfl), tb1 (List.mem_of_getElem? (i := 10) rfl), by decide +kernel, by decide +kernel, by decide⟩
theorem miX12_wordEnd : Cond.instanceMethod yX12_wordEnd ∈ lw_tbl := tb9 (List.mem_of_getElem? (i := 110) rfl)
theorem mvX12_wordEnd : MV YX12_wordEnd := ⟨miX12_wordEnd, pv4 (q := (⟨"LeadRoomModel", "wordEnd", "()I"⟩, 58)) (List.mem_of_getElem? (i := 13) rfl)⟩
def YX12_work : Mt := (yX12_work, cX12_work, 8, none)
theorem moX12_work : MO YX12_work 2 := ⟨tb9 (List.mem_of_getElem? (i := 230) rfl), tb1 (List.mem_of_getElem? (i := 10) rfl), by decide +kernel, by decide +kernel, by decide⟩
theorem miX12_work : Cond.instanceMethod yX12_work ∈ lw_tbl := tb9 (List.mem_of_getElem? (i := 229) rfl)
theorem mvX12_work : MV YX12_work := ⟨miX12_work, pv6 (q := (⟨"LeadRoomModel", "work", "(II)V"⟩, 58)) (List.mem_of_getElem? (i := 1) rfl)⟩
def YX12_write : Mt := (yX12_write, cX12_write, 8, none)
theorem moX12_write : MO YX12_write 2 := ⟨tb9 (List.mem_of_getElem? (i := 214) rfl), tb1 (List.mem_of_getElem? (i := 10) rfl), by decide +kernel, by decide +kernel, by decide⟩
theorem miX12_write : Cond.instanceMethod yX12_write ∈ lw_tbl := tb9 (List.mem_of_getElem? (i := 213) rfl)
theorem mvX12_write : MV YX12_write := ⟨miX12_write, pv5 (q := (⟨"LeadRoomModel", "write", "(II)V"⟩, 58)) (List.mem_of_getElem? (i := 14) rfl)⟩
def YX1_firstWrong : Mt := (yX1_firstWrong, cX1_firstWrong, 12, (some .int))
theorem moX1_firstWrong : MO YX1_firstWrong 5 := ⟨tb5 (List.mem_of_getElem? (i := 4) rfl), tb1 (List.mem_of_getElem? (i := 16) rfl), by decide +kernel, by decide +kernel, by decide⟩
theorem msX1_firstWrong : Cond.static yX1_firstWrong ∈ lw_tbl := tb5 (List.mem_of_getElem? (i := 3) rfl)
def YX1_isLetter : Mt := (yX1_isLetter, cX1_isLetter, 1, (some .boolean))
theorem moX1_isLetter : MO YX1_isLetter 1 := ⟨tb5 (List.mem_of_getElem? (i := 7) rfl), tb1 (List.mem_of_getElem? (i := 16) rfl), by decide +kernel, by decide +kernel, by decide⟩
theorem msX1_isLetter : Cond.static yX1_isLetter ∈ lw_tbl := tb5 (List.mem_of_getElem? (i := 6) rfl)
def YX2_addEdition : Mt := (yX2_addEdition, cX2_addEdition, 2, (some .int))
theorem moX2_addEdition : MO YX2_addEdition 0 := ⟨tb8 (List.mem_of_getElem? (i := 29) rfl), tb1 (List.mem_of_getElem? (i := 7) rfl), by decide +kernel, by decide +kernel, by decide⟩
theorem miX2_addEdition : Cond.instanceMethod yX2_addEdition ∈ lw_tbl := tb8 (List.mem_of_getElem? (i := 27) rfl)
theorem mvX2_addEdition : MV YX2_addEdition := ⟨miX2_addEdition, tb8 (List.mem_of_getElem? (i := 28) rfl)⟩
def YX2_addSlug : Mt := (yX2_addSlug, cX2_addSlug, 3, none)
theorem moX2_addSlug : MO YX2_addSlug 2 := ⟨tb4 (List.mem_of_getElem? (i := 103) rfl), tb1 (List.mem_of_getElem? (i := 7) rfl), by decide +kernel, by decide +kernel, by decide⟩
theorem miX2_addSlug : Cond.instanceMethod yX2_addSlug ∈ lw_tbl := tb4 (List.mem_of_getElem? (i := 102) rfl)
theorem mvX2_addSlug : MV YX2_addSlug := ⟨miX2_addSlug, pv1 (q := (⟨"LeadRoom$Desk", "addSlug", "(II)V"⟩, 12)) (List.mem_of_getElem? (i := 14) rfl)⟩
def YX2_addTelling : Mt := (yX2_addTelling, cX2_addTelling, 5, none)
theorem moX2_addTelling : MO YX2_addTelling 4 := ⟨tb7 (List.mem_of_getElem? (i := 128) rfl), tb1 (List.mem_of_getElem? (i := 7) rfl), by decide +kernel, by decide +kernel, by decide⟩
theorem miX2_addTelling : Cond.instanceMethod yX2_addTelling ∈ lw_tbl := tb7 (List.mem_of_getElem? (i := 126) rfl)
theorem mvX2_addTelling : MV YX2_addTelling := ⟨miX2_addTelling, tb7 (List.mem_of_getElem? (i := 127) rfl)⟩
def YX2_countNew : Mt := (yX2_countNew, cX2_countNew, 5, (some .int))
theorem moX2_countNew : MO YX2_countNew 2 := ⟨tb8 (List.mem_of_getElem? (i := 40) rfl), tb1 (List.mem_of_getElem? (i := 7) rfl), by decide +kernel, by decide +kernel, by decide⟩
theorem miX2_countNew : Cond.instanceMethod yX2_countNew ∈ lw_tbl := tb8 (List.mem_of_getElem? (i := 38) rfl)
theorem mvX2_countNew : MV YX2_countNew := ⟨miX2_countNew, tb8 (List.mem_of_getElem? (i := 39) rfl)⟩
def YX2_emptyRow : Mt := (yX2_emptyRow, cX2_emptyRow, 2, (some .int))
theorem moX2_emptyRow : MO YX2_emptyRow 1 := ⟨tb7 (List.mem_of_getElem? (i := 220) rfl), tb1 (List.mem_of_getElem? (i := 7) rfl), by decide +kernel, by decide +kernel, by decide⟩
theorem miX2_emptyRow : Cond.instanceMethod yX2_emptyRow ∈ lw_tbl := tb7 (List.mem_of_getElem? (i := 218) rfl)
theorem mvX2_emptyRow : MV YX2_emptyRow := ⟨miX2_emptyRow, tb7 (List.mem_of_getElem? (i := 219) rfl)⟩
def YX2_hasSlug : Mt := (yX2_hasSlug, cX2_hasSlug, 4, (some .boolean))
theorem moX2_hasSlug : MO YX2_hasSlug 2 := ⟨tb8 (List.mem_of_getElem? (i := 45) rfl), tb1 (List.mem_of_getElem? (i := 7) rfl), by decide +kernel, by decide +kernel, by decide⟩
theorem miX2_hasSlug : Cond.instanceMethod yX2_hasSlug ∈ lw_tbl := tb8 (List.mem_of_getElem? (i := 44) rfl)
theorem mvX2_hasSlug : MV YX2_hasSlug := ⟨miX2_hasSlug, pv4 (q := (⟨"LeadRoom$Desk", "hasSlug", "(II)Z"⟩, 12)) (List.mem_of_getElem? (i := 1) rfl)⟩
def YX2_init : Mt := (yX2_init, cX2_init, 2, none)
theorem moX2_init : MO YX2_init 0 := ⟨tb2 (List.mem_of_getElem? (i := 88) rfl), tb1 (List.mem_of_getElem? (i := 7) rfl), by decide +kernel, by decide +kernel, by decide⟩
theorem miX2_init : Cond.instanceMethod yX2_init ∈ lw_tbl := tb2 (List.mem_of_getElem? (i := 87) rfl)
def YX2_layPart : Mt := (yX2_layPart, cX2_layPart, 4, none)
theorem moX2_layPart : MO YX2_layPart 2 := ⟨tb7 (List.mem_of_getElem? (i := 228) rfl), tb1 (List.mem_of_getElem? (i := 7) rfl), by decide +kernel, by decide +kernel, by decide⟩
theorem miX2_layPart : Cond.instanceMethod yX2_layPart ∈ lw_tbl := tb7 (List.mem_of_getElem? (i := 226) rfl)
theorem mvX2_layPart : MV YX2_layPart := ⟨miX2_layPart, tb7 (List.mem_of_getElem? (i := 227) rfl)⟩
def YX2_rackOf : Mt := (yX2_rackOf, cX2_rackOf, 7, (some .int))
theorem moX2_rackOf : MO YX2_rackOf 3 := ⟨tb7 (List.mem_of_getElem? (i := 139) rfl), tb1 (List.mem_of_getElem? (i := 7) rfl), by decide +kernel, by decide +kernel, by decide⟩
theorem miX2_rackOf : Cond.instanceMethod yX2_rackOf ∈ lw_tbl := tb7 (List.mem_of_getElem? (i := 137) rfl)
theorem mvX2_rackOf : MV YX2_rackOf := ⟨miX2_rackOf, tb7 (List.mem_of_getElem? (i := 138) rfl)⟩
def YX2_slugOn : Mt := (yX2_slugOn, cX2_slugOn, 3, (some .int))
theorem moX2_slugOn : MO YX2_slugOn 2 := ⟨tb8 (List.mem_of_getElem? (i := 18) rfl), tb1 (List.mem_of_getElem? (i := 7) rfl), by decide +kernel, by decide +kernel, by decide⟩
theorem miX2_slugOn : Cond.instanceMethod yX2_slugOn ∈ lw_tbl := tb8 (List.mem_of_getElem? (i := 16) rfl)
theorem mvX2_slugOn : MV YX2_slugOn := ⟨miX2_slugOn, tb8 (List.mem_of_getElem? (i := 17) rfl)⟩
def YX2_takeAll : Mt := (yX2_takeAll, cX2_takeAll, 3, none)
theorem moX2_takeAll : MO YX2_takeAll 1 := ⟨tb4 (List.mem_of_getElem? (i := 94) rfl), tb1 (List.mem_of_getElem? (i := 7) rfl), by decide +kernel, by decide +kernel, by decide⟩
theorem miX2_takeAll : Cond.instanceMethod yX2_takeAll ∈ lw_tbl := tb4 (List.mem_of_getElem? (i := 92) rfl)
theorem mvX2_takeAll : MV YX2_takeAll := ⟨miX2_takeAll, tb4 (List.mem_of_getElem? (i := 93) rfl)⟩
def YX2_takeRow : Mt := (yX2_takeRow, cX2_takeRow, 5, none)
theorem moX2_takeRow : MO YX2_takeRow 3 := ⟨tb4 (List.mem_of_getElem? (i := 99) rfl), tb1 (List.mem_of_getElem? (i := 7) rfl), by decide +kernel, by decide +kernel, by decide⟩
theorem miX2_takeRow : Cond.instanceMethod yX2_takeRow ∈ lw_tbl := tb4 (List.mem_of_getElem? (i := 98) rfl)
theorem mvX2_takeRow : MV YX2_takeRow := ⟨miX2_takeRow, pv1 (q := (⟨"LeadRoom$Desk", "takeRow", "(I[II)V"⟩, 12)) (List.mem_of_getElem? (i := 13) rfl)⟩
def YX3_addStory : Mt := (yX3_addStory, cX3_addStory, 6, none)
theorem moX3_addStory : MO YX3_addStory 2 := ⟨tb7 (List.mem_of_getElem? (i := 179) rfl), tb1 (List.mem_of_getElem? (i := 8) rfl), by decide +kernel, by decide +kernel, by decide⟩
theorem miX3_addStory : Cond.instanceMethod yX3_addStory ∈ lw_tbl := tb7 (List.mem_of_getElem? (i := 178) rfl)
theorem mvX3_addStory : MV YX3_addStory := ⟨miX3_addStory, pv3 (q := (⟨"LeadRoom$Fitter", "addStory", "(LLeadRoom$Room;I)V"⟩, 11)) (List.mem_of_getElem? (i := 11) rfl)⟩
def YX3_allRight : Mt := (yX3_allRight, cX3_allRight, 5, (some .boolean))
theorem moX3_allRight : MO YX3_allRight 1 := ⟨tb7 (List.mem_of_getElem? (i := 215) rfl), tb1 (List.mem_of_getElem? (i := 8) rfl), by decide +kernel, by decide +kernel, by decide⟩
theorem miX3_allRight : Cond.instanceMethod yX3_allRight ∈ lw_tbl := tb7 (List.mem_of_getElem? (i := 213) rfl)
theorem mvX3_allRight : MV YX3_allRight := ⟨miX3_allRight, tb7 (List.mem_of_getElem? (i := 214) rfl)⟩
def YX3_chooseColumn : Mt := (yX3_chooseColumn, cX3_chooseColumn, 3, none)
theorem moX3_chooseColumn : MO YX3_chooseColumn 1 := ⟨tb7 (List.mem_of_getElem? (i := 184) rfl), tb1 (List.mem_of_getElem? (i := 8) rfl), by decide +kernel, by decide +kernel, by decide⟩
theorem miX3_chooseColumn : Cond.instanceMethod yX3_chooseColumn ∈ lw_tbl := tb7 (List.mem_of_getElem? (i := 183) rfl)
theorem mvX3_chooseColumn : MV YX3_chooseColumn := ⟨miX3_chooseColumn, pv3 (q := (⟨"LeadRoom$Fitter", "chooseColumn", "(I)V"⟩, 11)) (List.mem_of_getElem? (i := 12) rfl)⟩
def YX3_chooseKeep : Mt := (yX3_chooseKeep, cX3_chooseKeep, 5, none)
theorem moX3_chooseKeep : MO YX3_chooseKeep 2 := ⟨tb7 (List.mem_of_getElem? (i := 188) rfl), tb1 (List.mem_of_getElem? (i := 8) rfl), by decide +kernel, by decide +kernel, by decide⟩
theorem miX3_chooseKeep : Cond.instanceMethod yX3_chooseKeep ∈ lw_tbl := tb7 (List.mem_of_getElem? (i := 187) rfl)
theorem mvX3_chooseKeep : MV YX3_chooseKeep := ⟨miX3_chooseKeep, pv3 (q := (⟨"LeadRoom$Fitter", "chooseKeep", "(II)V"⟩, 11)) (List.mem_of_getElem? (i := 13) rfl)⟩
def YX3_init : Mt := (yX3_init, cX3_init, 1, none)
theorem moX3_init : MO YX3_init 0 := ⟨tb2 (List.mem_of_getElem? (i := 140) rfl), tb1 (List.mem_of_getElem? (i := 8) rfl), by decide +kernel, by decide +kernel, by decide⟩
theorem miX3_init : Cond.instanceMethod yX3_init ∈ lw_tbl := tb2 (List.mem_of_getElem? (i := 139) rfl)
def YX3_placeOf : Mt := (yX3_placeOf, cX3_placeOf, 3, (some .int))
theorem moX3_placeOf : MO YX3_placeOf 1 := ⟨tb7 (List.mem_of_getElem? (i := 204) rfl), tb1 (List.mem_of_getElem? (i := 8) rfl), by decide +kernel, by decide +kernel, by decide⟩
theorem miX3_placeOf : Cond.instanceMethod yX3_placeOf ∈ lw_tbl := tb7 (List.mem_of_getElem? (i := 202) rfl)
theorem mvX3_placeOf : MV YX3_placeOf := ⟨miX3_placeOf, tb7 (List.mem_of_getElem? (i := 203) rfl)⟩
def YX3_search : Mt := (yX3_search, cX3_search, 6, none)
theorem moX3_search : MO YX3_search 4 := ⟨tb7 (List.mem_of_getElem? (i := 174) rfl), tb1 (List.mem_of_getElem? (i := 8) rfl), by decide +kernel, by decide +kernel, by decide⟩
theorem miX3_search : Cond.instanceMethod yX3_search ∈ lw_tbl := tb7 (List.mem_of_getElem? (i := 172) rfl)
theorem mvX3_search : MV YX3_search := ⟨miX3_search, tb7 (List.mem_of_getElem? (i := 173) rfl)⟩
def YX3_takeIfBetter : Mt := (yX3_takeIfBetter, cX3_takeIfBetter, 2, none)
theorem moX3_takeIfBetter : MO YX3_takeIfBetter 1 := ⟨tb7 (List.mem_of_getElem? (i := 192) rfl), tb1 (List.mem_of_getElem? (i := 8) rfl), by decide +kernel, by decide +kernel, by decide⟩
theorem miX3_takeIfBetter : Cond.instanceMethod yX3_takeIfBetter ∈ lw_tbl := tb7 (List.mem_of_getElem? (i := 191) rfl)
theorem mvX3_takeIfBetter : MV YX3_takeIfBetter := ⟨miX3_takeIfBetter, pv3 (q := (⟨"LeadRoom$Fitter", "takeIfBetter", "(I)V"⟩, 11)) (List.mem_of_getElem? (i := 14) rfl)⟩
def YX4_addJob : Mt := (yX4_addJob, cX4_addJob, 5, none)
theorem moX4_addJob : MO YX4_addJob 4 := ⟨tb6 (List.mem_of_getElem? (i := 120) rfl), tb1 (List.mem_of_getElem? (i := 26) rfl), by decide +kernel, by decide +kernel, by decide⟩
theorem miX4_addJob : Cond.instanceMethod yX4_addJob ∈ lw_tbl := tb6 (List.mem_of_getElem? (i := 118) rfl)
theorem mvX4_addJob : MV YX4_addJob := ⟨miX4_addJob, tb6 (List.mem_of_getElem? (i := 119) rfl)⟩
def YX4_cannotCast : Mt := (yX4_cannotCast, cX4_cannotCast, 3, (some .boolean))
theorem moX4_cannotCast : MO YX4_cannotCast 1 := ⟨tb6 (List.mem_of_getElem? (i := 160) rfl), tb1 (List.mem_of_getElem? (i := 26) rfl), by decide +kernel, by decide +kernel, by decide⟩
theorem miX4_cannotCast : Cond.instanceMethod yX4_cannotCast ∈ lw_tbl := tb6 (List.mem_of_getElem? (i := 158) rfl)
theorem mvX4_cannotCast : MV YX4_cannotCast := ⟨miX4_cannotCast, tb6 (List.mem_of_getElem? (i := 159) rfl)⟩
def YX4_dropJob : Mt := (yX4_dropJob, cX4_dropJob, 2, none)
theorem moX4_dropJob : MO YX4_dropJob 0 := ⟨tb6 (List.mem_of_getElem? (i := 151) rfl), tb1 (List.mem_of_getElem? (i := 26) rfl), by decide +kernel, by decide +kernel, by decide⟩
theorem miX4_dropJob : Cond.instanceMethod yX4_dropJob ∈ lw_tbl := tb6 (List.mem_of_getElem? (i := 149) rfl)
theorem mvX4_dropJob : MV YX4_dropJob := ⟨miX4_dropJob, tb6 (List.mem_of_getElem? (i := 150) rfl)⟩
def YX4_empty : Mt := (yX4_empty, cX4_empty, 4, none)
theorem moX4_empty : MO YX4_empty 2 := ⟨tb6 (List.mem_of_getElem? (i := 83) rfl), tb1 (List.mem_of_getElem? (i := 26) rfl), by decide +kernel, by decide +kernel, by decide⟩
theorem miX4_empty : Cond.instanceMethod yX4_empty ∈ lw_tbl := tb6 (List.mem_of_getElem? (i := 81) rfl)
theorem mvX4_empty : MV YX4_empty := ⟨miX4_empty, tb6 (List.mem_of_getElem? (i := 82) rfl)⟩
def YX4_hasJobOf : Mt := (yX4_hasJobOf, cX4_hasJobOf, 3, (some .boolean))
theorem moX4_hasJobOf : MO YX4_hasJobOf 1 := ⟨tb7 (List.mem_of_getElem? (i := 45) rfl), tb1 (List.mem_of_getElem? (i := 26) rfl), by decide +kernel, by decide +kernel, by decide⟩
theorem miX4_hasJobOf : Cond.instanceMethod yX4_hasJobOf ∈ lw_tbl := tb7 (List.mem_of_getElem? (i := 43) rfl)
theorem mvX4_hasJobOf : MV YX4_hasJobOf := ⟨miX4_hasJobOf, tb7 (List.mem_of_getElem? (i := 44) rfl)⟩
def YX4_init : Mt := (yX4_init, cX4_init, 1, none)
theorem moX4_init : MO YX4_init 0 := ⟨tb3 (List.mem_of_getElem? (i := 154) rfl), tb1 (List.mem_of_getElem? (i := 26) rfl), by decide +kernel, by decide +kernel, by decide⟩
theorem miX4_init : Cond.instanceMethod yX4_init ∈ lw_tbl := tb3 (List.mem_of_getElem? (i := 153) rfl)
def YX4_isShort : Mt := (yX4_isShort, cX4_isShort, 4, (some .boolean))
theorem moX4_isShort : MO YX4_isShort 2 := ⟨tb6 (List.mem_of_getElem? (i := 165) rfl), tb1 (List.mem_of_getElem? (i := 26) rfl), by decide +kernel, by decide +kernel, by decide⟩
theorem miX4_isShort : Cond.instanceMethod yX4_isShort ∈ lw_tbl := tb6 (List.mem_of_getElem? (i := 163) rfl)
theorem mvX4_isShort : MV YX4_isShort := ⟨miX4_isShort, tb6 (List.mem_of_getElem? (i := 164) rfl)⟩
def YX4_spike : Mt := (yX4_spike, cX4_spike, 1, none)
theorem moX4_spike : MO YX4_spike 0 := ⟨tb6 (List.mem_of_getElem? (i := 147) rfl), tb1 (List.mem_of_getElem? (i := 26) rfl), by decide +kernel, by decide +kernel, by decide⟩
theorem miX4_spike : Cond.instanceMethod yX4_spike ∈ lw_tbl := tb6 (List.mem_of_getElem? (i := 145) rfl)
theorem mvX4_spike : MV YX4_spike := ⟨miX4_spike, tb6 (List.mem_of_getElem? (i := 146) rfl)⟩
def YX4_takeAll : Mt := (yX4_takeAll, cX4_takeAll, 2, none)
theorem moX4_takeAll : MO YX4_takeAll 1 := ⟨tb3 (List.mem_of_getElem? (i := 211) rfl), tb1 (List.mem_of_getElem? (i := 26) rfl), by decide +kernel, by decide +kernel, by decide⟩
theorem miX4_takeAll : Cond.instanceMethod yX4_takeAll ∈ lw_tbl := tb3 (List.mem_of_getElem? (i := 209) rfl)
theorem mvX4_takeAll : MV YX4_takeAll := ⟨miX4_takeAll, tb3 (List.mem_of_getElem? (i := 210) rfl)⟩
def YX5_addBit : Mt := (yX5_addBit, cX5_addBit, 3, none)
theorem moX5_addBit : MO YX5_addBit 2 := ⟨tb5 (List.mem_of_getElem? (i := 39) rfl), tb1 (List.mem_of_getElem? (i := 4) rfl), by decide +kernel, by decide +kernel, by decide⟩
theorem miX5_addBit : Cond.instanceMethod yX5_addBit ∈ lw_tbl := tb5 (List.mem_of_getElem? (i := 38) rfl)
theorem mvX5_addBit : MV YX5_addBit := ⟨miX5_addBit, pv2 (q := (⟨"LeadRoom$Part", "addBit", "(IZ)V"⟩, 12)) (List.mem_of_getElem? (i := 1) rfl)⟩
def YX5_addBits : Mt := (yX5_addBits, cX5_addBits, 8, none)
theorem moX5_addBits : MO YX5_addBits 3 := ⟨tb7 (List.mem_of_getElem? (i := 54) rfl), tb1 (List.mem_of_getElem? (i := 4) rfl), by decide +kernel, by decide +kernel, by decide⟩
theorem miX5_addBits : Cond.instanceMethod yX5_addBits ∈ lw_tbl := tb7 (List.mem_of_getElem? (i := 53) rfl)
theorem mvX5_addBits : MV YX5_addBits := ⟨miX5_addBits, pv3 (q := (⟨"LeadRoom$Part", "addBits", "(LLeadRoom$Part;II)V"⟩, 12)) (List.mem_of_getElem? (i := 7) rfl)⟩
def YX5_addText : Mt := (yX5_addText, cX5_addText, 8, none)
theorem moX5_addText : MO YX5_addText 3 := ⟨tb5 (List.mem_of_getElem? (i := 34) rfl), tb1 (List.mem_of_getElem? (i := 4) rfl), by decide +kernel, by decide +kernel, by decide⟩
theorem miX5_addText : Cond.instanceMethod yX5_addText ∈ lw_tbl := tb5 (List.mem_of_getElem? (i := 32) rfl)
theorem mvX5_addText : MV YX5_addText := ⟨miX5_addText, tb5 (List.mem_of_getElem? (i := 33) rfl)⟩
def YX5_bitsOfWord : Mt := (yX5_bitsOfWord, cX5_bitsOfWord, 2, (some .int))
theorem moX5_bitsOfWord : MO YX5_bitsOfWord 1 := ⟨tb7 (List.mem_of_getElem? (i := 33) rfl), tb1 (List.mem_of_getElem? (i := 4) rfl), by decide +kernel, by decide +kernel, by decide⟩
theorem miX5_bitsOfWord : Cond.instanceMethod yX5_bitsOfWord ∈ lw_tbl := tb7 (List.mem_of_getElem? (i := 31) rfl)
theorem mvX5_bitsOfWord : MV YX5_bitsOfWord := ⟨miX5_bitsOfWord, tb7 (List.mem_of_getElem? (i := 32) rfl)⟩
def YX5_empty : Mt := (yX5_empty, cX5_empty, 3, none)
theorem moX5_empty : MO YX5_empty 2 := ⟨tb5 (List.mem_of_getElem? (i := 30) rfl), tb1 (List.mem_of_getElem? (i := 4) rfl), by decide +kernel, by decide +kernel, by decide⟩
theorem miX5_empty : Cond.instanceMethod yX5_empty ∈ lw_tbl := tb5 (List.mem_of_getElem? (i := 28) rfl)
theorem mvX5_empty : MV YX5_empty := ⟨miX5_empty, tb5 (List.mem_of_getElem? (i := 29) rfl)⟩
def YX5_firstBit : Mt := (yX5_firstBit, cX5_firstBit, 4, (some .int))
theorem moX5_firstBit : MO YX5_firstBit 1 := ⟨tb7 (List.mem_of_getElem? (i := 37) rfl), tb1 (List.mem_of_getElem? (i := 4) rfl), by decide +kernel, by decide +kernel, by decide⟩
theorem miX5_firstBit : Cond.instanceMethod yX5_firstBit ∈ lw_tbl := tb7 (List.mem_of_getElem? (i := 35) rfl)
theorem mvX5_firstBit : MV YX5_firstBit := ⟨miX5_firstBit, tb7 (List.mem_of_getElem? (i := 36) rfl)⟩
def YX5_firstBitOfLine : Mt := (yX5_firstBitOfLine, cX5_firstBitOfLine, 2, (some .int))
theorem moX5_firstBitOfLine : MO YX5_firstBitOfLine 1 := ⟨tb5 (List.mem_of_getElem? (i := 227) rfl), tb1 (List.mem_of_getElem? (i := 4) rfl), by decide +kernel, by decide +kernel, by decide⟩
theorem miX5_firstBitOfLine : Cond.instanceMethod yX5_firstBitOfLine ∈ lw_tbl := tb5 (List.mem_of_getElem? (i := 225) rfl)
theorem mvX5_firstBitOfLine : MV YX5_firstBitOfLine := ⟨miX5_firstBitOfLine, tb5 (List.mem_of_getElem? (i := 226) rfl)⟩
def YX5_hasLine : Mt := (yX5_hasLine, cX5_hasLine, 2, (some .boolean))
theorem moX5_hasLine : MO YX5_hasLine 1 := ⟨tb5 (List.mem_of_getElem? (i := 213) rfl), tb1 (List.mem_of_getElem? (i := 4) rfl), by decide +kernel, by decide +kernel, by decide⟩
theorem miX5_hasLine : Cond.instanceMethod yX5_hasLine ∈ lw_tbl := tb5 (List.mem_of_getElem? (i := 211) rfl)
theorem mvX5_hasLine : MV YX5_hasLine := ⟨miX5_hasLine, tb5 (List.mem_of_getElem? (i := 212) rfl)⟩
def YX5_init : Mt := (yX5_init, cX5_init, 1, none)
theorem moX5_init : MO YX5_init 0 := ⟨tb1 (List.mem_of_getElem? (i := 111) rfl), tb1 (List.mem_of_getElem? (i := 4) rfl), by decide +kernel, by decide +kernel, by decide⟩
theorem miX5_init : Cond.instanceMethod yX5_init ∈ lw_tbl := tb1 (List.mem_of_getElem? (i := 110) rfl)
def YX5_lineOf : Mt := (yX5_lineOf, cX5_lineOf, 3, (some .int))
theorem moX5_lineOf : MO YX5_lineOf 1 := ⟨tb7 (List.mem_of_getElem? (i := 66) rfl), tb1 (List.mem_of_getElem? (i := 4) rfl), by decide +kernel, by decide +kernel, by decide⟩
theorem miX5_lineOf : Cond.instanceMethod yX5_lineOf ∈ lw_tbl := tb7 (List.mem_of_getElem? (i := 64) rfl)
theorem mvX5_lineOf : MV YX5_lineOf := ⟨miX5_lineOf, tb7 (List.mem_of_getElem? (i := 65) rfl)⟩
def YX5_putWord : Mt := (yX5_putWord, cX5_putWord, 6, none)
theorem moX5_putWord : MO YX5_putWord 4 := ⟨tb7 (List.mem_of_getElem? (i := 49) rfl), tb1 (List.mem_of_getElem? (i := 4) rfl), by decide +kernel, by decide +kernel, by decide⟩
theorem miX5_putWord : Cond.instanceMethod yX5_putWord ∈ lw_tbl := tb7 (List.mem_of_getElem? (i := 47) rfl)
theorem mvX5_putWord : MV YX5_putWord := ⟨miX5_putWord, tb7 (List.mem_of_getElem? (i := 48) rfl)⟩
def YX5_spell : Mt := (yX5_spell, cX5_spell, 8, (some .int))
theorem moX5_spell : MO YX5_spell 2 := ⟨tb5 (List.mem_of_getElem? (i := 221) rfl), tb1 (List.mem_of_getElem? (i := 4) rfl), by decide +kernel, by decide +kernel, by decide⟩
theorem miX5_spell : Cond.instanceMethod yX5_spell ∈ lw_tbl := tb5 (List.mem_of_getElem? (i := 219) rfl)
theorem mvX5_spell : MV YX5_spell := ⟨miX5_spell, tb5 (List.mem_of_getElem? (i := 220) rfl)⟩
def YX5_takeAll : Mt := (yX5_takeAll, cX5_takeAll, 2, none)
theorem moX5_takeAll : MO YX5_takeAll 1 := ⟨tb4 (List.mem_of_getElem? (i := 80) rfl), tb1 (List.mem_of_getElem? (i := 4) rfl), by decide +kernel, by decide +kernel, by decide⟩
theorem miX5_takeAll : Cond.instanceMethod yX5_takeAll ∈ lw_tbl := tb4 (List.mem_of_getElem? (i := 78) rfl)
theorem mvX5_takeAll : MV YX5_takeAll := ⟨miX5_takeAll, tb4 (List.mem_of_getElem? (i := 79) rfl)⟩
def YX5_takeCopy : Mt := (yX5_takeCopy, cX5_takeCopy, 2, none)
theorem moX5_takeCopy : MO YX5_takeCopy 1 := ⟨tb4 (List.mem_of_getElem? (i := 84) rfl), tb1 (List.mem_of_getElem? (i := 4) rfl), by decide +kernel, by decide +kernel, by decide⟩
theorem miX5_takeCopy : Cond.instanceMethod yX5_takeCopy ∈ lw_tbl := tb4 (List.mem_of_getElem? (i := 82) rfl)
theorem mvX5_takeCopy : MV YX5_takeCopy := ⟨miX5_takeCopy, tb4 (List.mem_of_getElem? (i := 83) rfl)⟩
def YX5_takeLines : Mt := (yX5_takeLines, cX5_takeLines, 2, none)
theorem moX5_takeLines : MO YX5_takeLines 1 := ⟨tb4 (List.mem_of_getElem? (i := 90) rfl), tb1 (List.mem_of_getElem? (i := 4) rfl), by decide +kernel, by decide +kernel, by decide⟩
theorem miX5_takeLines : Cond.instanceMethod yX5_takeLines ∈ lw_tbl := tb4 (List.mem_of_getElem? (i := 88) rfl)
theorem mvX5_takeLines : MV YX5_takeLines := ⟨miX5_takeLines, tb4 (List.mem_of_getElem? (i := 89) rfl)⟩
def YX6_findOwn : Mt := (yX6_findOwn, cX6_findOwn, 6, none)
theorem moX6_findOwn : MO YX6_findOwn 2 := ⟨tb3 (List.mem_of_getElem? (i := 108) rfl), tb1 (List.mem_of_getElem? (i := 9) rfl), by decide +kernel, by decide +kernel, by decide⟩
theorem miX6_findOwn : Cond.instanceMethod yX6_findOwn ∈ lw_tbl := tb3 (List.mem_of_getElem? (i := 107) rfl)
theorem mvX6_findOwn : MV YX6_findOwn := ⟨miX6_findOwn, pv1 (q := (⟨"LeadRoom$Planner", "findOwn", "(II)V"⟩, 5)) (List.mem_of_getElem? (i := 8) rfl)⟩
def YX6_init : Mt := (yX6_init, cX6_init, 1, none)
theorem moX6_init : MO YX6_init 0 := ⟨tb2 (List.mem_of_getElem? (i := 185) rfl), tb1 (List.mem_of_getElem? (i := 9) rfl), by decide +kernel, by decide +kernel, by decide⟩
theorem miX6_init : Cond.instanceMethod yX6_init ∈ lw_tbl := tb2 (List.mem_of_getElem? (i := 184) rfl)
def YX6_leastLate : Mt := (yX6_leastLate, cX6_leastLate, 5, (some .int))
theorem moX6_leastLate : MO YX6_leastLate 1 := ⟨tb3 (List.mem_of_getElem? (i := 23) rfl), tb1 (List.mem_of_getElem? (i := 9) rfl), by decide +kernel, by decide +kernel, by decide⟩
theorem miX6_leastLate : Cond.instanceMethod yX6_leastLate ∈ lw_tbl := tb3 (List.mem_of_getElem? (i := 21) rfl)
theorem mvX6_leastLate : MV YX6_leastLate := ⟨miX6_leastLate, tb3 (List.mem_of_getElem? (i := 22) rfl)⟩
def YX6_loadParts : Mt := (yX6_loadParts, cX6_loadParts, 5, none)
theorem moX6_loadParts : MO YX6_loadParts 1 := ⟨tb3 (List.mem_of_getElem? (i := 27) rfl), tb1 (List.mem_of_getElem? (i := 9) rfl), by decide +kernel, by decide +kernel, by decide⟩
theorem miX6_loadParts : Cond.instanceMethod yX6_loadParts ∈ lw_tbl := tb3 (List.mem_of_getElem? (i := 26) rfl)
theorem mvX6_loadParts : MV YX6_loadParts := ⟨miX6_loadParts, pv1 (q := (⟨"LeadRoom$Planner", "loadParts", "(LLeadRoom$Room;)V"⟩, 5)) (List.mem_of_getElem? (i := 1) rfl)⟩
def YX6_shareWithOwn : Mt := (yX6_shareWithOwn, cX6_shareWithOwn, 4, none)
theorem moX6_shareWithOwn : MO YX6_shareWithOwn 1 := ⟨tb3 (List.mem_of_getElem? (i := 116) rfl), tb1 (List.mem_of_getElem? (i := 9) rfl), by decide +kernel, by decide +kernel, by decide⟩
theorem miX6_shareWithOwn : Cond.instanceMethod yX6_shareWithOwn ∈ lw_tbl := tb3 (List.mem_of_getElem? (i := 115) rfl)
theorem mvX6_shareWithOwn : MV YX6_shareWithOwn := ⟨miX6_shareWithOwn, pv1 (q := (⟨"LeadRoom$Planner", "shareWithOwn", "(I)V"⟩, 5)) (List.mem_of_getElem? (i := 9) rfl)⟩
def YX7_addMachine : Mt := (yX7_addMachine, cX7_addMachine, 3, (some .int))
theorem moX7_addMachine : MO YX7_addMachine 2 := ⟨tb6 (List.mem_of_getElem? (i := 79) rfl), tb1 (List.mem_of_getElem? (i := 5) rfl), by decide +kernel, by decide +kernel, by decide⟩
theorem miX7_addMachine : Cond.instanceMethod yX7_addMachine ∈ lw_tbl := tb6 (List.mem_of_getElem? (i := 77) rfl)
theorem mvX7_addMachine : MV YX7_addMachine := ⟨miX7_addMachine, tb6 (List.mem_of_getElem? (i := 78) rfl)⟩
def YX7_addSign : Mt := (yX7_addSign, cX7_addSign, 3, none)
theorem moX7_addSign : MO YX7_addSign 2 := ⟨tb6 (List.mem_of_getElem? (i := 101) rfl), tb1 (List.mem_of_getElem? (i := 5) rfl), by decide +kernel, by decide +kernel, by decide⟩
theorem msX7_addSign : Cond.static yX7_addSign ∈ lw_tbl := tb6 (List.mem_of_getElem? (i := 100) rfl)
def YX7_addStory : Mt := (yX7_addStory, cX7_addStory, 9, (some .int))
theorem moX7_addStory : MO YX7_addStory 4 := ⟨tb5 (List.mem_of_getElem? (i := 26) rfl), tb1 (List.mem_of_getElem? (i := 5) rfl), by decide +kernel, by decide +kernel, by decide⟩
theorem miX7_addStory : Cond.instanceMethod yX7_addStory ∈ lw_tbl := tb5 (List.mem_of_getElem? (i := 24) rfl)
theorem mvX7_addStory : MV YX7_addStory := ⟨miX7_addStory, tb5 (List.mem_of_getElem? (i := 25) rfl)⟩
def YX7_addStyle : Mt := (yX7_addStyle, cX7_addStyle, 4, none)
theorem moX7_addStyle : MO YX7_addStyle 2 := ⟨tb5 (List.mem_of_getElem? (i := 192) rfl), tb1 (List.mem_of_getElem? (i := 5) rfl), by decide +kernel, by decide +kernel, by decide⟩
theorem miX7_addStyle : Cond.instanceMethod yX7_addStyle ∈ lw_tbl := tb5 (List.mem_of_getElem? (i := 190) rfl)
theorem mvX7_addStyle : MV YX7_addStyle := ⟨miX7_addStyle, tb5 (List.mem_of_getElem? (i := 191) rfl)⟩
def YX7_breakerFor : Mt := (yX7_breakerFor, cX7_breakerFor, 4, (some (.object "LeadRoom$Breaker")))
theorem moX7_breakerFor : MO YX7_breakerFor 2 := ⟨tb3 (List.mem_of_getElem? (i := 35) rfl), tb1 (List.mem_of_getElem? (i := 5) rfl), by decide +kernel, by decide +kernel, by decide⟩
theorem miX7_breakerFor : Cond.instanceMethod yX7_breakerFor ∈ lw_tbl := tb3 (List.mem_of_getElem? (i := 33) rfl)
theorem mvX7_breakerFor : MV YX7_breakerFor := ⟨miX7_breakerFor, tb3 (List.mem_of_getElem? (i := 34) rfl)⟩
def YX7_canRun : Mt := (yX7_canRun, cX7_canRun, 3, (some .boolean))
theorem moX7_canRun : MO YX7_canRun 0 := ⟨tb8 (List.mem_of_getElem? (i := 56) rfl), tb1 (List.mem_of_getElem? (i := 5) rfl), by decide +kernel, by decide +kernel, by decide⟩
theorem miX7_canRun : Cond.instanceMethod yX7_canRun ∈ lw_tbl := tb8 (List.mem_of_getElem? (i := 54) rfl)
theorem mvX7_canRun : MV YX7_canRun := ⟨miX7_canRun, tb8 (List.mem_of_getElem? (i := 55) rfl)⟩
def YX7_castLine : Mt := (yX7_castLine, cX7_castLine, 7, none)
theorem moX7_castLine : MO YX7_castLine 3 := ⟨tb6 (List.mem_of_getElem? (i := 169) rfl), tb1 (List.mem_of_getElem? (i := 5) rfl), by decide +kernel, by decide +kernel, by decide⟩
theorem miX7_castLine : Cond.instanceMethod yX7_castLine ∈ lw_tbl := tb6 (List.mem_of_getElem? (i := 168) rfl)
theorem mvX7_castLine : MV YX7_castLine := ⟨miX7_castLine, pv3 (q := (⟨"LeadRoom$Room", "castLine", "(ILLeadRoom$Machine;LLeadRoom$Part;)V"⟩, 20)) (List.mem_of_getElem? (i := 5) rfl)⟩
def YX7_clear : Mt := (yX7_clear, cX7_clear, 2, none)
theorem moX7_clear : MO YX7_clear 1 := ⟨tb6 (List.mem_of_getElem? (i := 98) rfl), tb1 (List.mem_of_getElem? (i := 5) rfl), by decide +kernel, by decide +kernel, by decide⟩
theorem msX7_clear : Cond.static yX7_clear ∈ lw_tbl := tb6 (List.mem_of_getElem? (i := 97) rfl)
def YX7_correctWith : Mt := (yX7_correctWith, cX7_correctWith, 10, (some .int))
theorem moX7_correctWith : MO YX7_correctWith 4 := ⟨tb7 (List.mem_of_getElem? (i := 60) rfl), tb1 (List.mem_of_getElem? (i := 5) rfl), by decide +kernel, by decide +kernel, by decide⟩
theorem miX7_correctWith : Cond.instanceMethod yX7_correctWith ∈ lw_tbl := tb7 (List.mem_of_getElem? (i := 58) rfl)
theorem mvX7_correctWith : MV YX7_correctWith := ⟨miX7_correctWith, tb7 (List.mem_of_getElem? (i := 59) rfl)⟩
def YX7_countCorrected : Mt := (yX7_countCorrected, cX7_countCorrected, 3, (some .int))
theorem moX7_countCorrected : MO YX7_countCorrected 0 := ⟨tb4 (List.mem_of_getElem? (i := 123) rfl), tb1 (List.mem_of_getElem? (i := 5) rfl), by decide +kernel, by decide +kernel, by decide⟩
theorem miX7_countCorrected : Cond.instanceMethod yX7_countCorrected ∈ lw_tbl := tb4 (List.mem_of_getElem? (i := 121) rfl)
theorem mvX7_countCorrected : MV YX7_countCorrected := ⟨miX7_countCorrected, tb4 (List.mem_of_getElem? (i := 122) rfl)⟩
def YX7_countJobs : Mt := (yX7_countJobs, cX7_countJobs, 3, (some .int))
theorem moX7_countJobs : MO YX7_countJobs 0 := ⟨tb4 (List.mem_of_getElem? (i := 131) rfl), tb1 (List.mem_of_getElem? (i := 5) rfl), by decide +kernel, by decide +kernel, by decide⟩
theorem miX7_countJobs : Cond.instanceMethod yX7_countJobs ∈ lw_tbl := tb4 (List.mem_of_getElem? (i := 129) rfl)
theorem mvX7_countJobs : MV YX7_countJobs := ⟨miX7_countJobs, tb4 (List.mem_of_getElem? (i := 130) rfl)⟩
def YX7_countLost : Mt := (yX7_countLost, cX7_countLost, 5, (some .int))
theorem moX7_countLost : MO YX7_countLost 1 := ⟨tb5 (List.mem_of_getElem? (i := 238) rfl), tb1 (List.mem_of_getElem? (i := 5) rfl), by decide +kernel, by decide +kernel, by decide⟩
theorem miX7_countLost : Cond.instanceMethod yX7_countLost ∈ lw_tbl := tb5 (List.mem_of_getElem? (i := 236) rfl)
theorem mvX7_countLost : MV YX7_countLost := ⟨miX7_countLost, tb5 (List.mem_of_getElem? (i := 237) rfl)⟩
def YX7_countMarked : Mt := (yX7_countMarked, cX7_countMarked, 5, (some .int))
theorem moX7_countMarked : MO YX7_countMarked 1 := ⟨tb7 (List.mem_of_getElem? (i := 112) rfl), tb1 (List.mem_of_getElem? (i := 5) rfl), by decide +kernel, by decide +kernel, by decide⟩
theorem miX7_countMarked : Cond.instanceMethod yX7_countMarked ∈ lw_tbl := tb7 (List.mem_of_getElem? (i := 110) rfl)
theorem mvX7_countMarked : MV YX7_countMarked := ⟨miX7_countMarked, tb7 (List.mem_of_getElem? (i := 111) rfl)⟩
def YX7_countNeed : Mt := (yX7_countNeed, cX7_countNeed, 5, none)
theorem moX7_countNeed : MO YX7_countNeed 2 := ⟨tb6 (List.mem_of_getElem? (i := 156) rfl), tb1 (List.mem_of_getElem? (i := 5) rfl), by decide +kernel, by decide +kernel, by decide⟩
theorem miX7_countNeed : Cond.instanceMethod yX7_countNeed ∈ lw_tbl := tb6 (List.mem_of_getElem? (i := 155) rfl)
theorem mvX7_countNeed : MV YX7_countNeed := ⟨miX7_countNeed, pv3 (q := (⟨"LeadRoom$Room", "countNeed", "(LLeadRoom$Part;I)V"⟩, 20)) (List.mem_of_getElem? (i := 4) rfl)⟩
def YX7_countOut : Mt := (yX7_countOut, cX7_countOut, 7, none)
theorem moX7_countOut : MO YX7_countOut 3 := ⟨tb6 (List.mem_of_getElem? (i := 95) rfl), tb1 (List.mem_of_getElem? (i := 5) rfl), by decide +kernel, by decide +kernel, by decide⟩
theorem miX7_countOut : Cond.instanceMethod yX7_countOut ∈ lw_tbl := tb6 (List.mem_of_getElem? (i := 93) rfl)
theorem mvX7_countOut : MV YX7_countOut := ⟨miX7_countOut, tb6 (List.mem_of_getElem? (i := 94) rfl)⟩
def YX7_countRead : Mt := (yX7_countRead, cX7_countRead, 8, (some .int))
theorem moX7_countRead : MO YX7_countRead 2 := ⟨tb4 (List.mem_of_getElem? (i := 127) rfl), tb1 (List.mem_of_getElem? (i := 5) rfl), by decide +kernel, by decide +kernel, by decide⟩
theorem miX7_countRead : Cond.instanceMethod yX7_countRead ∈ lw_tbl := tb4 (List.mem_of_getElem? (i := 125) rfl)
theorem mvX7_countRead : MV YX7_countRead := ⟨miX7_countRead, tb4 (List.mem_of_getElem? (i := 126) rfl)⟩
def YX7_countRight : Mt := (yX7_countRight, cX7_countRight, 4, (some .int))
theorem moX7_countRight : MO YX7_countRight 1 := ⟨tb5 (List.mem_of_getElem? (i := 205) rfl), tb1 (List.mem_of_getElem? (i := 5) rfl), by decide +kernel, by decide +kernel, by decide⟩
theorem miX7_countRight : Cond.instanceMethod yX7_countRight ∈ lw_tbl := tb5 (List.mem_of_getElem? (i := 203) rfl)
theorem mvX7_countRight : MV YX7_countRight := ⟨miX7_countRight, tb5 (List.mem_of_getElem? (i := 204) rfl)⟩
def YX7_countSame : Mt := (yX7_countSame, cX7_countSame, 8, (some .int))
theorem moX7_countSame : MO YX7_countSame 3 := ⟨tb7 (List.mem_of_getElem? (i := 72) rfl), tb1 (List.mem_of_getElem? (i := 5) rfl), by decide +kernel, by decide +kernel, by decide⟩
theorem miX7_countSame : Cond.instanceMethod yX7_countSame ∈ lw_tbl := tb7 (List.mem_of_getElem? (i := 71) rfl)
theorem mvX7_countSame : MV YX7_countSame := ⟨miX7_countSame, pv3 (q := (⟨"LeadRoom$Room", "countSame", "(LLeadRoom$Part;LLeadRoom$Part;I)I"⟩, 20)) (List.mem_of_getElem? (i := 8) rfl)⟩
def YX7_countState : Mt := (yX7_countState, cX7_countState, 4, (some .int))
theorem moX7_countState : MO YX7_countState 1 := ⟨tb4 (List.mem_of_getElem? (i := 119) rfl), tb1 (List.mem_of_getElem? (i := 5) rfl), by decide +kernel, by decide +kernel, by decide⟩
theorem miX7_countState : Cond.instanceMethod yX7_countState ∈ lw_tbl := tb4 (List.mem_of_getElem? (i := 117) rfl)
theorem mvX7_countState : MV YX7_countState := ⟨miX7_countState, tb4 (List.mem_of_getElem? (i := 118) rfl)⟩
def YX7_factsOfPart : Mt := (yX7_factsOfPart, cX7_factsOfPart, 3, none)
theorem moX7_factsOfPart : MO YX7_factsOfPart 2 := ⟨tb3 (List.mem_of_getElem? (i := 47) rfl), tb1 (List.mem_of_getElem? (i := 5) rfl), by decide +kernel, by decide +kernel, by decide⟩
theorem miX7_factsOfPart : Cond.instanceMethod yX7_factsOfPart ∈ lw_tbl := tb3 (List.mem_of_getElem? (i := 46) rfl)
theorem mvX7_factsOfPart : MV YX7_factsOfPart := ⟨miX7_factsOfPart, pv1 (q := (⟨"LeadRoom$Room", "factsOfPart", "(LLeadRoom$Part;I)V"⟩, 20)) (List.mem_of_getElem? (i := 3) rfl)⟩
def YX7_factsOfSlug : Mt := (yX7_factsOfSlug, cX7_factsOfSlug, 3, none)
theorem moX7_factsOfSlug : MO YX7_factsOfSlug 2 := ⟨tb8 (List.mem_of_getElem? (i := 75) rfl), tb1 (List.mem_of_getElem? (i := 5) rfl), by decide +kernel, by decide +kernel, by decide⟩
theorem miX7_factsOfSlug : Cond.instanceMethod yX7_factsOfSlug ∈ lw_tbl := tb8 (List.mem_of_getElem? (i := 74) rfl)
theorem mvX7_factsOfSlug : MV YX7_factsOfSlug := ⟨miX7_factsOfSlug, pv4 (q := (⟨"LeadRoom$Room", "factsOfSlug", "(LLeadRoom$Slug;LLeadRoom$Part;)V"⟩, 20)) (List.mem_of_getElem? (i := 3) rfl)⟩
def YX7_findMachine : Mt := (yX7_findMachine, cX7_findMachine, 2, (some (.object "LeadRoom$Machine")))
theorem moX7_findMachine : MO YX7_findMachine 1 := ⟨tb3 (List.mem_of_getElem? (i := 94) rfl), tb1 (List.mem_of_getElem? (i := 5) rfl), by decide +kernel, by decide +kernel, by decide⟩
theorem miX7_findMachine : Cond.instanceMethod yX7_findMachine ∈ lw_tbl := tb3 (List.mem_of_getElem? (i := 92) rfl)
theorem mvX7_findMachine : MV YX7_findMachine := ⟨miX7_findMachine, tb3 (List.mem_of_getElem? (i := 93) rfl)⟩
def YX7_findPart : Mt := (yX7_findPart, cX7_findPart, 2, (some (.object "LeadRoom$Part")))
theorem moX7_findPart : MO YX7_findPart 1 := ⟨tb3 (List.mem_of_getElem? (i := 31) rfl), tb1 (List.mem_of_getElem? (i := 5) rfl), by decide +kernel, by decide +kernel, by decide⟩
theorem miX7_findPart : Cond.instanceMethod yX7_findPart ∈ lw_tbl := tb3 (List.mem_of_getElem? (i := 29) rfl)
theorem mvX7_findPart : MV YX7_findPart := ⟨miX7_findPart, tb3 (List.mem_of_getElem? (i := 30) rfl)⟩
def YX7_findSlug : Mt := (yX7_findSlug, cX7_findSlug, 2, (some (.object "LeadRoom$Slug")))
theorem moX7_findSlug : MO YX7_findSlug 1 := ⟨tb5 (List.mem_of_getElem? (i := 217) rfl), tb1 (List.mem_of_getElem? (i := 5) rfl), by decide +kernel, by decide +kernel, by decide⟩
theorem miX7_findSlug : Cond.instanceMethod yX7_findSlug ∈ lw_tbl := tb5 (List.mem_of_getElem? (i := 215) rfl)
theorem mvX7_findSlug : MV YX7_findSlug := ⟨miX7_findSlug, tb5 (List.mem_of_getElem? (i := 216) rfl)⟩
def YX7_firstNotRight : Mt := (yX7_firstNotRight, cX7_firstNotRight, 3, (some .int))
theorem moX7_firstNotRight : MO YX7_firstNotRight 1 := ⟨tb6 (List.mem_of_getElem? (i := 239) rfl), tb1 (List.mem_of_getElem? (i := 5) rfl), by decide +kernel, by decide +kernel, by decide⟩
theorem miX7_firstNotRight : Cond.instanceMethod yX7_firstNotRight ∈ lw_tbl := tb6 (List.mem_of_getElem? (i := 237) rfl)
theorem mvX7_firstNotRight : MV YX7_firstNotRight := ⟨miX7_firstNotRight, tb6 (List.mem_of_getElem? (i := 238) rfl)⟩
def YX7_init : Mt := (yX7_init, cX7_init, 2, none)
theorem moX7_init : MO YX7_init 0 := ⟨tb1 (List.mem_of_getElem? (i := 183) rfl), tb1 (List.mem_of_getElem? (i := 5) rfl), by decide +kernel, by decide +kernel, by decide⟩
theorem miX7_init : Cond.instanceMethod yX7_init ∈ lw_tbl := tb1 (List.mem_of_getElem? (i := 182) rfl)
def YX7_isQueued : Mt := (yX7_isQueued, cX7_isQueued, 3, (some .boolean))
theorem moX7_isQueued : MO YX7_isQueued 1 := ⟨tb7 (List.mem_of_getElem? (i := 41) rfl), tb1 (List.mem_of_getElem? (i := 5) rfl), by decide +kernel, by decide +kernel, by decide⟩
theorem miX7_isQueued : Cond.instanceMethod yX7_isQueued ∈ lw_tbl := tb7 (List.mem_of_getElem? (i := 39) rfl)
theorem mvX7_isQueued : MV YX7_isQueued := ⟨miX7_isQueued, tb7 (List.mem_of_getElem? (i := 40) rfl)⟩
def YX7_isRight : Mt := (yX7_isRight, cX7_isRight, 4, (some .boolean))
theorem moX7_isRight : MO YX7_isRight 2 := ⟨tb5 (List.mem_of_getElem? (i := 209) rfl), tb1 (List.mem_of_getElem? (i := 5) rfl), by decide +kernel, by decide +kernel, by decide⟩
theorem miX7_isRight : Cond.instanceMethod yX7_isRight ∈ lw_tbl := tb5 (List.mem_of_getElem? (i := 207) rfl)
theorem mvX7_isRight : MV YX7_isRight := ⟨miX7_isRight, tb5 (List.mem_of_getElem? (i := 208) rfl)⟩
def YX7_isStorySet : Mt := (yX7_isStorySet, cX7_isStorySet, 4, (some .boolean))
theorem moX7_isStorySet : MO YX7_isStorySet 1 := ⟨tb7 (List.mem_of_getElem? (i := 170) rfl), tb1 (List.mem_of_getElem? (i := 5) rfl), by decide +kernel, by decide +kernel, by decide⟩
theorem miX7_isStorySet : Cond.instanceMethod yX7_isStorySet ∈ lw_tbl := tb7 (List.mem_of_getElem? (i := 168) rfl)
theorem mvX7_isStorySet : MV YX7_isStorySet := ⟨miX7_isStorySet, tb7 (List.mem_of_getElem? (i := 169) rfl)⟩
def YX7_lateOf : Mt := (yX7_lateOf, cX7_lateOf, 3, (some .int))
theorem moX7_lateOf : MO YX7_lateOf 1 := ⟨tb7 (List.mem_of_getElem? (i := 232) rfl), tb1 (List.mem_of_getElem? (i := 5) rfl), by decide +kernel, by decide +kernel, by decide⟩
theorem miX7_lateOf : Cond.instanceMethod yX7_lateOf ∈ lw_tbl := tb7 (List.mem_of_getElem? (i := 230) rfl)
theorem mvX7_lateOf : MV YX7_lateOf := ⟨miX7_lateOf, tb7 (List.mem_of_getElem? (i := 231) rfl)⟩
def YX7_layAt : Mt := (yX7_layAt, cX7_layAt, 6, none)
theorem moX7_layAt : MO YX7_layAt 3 := ⟨tb6 (List.mem_of_getElem? (i := 182) rfl), tb1 (List.mem_of_getElem? (i := 5) rfl), by decide +kernel, by decide +kernel, by decide⟩
theorem miX7_layAt : Cond.instanceMethod yX7_layAt ∈ lw_tbl := tb6 (List.mem_of_getElem? (i := 180) rfl)
theorem mvX7_layAt : MV YX7_layAt := ⟨miX7_layAt, tb6 (List.mem_of_getElem? (i := 181) rfl)⟩
def YX7_missed : Mt := (yX7_missed, cX7_missed, 2, (some .int))
theorem moX7_missed : MO YX7_missed 0 := ⟨tb7 (List.mem_of_getElem? (i := 116) rfl), tb1 (List.mem_of_getElem? (i := 5) rfl), by decide +kernel, by decide +kernel, by decide⟩
theorem miX7_missed : Cond.instanceMethod yX7_missed ∈ lw_tbl := tb7 (List.mem_of_getElem? (i := 114) rfl)
theorem mvX7_missed : MV YX7_missed := ⟨miX7_missed, tb7 (List.mem_of_getElem? (i := 115) rfl)⟩
def YX7_movePlaces : Mt := (yX7_movePlaces, cX7_movePlaces, 8, none)
theorem moX7_movePlaces : MO YX7_movePlaces 4 := ⟨tb7 (List.mem_of_getElem? (i := 77) rfl), tb1 (List.mem_of_getElem? (i := 5) rfl), by decide +kernel, by decide +kernel, by decide⟩
theorem miX7_movePlaces : Cond.instanceMethod yX7_movePlaces ∈ lw_tbl := tb7 (List.mem_of_getElem? (i := 76) rfl)
theorem mvX7_movePlaces : MV YX7_movePlaces := ⟨miX7_movePlaces, pv3 (q := (⟨"LeadRoom$Room", "movePlaces", "(LLeadRoom$Part;LLeadRoom$Part;II)V"⟩, 20)) (List.mem_of_getElem? (i := 9) rfl)⟩
def YX7_ownMachine : Mt := (yX7_ownMachine, cX7_ownMachine, 2, (some (.object "LeadRoom$Machine")))
theorem moX7_ownMachine : MO YX7_ownMachine 1 := ⟨tb3 (List.mem_of_getElem? (i := 150) rfl), tb1 (List.mem_of_getElem? (i := 5) rfl), by decide +kernel, by decide +kernel, by decide⟩
theorem miX7_ownMachine : Cond.instanceMethod yX7_ownMachine ∈ lw_tbl := tb3 (List.mem_of_getElem? (i := 149) rfl)
theorem mvX7_ownMachine : MV YX7_ownMachine := ⟨miX7_ownMachine, pv1 (q := (⟨"LeadRoom$Room", "ownMachine", "(I)LLeadRoom$Machine;"⟩, 20)) (List.mem_of_getElem? (i := 10) rfl)⟩
def YX7_ownPart : Mt := (yX7_ownPart, cX7_ownPart, 2, (some (.object "LeadRoom$Part")))
theorem moX7_ownPart : MO YX7_ownPart 1 := ⟨tb4 (List.mem_of_getElem? (i := 75) rfl), tb1 (List.mem_of_getElem? (i := 5) rfl), by decide +kernel, by decide +kernel, by decide⟩
theorem miX7_ownPart : Cond.instanceMethod yX7_ownPart ∈ lw_tbl := tb4 (List.mem_of_getElem? (i := 74) rfl)
theorem mvX7_ownPart : MV YX7_ownPart := ⟨miX7_ownPart, pv1 (q := (⟨"LeadRoom$Room", "ownPart", "(I)LLeadRoom$Part;"⟩, 20)) (List.mem_of_getElem? (i := 12) rfl)⟩
def YX7_ownSlug : Mt := (yX7_ownSlug, cX7_ownSlug, 2, (some (.object "LeadRoom$Slug")))
theorem moX7_ownSlug : MO YX7_ownSlug 1 := ⟨tb3 (List.mem_of_getElem? (i := 219) rfl), tb1 (List.mem_of_getElem? (i := 5) rfl), by decide +kernel, by decide +kernel, by decide⟩
theorem miX7_ownSlug : Cond.instanceMethod yX7_ownSlug ∈ lw_tbl := tb3 (List.mem_of_getElem? (i := 218) rfl)
theorem mvX7_ownSlug : MV YX7_ownSlug := ⟨miX7_ownSlug, pv1 (q := (⟨"LeadRoom$Room", "ownSlug", "(I)LLeadRoom$Slug;"⟩, 20)) (List.mem_of_getElem? (i := 11) rfl)⟩
def YX7_ownStyle : Mt := (yX7_ownStyle, cX7_ownStyle, 2, (some (.object "LeadRoom$Style")))
theorem moX7_ownStyle : MO YX7_ownStyle 1 := ⟨tb3 (List.mem_of_getElem? (i := 43) rfl), tb1 (List.mem_of_getElem? (i := 5) rfl), by decide +kernel, by decide +kernel, by decide⟩
theorem miX7_ownStyle : Cond.instanceMethod yX7_ownStyle ∈ lw_tbl := tb3 (List.mem_of_getElem? (i := 42) rfl)
theorem mvX7_ownStyle : MV YX7_ownStyle := ⟨miX7_ownStyle, pv1 (q := (⟨"LeadRoom$Room", "ownStyle", "(I)LLeadRoom$Style;"⟩, 20)) (List.mem_of_getElem? (i := 2) rfl)⟩
def YX7_passMinute : Mt := (yX7_passMinute, cX7_passMinute, 4, none)
theorem moX7_passMinute : MO YX7_passMinute 0 := ⟨tb6 (List.mem_of_getElem? (i := 131) rfl), tb1 (List.mem_of_getElem? (i := 5) rfl), by decide +kernel, by decide +kernel, by decide⟩
theorem miX7_passMinute : Cond.instanceMethod yX7_passMinute ∈ lw_tbl := tb6 (List.mem_of_getElem? (i := 129) rfl)
theorem mvX7_passMinute : MV YX7_passMinute := ⟨miX7_passMinute, tb6 (List.mem_of_getElem? (i := 130) rfl)⟩
def YX7_payOf : Mt := (yX7_payOf, cX7_payOf, 7, (some .int))
theorem moX7_payOf : MO YX7_payOf 3 := ⟨tb8 (List.mem_of_getElem? (i := 67) rfl), tb1 (List.mem_of_getElem? (i := 5) rfl), by decide +kernel, by decide +kernel, by decide⟩
theorem miX7_payOf : Cond.instanceMethod yX7_payOf ∈ lw_tbl := tb8 (List.mem_of_getElem? (i := 65) rfl)
theorem mvX7_payOf : MV YX7_payOf := ⟨miX7_payOf, tb8 (List.mem_of_getElem? (i := 66) rfl)⟩
def YX7_payOfSlug : Mt := (yX7_payOfSlug, cX7_payOfSlug, 6, (some .int))
theorem moX7_payOfSlug : MO YX7_payOfSlug 1 := ⟨tb8 (List.mem_of_getElem? (i := 71) rfl), tb1 (List.mem_of_getElem? (i := 5) rfl), by decide +kernel, by decide +kernel, by decide⟩
theorem miX7_payOfSlug : Cond.instanceMethod yX7_payOfSlug ∈ lw_tbl := tb8 (List.mem_of_getElem? (i := 70) rfl)
theorem mvX7_payOfSlug : MV YX7_payOfSlug := ⟨miX7_payOfSlug, pv4 (q := (⟨"LeadRoom$Room", "payOfSlug", "(LLeadRoom$Slug;)I"⟩, 20)) (List.mem_of_getElem? (i := 2) rfl)⟩
def YX7_queuedLines : Mt := (yX7_queuedLines, cX7_queuedLines, 5, (some .int))
theorem moX7_queuedLines : MO YX7_queuedLines 1 := ⟨tb3 (List.mem_of_getElem? (i := 98) rfl), tb1 (List.mem_of_getElem? (i := 5) rfl), by decide +kernel, by decide +kernel, by decide⟩
theorem miX7_queuedLines : Cond.instanceMethod yX7_queuedLines ∈ lw_tbl := tb3 (List.mem_of_getElem? (i := 96) rfl)
theorem mvX7_queuedLines : MV YX7_queuedLines := ⟨miX7_queuedLines, tb3 (List.mem_of_getElem? (i := 97) rfl)⟩
def YX7_rowCount : Mt := (yX7_rowCount, cX7_rowCount, 1, (some .int))
theorem moX7_rowCount : MO YX7_rowCount 0 := ⟨tb3 (List.mem_of_getElem? (i := 124) rfl), tb1 (List.mem_of_getElem? (i := 5) rfl), by decide +kernel, by decide +kernel, by decide⟩
theorem miX7_rowCount : Cond.instanceMethod yX7_rowCount ∈ lw_tbl := tb3 (List.mem_of_getElem? (i := 122) rfl)
theorem mvX7_rowCount : MV YX7_rowCount := ⟨miX7_rowCount, tb3 (List.mem_of_getElem? (i := 123) rfl)⟩
def YX7_rowPlace : Mt := (yX7_rowPlace, cX7_rowPlace, 3, (some .int))
theorem moX7_rowPlace : MO YX7_rowPlace 2 := ⟨tb3 (List.mem_of_getElem? (i := 129) rfl), tb1 (List.mem_of_getElem? (i := 5) rfl), by decide +kernel, by decide +kernel, by decide⟩
theorem miX7_rowPlace : Cond.instanceMethod yX7_rowPlace ∈ lw_tbl := tb3 (List.mem_of_getElem? (i := 127) rfl)
theorem mvX7_rowPlace : MV YX7_rowPlace := ⟨miX7_rowPlace, tb3 (List.mem_of_getElem? (i := 128) rfl)⟩
def YX7_rulesNow : Mt := (yX7_rulesNow, cX7_rulesNow, 1, (some .int))
theorem moX7_rulesNow : MO YX7_rulesNow 0 := ⟨tb4 (List.mem_of_getElem? (i := 115) rfl), tb1 (List.mem_of_getElem? (i := 5) rfl), by decide +kernel, by decide +kernel, by decide⟩
theorem miX7_rulesNow : Cond.instanceMethod yX7_rulesNow ∈ lw_tbl := tb4 (List.mem_of_getElem? (i := 113) rfl)
theorem mvX7_rulesNow : MV YX7_rulesNow := ⟨miX7_rulesNow, tb4 (List.mem_of_getElem? (i := 114) rfl)⟩
def YX7_setPart : Mt := (yX7_setPart, cX7_setPart, 2, (some .boolean))
theorem moX7_setPart : MO YX7_setPart 1 := ⟨tb6 (List.mem_of_getElem? (i := 139) rfl), tb1 (List.mem_of_getElem? (i := 5) rfl), by decide +kernel, by decide +kernel, by decide⟩
theorem miX7_setPart : Cond.instanceMethod yX7_setPart ∈ lw_tbl := tb6 (List.mem_of_getElem? (i := 138) rfl)
theorem mvX7_setPart : MV YX7_setPart := ⟨miX7_setPart, pv3 (q := (⟨"LeadRoom$Room", "setPart", "(LLeadRoom$Part;)Z"⟩, 20)) (List.mem_of_getElem? (i := 3) rfl)⟩
def YX7_styleAt : Mt := (yX7_styleAt, cX7_styleAt, 5, (some (.object "LeadRoom$Style")))
theorem moX7_styleAt : MO YX7_styleAt 1 := ⟨tb3 (List.mem_of_getElem? (i := 39) rfl), tb1 (List.mem_of_getElem? (i := 5) rfl), by decide +kernel, by decide +kernel, by decide⟩
theorem miX7_styleAt : Cond.instanceMethod yX7_styleAt ∈ lw_tbl := tb3 (List.mem_of_getElem? (i := 37) rfl)
theorem mvX7_styleAt : MV YX7_styleAt := ⟨miX7_styleAt, tb3 (List.mem_of_getElem? (i := 38) rfl)⟩
def YX7_takeAll : Mt := (yX7_takeAll, cX7_takeAll, 4, none)
theorem moX7_takeAll : MO YX7_takeAll 1 := ⟨tb3 (List.mem_of_getElem? (i := 138) rfl), tb1 (List.mem_of_getElem? (i := 5) rfl), by decide +kernel, by decide +kernel, by decide⟩
theorem miX7_takeAll : Cond.instanceMethod yX7_takeAll ∈ lw_tbl := tb3 (List.mem_of_getElem? (i := 136) rfl)
theorem mvX7_takeAll : MV YX7_takeAll := ⟨miX7_takeAll, tb3 (List.mem_of_getElem? (i := 137) rfl)⟩
def YX7_takeAway : Mt := (yX7_takeAway, cX7_takeAway, 4, none)
theorem moX7_takeAway : MO YX7_takeAway 2 := ⟨tb6 (List.mem_of_getElem? (i := 178) rfl), tb1 (List.mem_of_getElem? (i := 5) rfl), by decide +kernel, by decide +kernel, by decide⟩
theorem miX7_takeAway : Cond.instanceMethod yX7_takeAway ∈ lw_tbl := tb6 (List.mem_of_getElem? (i := 176) rfl)
theorem mvX7_takeAway : MV YX7_takeAway := ⟨miX7_takeAway, tb6 (List.mem_of_getElem? (i := 177) rfl)⟩
def YX7_takeAwayAt : Mt := (yX7_takeAwayAt, cX7_takeAwayAt, 4, none)
theorem moX7_takeAwayAt : MO YX7_takeAwayAt 2 := ⟨tb6 (List.mem_of_getElem? (i := 174) rfl), tb1 (List.mem_of_getElem? (i := 5) rfl), by decide +kernel, by decide +kernel, by decide⟩
theorem miX7_takeAwayAt : Cond.instanceMethod yX7_takeAwayAt ∈ lw_tbl := tb6 (List.mem_of_getElem? (i := 173) rfl)
theorem mvX7_takeAwayAt : MV YX7_takeAwayAt := ⟨miX7_takeAwayAt, pv3 (q := (⟨"LeadRoom$Room", "takeAwayAt", "(LLeadRoom$Part;I)V"⟩, 20)) (List.mem_of_getElem? (i := 6) rfl)⟩
def YX7_work : Mt := (yX7_work, cX7_work, 4, none)
theorem moX7_work : MO YX7_work 2 := ⟨tb6 (List.mem_of_getElem? (i := 135) rfl), tb1 (List.mem_of_getElem? (i := 5) rfl), by decide +kernel, by decide +kernel, by decide⟩
theorem miX7_work : Cond.instanceMethod yX7_work ∈ lw_tbl := tb6 (List.mem_of_getElem? (i := 134) rfl)
theorem mvX7_work : MV YX7_work := ⟨miX7_work, pv3 (q := (⟨"LeadRoom$Room", "work", "(ILLeadRoom$Machine;)V"⟩, 20)) (List.mem_of_getElem? (i := 2) rfl)⟩
def YX8_byteOfLetter : Mt := (yX8_byteOfLetter, cX8_byteOfLetter, 4, (some .int))
theorem moX8_byteOfLetter : MO YX8_byteOfLetter 1 := ⟨tb7 (List.mem_of_getElem? (i := 89) rfl), tb1 (List.mem_of_getElem? (i := 24) rfl), by decide +kernel, by decide +kernel, by decide⟩
theorem miX8_byteOfLetter : Cond.instanceMethod yX8_byteOfLetter ∈ lw_tbl := tb7 (List.mem_of_getElem? (i := 87) rfl)
theorem mvX8_byteOfLetter : MV YX8_byteOfLetter := ⟨miX8_byteOfLetter, tb7 (List.mem_of_getElem? (i := 88) rfl)⟩
def YX8_init : Mt := (yX8_init, cX8_init, 1, none)
theorem moX8_init : MO YX8_init 0 := ⟨tb3 (List.mem_of_getElem? (i := 223) rfl), tb1 (List.mem_of_getElem? (i := 24) rfl), by decide +kernel, by decide +kernel, by decide⟩
theorem miX8_init : Cond.instanceMethod yX8_init ∈ lw_tbl := tb3 (List.mem_of_getElem? (i := 222) rfl)
def YX8_roomFor : Mt := (yX8_roomFor, cX8_roomFor, 2, (some .int))
theorem moX8_roomFor : MO YX8_roomFor 1 := ⟨tb4 (List.mem_of_getElem? (i := 70) rfl), tb1 (List.mem_of_getElem? (i := 24) rfl), by decide +kernel, by decide +kernel, by decide⟩
theorem msX8_roomFor : Cond.static yX8_roomFor ∈ lw_tbl := tb4 (List.mem_of_getElem? (i := 69) rfl)
def YX8_sameBytes : Mt := (yX8_sameBytes, cX8_sameBytes, 5, (some .boolean))
theorem moX8_sameBytes : MO YX8_sameBytes 4 := ⟨tb5 (List.mem_of_getElem? (i := 234) rfl), tb1 (List.mem_of_getElem? (i := 24) rfl), by decide +kernel, by decide +kernel, by decide⟩
theorem msX8_sameBytes : Cond.static yX8_sameBytes ∈ lw_tbl := tb5 (List.mem_of_getElem? (i := 233) rfl)
def YX8_saysText : Mt := (yX8_saysText, cX8_saysText, 3, (some .boolean))
theorem moX8_saysText : MO YX8_saysText 2 := ⟨tb5 (List.mem_of_getElem? (i := 231) rfl), tb1 (List.mem_of_getElem? (i := 24) rfl), by decide +kernel, by decide +kernel, by decide⟩
theorem miX8_saysText : Cond.instanceMethod yX8_saysText ∈ lw_tbl := tb5 (List.mem_of_getElem? (i := 229) rfl)
theorem mvX8_saysText : MV YX8_saysText := ⟨miX8_saysText, tb5 (List.mem_of_getElem? (i := 230) rfl)⟩
def YX8_takeAll : Mt := (yX8_takeAll, cX8_takeAll, 2, none)
theorem moX8_takeAll : MO YX8_takeAll 1 := ⟨tb4 (List.mem_of_getElem? (i := 61) rfl), tb1 (List.mem_of_getElem? (i := 24) rfl), by decide +kernel, by decide +kernel, by decide⟩
theorem miX8_takeAll : Cond.instanceMethod yX8_takeAll ∈ lw_tbl := tb4 (List.mem_of_getElem? (i := 59) rfl)
theorem mvX8_takeAll : MV YX8_takeAll := ⟨miX8_takeAll, tb4 (List.mem_of_getElem? (i := 60) rfl)⟩
def YX8_takeText : Mt := (yX8_takeText, cX8_takeText, 4, none)
theorem moX8_takeText : MO YX8_takeText 2 := ⟨tb4 (List.mem_of_getElem? (i := 65) rfl), tb1 (List.mem_of_getElem? (i := 24) rfl), by decide +kernel, by decide +kernel, by decide⟩
theorem miX8_takeText : Cond.instanceMethod yX8_takeText ∈ lw_tbl := tb4 (List.mem_of_getElem? (i := 63) rfl)
theorem mvX8_takeText : MV YX8_takeText := ⟨miX8_takeText, tb4 (List.mem_of_getElem? (i := 64) rfl)⟩
def YX8_tellLetter : Mt := (yX8_tellLetter, cX8_tellLetter, 3, (some .boolean))
theorem moX8_tellLetter : MO YX8_tellLetter 2 := ⟨tb7 (List.mem_of_getElem? (i := 94) rfl), tb1 (List.mem_of_getElem? (i := 24) rfl), by decide +kernel, by decide +kernel, by decide⟩
theorem miX8_tellLetter : Cond.instanceMethod yX8_tellLetter ∈ lw_tbl := tb7 (List.mem_of_getElem? (i := 92) rfl)
theorem mvX8_tellLetter : MV YX8_tellLetter := ⟨miX8_tellLetter, tb7 (List.mem_of_getElem? (i := 93) rfl)⟩
def YX9_addCode : Mt := (yX9_addCode, cX9_addCode, 3, none)
theorem moX9_addCode : MO YX9_addCode 2 := ⟨tb5 (List.mem_of_getElem? (i := 167) rfl), tb1 (List.mem_of_getElem? (i := 3) rfl), by decide +kernel, by decide +kernel, by decide⟩
theorem miX9_addCode : Cond.instanceMethod yX9_addCode ∈ lw_tbl := tb5 (List.mem_of_getElem? (i := 165) rfl)
theorem mvX9_addCode : MV YX9_addCode := ⟨miX9_addCode, tb5 (List.mem_of_getElem? (i := 166) rfl)⟩
def YX9_addRule : Mt := (yX9_addRule, cX9_addRule, 4, none)
theorem moX9_addRule : MO YX9_addRule 3 := ⟨tb5 (List.mem_of_getElem? (i := 124) rfl), tb1 (List.mem_of_getElem? (i := 3) rfl), by decide +kernel, by decide +kernel, by decide⟩
theorem miX9_addRule : Cond.instanceMethod yX9_addRule ∈ lw_tbl := tb5 (List.mem_of_getElem? (i := 122) rfl)
theorem mvX9_addRule : MV YX9_addRule := ⟨miX9_addRule, tb5 (List.mem_of_getElem? (i := 123) rfl)⟩
def YX9_depthAfter : Mt := (yX9_depthAfter, cX9_depthAfter, 5, (some .int))
theorem moX9_depthAfter : MO YX9_depthAfter 3 := ⟨tb3 (List.mem_of_getElem? (i := 55) rfl), tb1 (List.mem_of_getElem? (i := 3) rfl), by decide +kernel, by decide +kernel, by decide⟩
theorem miX9_depthAfter : Cond.instanceMethod yX9_depthAfter ∈ lw_tbl := tb3 (List.mem_of_getElem? (i := 54) rfl)
theorem mvX9_depthAfter : MV YX9_depthAfter := ⟨miX9_depthAfter, pv1 (q := (⟨"LeadRoom$Style", "depthAfter", "(I[II)I"⟩, 9)) (List.mem_of_getElem? (i := 4) rfl)⟩
def YX9_init : Mt := (yX9_init, cX9_init, 1, none)
theorem moX9_init : MO YX9_init 0 := ⟨tb1 (List.mem_of_getElem? (i := 47) rfl), tb1 (List.mem_of_getElem? (i := 3) rfl), by decide +kernel, by decide +kernel, by decide⟩
theorem miX9_init : Cond.instanceMethod yX9_init ∈ lw_tbl := tb1 (List.mem_of_getElem? (i := 46) rfl)
def YX9_isTrue : Mt := (yX9_isTrue, cX9_isTrue, 4, (some .boolean))
theorem moX9_isTrue : MO YX9_isTrue 3 := ⟨tb3 (List.mem_of_getElem? (i := 58) rfl), tb1 (List.mem_of_getElem? (i := 3) rfl), by decide +kernel, by decide +kernel, by decide⟩
theorem msX9_isTrue : Cond.static yX9_isTrue ∈ lw_tbl := tb3 (List.mem_of_getElem? (i := 57) rfl)
def YX9_lastClose : Mt := (yX9_lastClose, cX9_lastClose, 3, (some .int))
theorem moX9_lastClose : MO YX9_lastClose 1 := ⟨tb7 (List.mem_of_getElem? (i := 236) rfl), tb1 (List.mem_of_getElem? (i := 3) rfl), by decide +kernel, by decide +kernel, by decide⟩
theorem miX9_lastClose : Cond.instanceMethod yX9_lastClose ∈ lw_tbl := tb7 (List.mem_of_getElem? (i := 234) rfl)
theorem mvX9_lastClose : MV YX9_lastClose := ⟨miX9_lastClose, tb7 (List.mem_of_getElem? (i := 235) rfl)⟩
def YX9_lastThatHolds : Mt := (yX9_lastThatHolds, cX9_lastThatHolds, 3, (some .int))
theorem moX9_lastThatHolds : MO YX9_lastThatHolds 1 := ⟨tb3 (List.mem_of_getElem? (i := 66) rfl), tb1 (List.mem_of_getElem? (i := 3) rfl), by decide +kernel, by decide +kernel, by decide⟩
theorem miX9_lastThatHolds : Cond.instanceMethod yX9_lastThatHolds ∈ lw_tbl := tb3 (List.mem_of_getElem? (i := 64) rfl)
theorem mvX9_lastThatHolds : MV YX9_lastThatHolds := ⟨miX9_lastThatHolds, tb3 (List.mem_of_getElem? (i := 65) rfl)⟩
def YX9_takeAll : Mt := (yX9_takeAll, cX9_takeAll, 2, none)
theorem moX9_takeAll : MO YX9_takeAll 1 := ⟨tb3 (List.mem_of_getElem? (i := 145) rfl), tb1 (List.mem_of_getElem? (i := 3) rfl), by decide +kernel, by decide +kernel, by decide⟩
theorem miX9_takeAll : Cond.instanceMethod yX9_takeAll ∈ lw_tbl := tb3 (List.mem_of_getElem? (i := 143) rfl)
theorem mvX9_takeAll : MV YX9_takeAll := ⟨miX9_takeAll, tb3 (List.mem_of_getElem? (i := 144) rfl)⟩
def YX9_weigh : Mt := (yX9_weigh, cX9_weigh, 6, none)
theorem moX9_weigh : MO YX9_weigh 1 := ⟨tb3 (List.mem_of_getElem? (i := 51) rfl), tb1 (List.mem_of_getElem? (i := 3) rfl), by decide +kernel, by decide +kernel, by decide⟩
theorem miX9_weigh : Cond.instanceMethod yX9_weigh ∈ lw_tbl := tb3 (List.mem_of_getElem? (i := 49) rfl)
theorem mvX9_weigh : MV YX9_weigh := ⟨miX9_weigh, tb3 (List.mem_of_getElem? (i := 50) rfl)⟩
theorem mlX11_1 : Cond.methodLink RX11 1 Lib.objectInit ∈ lw_tbl := tb1 (List.mem_of_getElem? (i := 34) rfl)
theorem mlX11_22 : Cond.methodLink RX11 22 yX10_init ∈ lw_tbl := tb1 (List.mem_of_getElem? (i := 39) rfl)
theorem mlX11_38 : Cond.methodLink RX11 38 yX7_init ∈ lw_tbl := tb1 (List.mem_of_getElem? (i := 181) rfl)
theorem mlX11_45 : Cond.methodLink RX11 45 yX2_init ∈ lw_tbl := tb2 (List.mem_of_getElem? (i := 86) rfl)
theorem mlX11_73 : Cond.methodLink RX11 73 yX11_feedNumber ∈ lw_tbl := tb3 (List.mem_of_getElem? (i := 4) rfl)
theorem mlX11_77 : Cond.methodLink RX11 77 yX11_isFace ∈ lw_tbl := tb4 (List.mem_of_getElem? (i := 141) rfl)
theorem mlX11_81 : Cond.methodLink RX11 81 yX11_isSign ∈ lw_tbl := tb4 (List.mem_of_getElem? (i := 144) rfl)
theorem mlX11_94 : Cond.methodLink RX11 94 yX11_useTape ∈ lw_tbl := tb4 (List.mem_of_getElem? (i := 235) rfl)
theorem mlX11_98 : Cond.methodLink RX11 98 yX11_isMinute ∈ lw_tbl := tb4 (List.mem_of_getElem? (i := 239) rfl)
theorem mlX11_101 : Cond.methodLink RX11 101 yX1_firstWrong ∈ lw_tbl := tb5 (List.mem_of_getElem? (i := 2) rfl)
theorem mlX11_113 : Cond.methodLink RX11 113 yX7_addStory ∈ lw_tbl := tb5 (List.mem_of_getElem? (i := 23) rfl)
theorem mlX11_120 : Cond.methodLink RX11 120 yX10_firstWrong ∈ lw_tbl := tb5 (List.mem_of_getElem? (i := 47) rfl)
theorem mlX11_130 : Cond.methodLink RX11 130 yX7_addStyle ∈ lw_tbl := tb5 (List.mem_of_getElem? (i := 189) rfl)
theorem mlX11_139 : Cond.methodLink RX11 139 yX7_findPart ∈ lw_tbl := tb5 (List.mem_of_getElem? (i := 201) rfl)
theorem mlX11_165 : Cond.methodLink RX11 165 yX7_countRight ∈ lw_tbl := tb5 (List.mem_of_getElem? (i := 202) rfl)
theorem mlX11_169 : Cond.methodLink RX11 169 yX7_countLost ∈ lw_tbl := tb5 (List.mem_of_getElem? (i := 235) rfl)
theorem mlX11_175 : Cond.methodLink RX11 175 yX7_breakerFor ∈ lw_tbl := tb6 (List.mem_of_getElem? (i := 21) rfl)
theorem mlX11_199 : Cond.methodLink RX11 199 yX0_solve ∈ lw_tbl := tb6 (List.mem_of_getElem? (i := 29) rfl)
theorem mlX11_202 : Cond.methodLink RX11 202 yX0_badnessFrom ∈ lw_tbl := tb6 (List.mem_of_getElem? (i := 30) rfl)
theorem mlX11_205 : Cond.methodLink RX11 205 yX0_reach ∈ lw_tbl := tb6 (List.mem_of_getElem? (i := 34) rfl)
theorem mlX11_208 : Cond.methodLink RX11 208 yX5_hasLine ∈ lw_tbl := tb6 (List.mem_of_getElem? (i := 46) rfl)
theorem mlX11_214 : Cond.methodLink RX11 214 yX0_endOfLine ∈ lw_tbl := tb6 (List.mem_of_getElem? (i := 47) rfl)
theorem mlX11_217 : Cond.methodLink RX11 217 yX0_byHand ∈ lw_tbl := tb6 (List.mem_of_getElem? (i := 58) rfl)
theorem mlX11_221 : Cond.methodLink RX11 221 yX11_isBrasses ∈ lw_tbl := tb6 (List.mem_of_getElem? (i := 73) rfl)
theorem mlX11_227 : Cond.methodLink RX11 227 yX7_addMachine ∈ lw_tbl := tb6 (List.mem_of_getElem? (i := 76) rfl)
theorem mlX11_231 : Cond.methodLink RX11 231 yX7_findMachine ∈ lw_tbl := tb6 (List.mem_of_getElem? (i := 91) rfl)
theorem mlX11_243 : Cond.methodLink RX11 243 yX7_countOut ∈ lw_tbl := tb6 (List.mem_of_getElem? (i := 92) rfl)
theorem mlX11_250 : Cond.methodLink RX11 250 yJ9_max_7cf53 ∈ lw_tbl := tb6 (List.mem_of_getElem? (i := 102) rfl)
theorem mlX11_261 : Cond.methodLink RX11 261 yX4_addJob ∈ lw_tbl := tb6 (List.mem_of_getElem? (i := 117) rfl)
theorem mlX11_265 : Cond.methodLink RX11 265 yX7_passMinute ∈ lw_tbl := tb6 (List.mem_of_getElem? (i := 128) rfl)
theorem mlX11_280 : Cond.methodLink RX11 280 yX7_findSlug ∈ lw_tbl := tb6 (List.mem_of_getElem? (i := 198) rfl)
theorem mlX11_327 : Cond.methodLink RX11 327 yX7_firstNotRight ∈ lw_tbl := tb6 (List.mem_of_getElem? (i := 236) rfl)
theorem mlX11_330 : Cond.methodLink RX11 330 yX7_takeAway ∈ lw_tbl := tb7 (List.mem_of_getElem? (i := 7) rfl)
theorem mlX11_334 : Cond.methodLink RX11 334 yX7_layAt ∈ lw_tbl := tb7 (List.mem_of_getElem? (i := 15) rfl)
theorem mlX11_337 : Cond.methodLink RX11 337 yX5_bitsOfWord ∈ lw_tbl := tb7 (List.mem_of_getElem? (i := 30) rfl)
theorem mlX11_340 : Cond.methodLink RX11 340 yX7_isQueued ∈ lw_tbl := tb7 (List.mem_of_getElem? (i := 38) rfl)
theorem mlX11_343 : Cond.methodLink RX11 343 yX5_putWord ∈ lw_tbl := tb7 (List.mem_of_getElem? (i := 46) rfl)
theorem mlX11_347 : Cond.methodLink RX11 347 yX7_correctWith ∈ lw_tbl := tb7 (List.mem_of_getElem? (i := 57) rfl)
theorem mlX11_351 : Cond.methodLink RX11 351 yX8_byteOfLetter ∈ lw_tbl := tb7 (List.mem_of_getElem? (i := 86) rfl)
theorem mlX11_354 : Cond.methodLink RX11 354 yX8_tellLetter ∈ lw_tbl := tb7 (List.mem_of_getElem? (i := 91) rfl)
theorem mlX11_361 : Cond.methodLink RX11 361 yX7_countMarked ∈ lw_tbl := tb7 (List.mem_of_getElem? (i := 109) rfl)
theorem mlX11_364 : Cond.methodLink RX11 364 yX7_missed ∈ lw_tbl := tb7 (List.mem_of_getElem? (i := 113) rfl)
theorem mlX11_367 : Cond.methodLink RX11 367 yX7_countRead ∈ lw_tbl := tb4 (List.mem_of_getElem? (i := 124) rfl)
theorem mlX11_374 : Cond.methodLink RX11 374 yX2_addTelling ∈ lw_tbl := tb7 (List.mem_of_getElem? (i := 125) rfl)
theorem mlX11_378 : Cond.methodLink RX11 378 yX2_rackOf ∈ lw_tbl := tb7 (List.mem_of_getElem? (i := 136) rfl)
theorem mlX11_382 : Cond.methodLink RX11 382 yX11_isPage ∈ lw_tbl := tb7 (List.mem_of_getElem? (i := 147) rfl)
theorem mlX11_391 : Cond.methodLink RX11 391 yX11_findFit ∈ lw_tbl := tb7 (List.mem_of_getElem? (i := 157) rfl)
theorem mlX11_398 : Cond.methodLink RX11 398 yX3_placeOf ∈ lw_tbl := tb7 (List.mem_of_getElem? (i := 201) rfl)
theorem mlX11_407 : Cond.methodLink RX11 407 yX3_allRight ∈ lw_tbl := tb7 (List.mem_of_getElem? (i := 212) rfl)
theorem mlX11_411 : Cond.methodLink RX11 411 yX2_emptyRow ∈ lw_tbl := tb7 (List.mem_of_getElem? (i := 217) rfl)
theorem mlX11_419 : Cond.methodLink RX11 419 yX11_layStory ∈ lw_tbl := tb7 (List.mem_of_getElem? (i := 221) rfl)
theorem mlX11_428 : Cond.methodLink RX11 428 yX7_lateOf ∈ lw_tbl := tb7 (List.mem_of_getElem? (i := 229) rfl)
theorem mlX11_434 : Cond.methodLink RX11 434 yX2_layPart ∈ lw_tbl := tb7 (List.mem_of_getElem? (i := 225) rfl)
theorem mlX11_438 : Cond.methodLink RX11 438 yJ6_bitCount_0f7a4 ∈ lw_tbl := tb7 (List.mem_of_getElem? (i := 161) rfl)
theorem mlX11_443 : Cond.methodLink RX11 443 yX7_isStorySet ∈ lw_tbl := tb7 (List.mem_of_getElem? (i := 167) rfl)
theorem mlX11_446 : Cond.methodLink RX11 446 yX3_search ∈ lw_tbl := tb7 (List.mem_of_getElem? (i := 171) rfl)
theorem mlX11_450 : Cond.methodLink RX11 450 yX11_isEdition ∈ lw_tbl := tb8 (List.mem_of_getElem? (i := 11) rfl)
theorem mlX11_453 : Cond.methodLink RX11 453 yX2_slugOn ∈ lw_tbl := tb8 (List.mem_of_getElem? (i := 15) rfl)
theorem mlX11_459 : Cond.methodLink RX11 459 yX2_addEdition ∈ lw_tbl := tb8 (List.mem_of_getElem? (i := 26) rfl)
theorem mlX11_462 : Cond.methodLink RX11 462 yX2_countNew ∈ lw_tbl := tb8 (List.mem_of_getElem? (i := 37) rfl)
theorem mlX11_465 : Cond.methodLink RX11 465 yX6_leastLate ∈ lw_tbl := tb3 (List.mem_of_getElem? (i := 20) rfl)
theorem mlX11_469 : Cond.methodLink RX11 469 yX7_takeAll ∈ lw_tbl := tb3 (List.mem_of_getElem? (i := 135) rfl)
theorem mlX11_473 : Cond.methodLink RX11 473 yX7_canRun ∈ lw_tbl := tb8 (List.mem_of_getElem? (i := 53) rfl)
theorem mlX11_477 : Cond.methodLink RX11 477 yX7_countJobs ∈ lw_tbl := tb4 (List.mem_of_getElem? (i := 128) rfl)
theorem mlX11_480 : Cond.methodLink RX11 480 yX7_payOf ∈ lw_tbl := tb8 (List.mem_of_getElem? (i := 64) rfl)
theorem mlX11_483 : Cond.methodLink RX11 483 yX7_rowPlace ∈ lw_tbl := tb3 (List.mem_of_getElem? (i := 126) rfl)
theorem mlX11_489 : Cond.methodLink RX11 489 yX7_rowCount ∈ lw_tbl := tb3 (List.mem_of_getElem? (i := 121) rfl)
theorem mlX11_495 : Cond.methodLink RX11 495 yX2_takeAll ∈ lw_tbl := tb4 (List.mem_of_getElem? (i := 91) rfl)
theorem mlX11_498 : Cond.methodLink RX11 498 yX7_rulesNow ∈ lw_tbl := tb4 (List.mem_of_getElem? (i := 112) rfl)
theorem mlX11_504 : Cond.methodLink RX11 504 yX7_countState ∈ lw_tbl := tb4 (List.mem_of_getElem? (i := 116) rfl)
theorem mlX11_507 : Cond.methodLink RX11 507 yX7_countCorrected ∈ lw_tbl := tb4 (List.mem_of_getElem? (i := 120) rfl)
theorem mlX0_3 : Cond.methodLink RX0 3 Lib.objectInit ∈ lw_tbl := tb1 (List.mem_of_getElem? (i := 199) rfl)
theorem mlX0_62 : Cond.methodLink RX0 62 yX0_widthOf ∈ lw_tbl := tb3 (List.mem_of_getElem? (i := 71) rfl)
theorem mlX0_78 : Cond.methodLink RX0 78 yX9_lastThatHolds ∈ lw_tbl := tb3 (List.mem_of_getElem? (i := 63) rfl)
theorem mlX0_88 : Cond.methodLink RX0 88 yX0_spare ∈ lw_tbl := tb3 (List.mem_of_getElem? (i := 86) rfl)
theorem mlX0_92 : Cond.methodLink RX0 92 yX0_solveAt ∈ lw_tbl := tb3 (List.mem_of_getElem? (i := 78) rfl)
theorem mlX0_96 : Cond.methodLink RX0 96 yX0_lineBadness ∈ lw_tbl := tb3 (List.mem_of_getElem? (i := 82) rfl)
theorem mlX0_105 : Cond.methodLink RX0 105 yJ9_max_7cf53 ∈ lw_tbl := tb6 (List.mem_of_getElem? (i := 38) rfl)
theorem mlX0_110 : Cond.methodLink RX0 110 yX0_longestFrom ∈ lw_tbl := tb6 (List.mem_of_getElem? (i := 62) rfl)
theorem mlX1_9 : Cond.methodLink RX1 9 yX1_isLetter ∈ lw_tbl := tb5 (List.mem_of_getElem? (i := 5) rfl)
theorem mlX2_3 : Cond.methodLink RX2 3 Lib.objectInit ∈ lw_tbl := tb2 (List.mem_of_getElem? (i := 89) rfl)
theorem mlX2_51 : Cond.methodLink RX2 51 arraycopyName ∈ lw_tbl := tb4 (List.mem_of_getElem? (i := 95) rfl)
theorem mlX2_57 : Cond.methodLink RX2 57 yX2_takeRow ∈ lw_tbl := tb4 (List.mem_of_getElem? (i := 96) rfl)
theorem mlX2_61 : Cond.methodLink RX2 61 yX2_addSlug ∈ lw_tbl := tb4 (List.mem_of_getElem? (i := 100) rfl)
theorem mlX2_73 : Cond.methodLink RX2 73 yX2_slugOn ∈ lw_tbl := tb8 (List.mem_of_getElem? (i := 41) rfl)
theorem mlX2_77 : Cond.methodLink RX2 77 yX2_hasSlug ∈ lw_tbl := tb8 (List.mem_of_getElem? (i := 42) rfl)
theorem mlX3_3 : Cond.methodLink RX3 3 Lib.objectInit ∈ lw_tbl := tb2 (List.mem_of_getElem? (i := 141) rfl)
theorem mlX3_46 : Cond.methodLink RX3 46 yJ9_min_7cf53 ∈ lw_tbl := tb7 (List.mem_of_getElem? (i := 175) rfl)
theorem mlX3_56 : Cond.methodLink RX3 56 yX3_addStory ∈ lw_tbl := tb7 (List.mem_of_getElem? (i := 176) rfl)
theorem mlX3_60 : Cond.methodLink RX3 60 yX3_chooseColumn ∈ lw_tbl := tb7 (List.mem_of_getElem? (i := 181) rfl)
theorem mlX3_67 : Cond.methodLink RX3 67 yX7_findPart ∈ lw_tbl := tb7 (List.mem_of_getElem? (i := 180) rfl)
theorem mlX3_76 : Cond.methodLink RX3 76 yX3_chooseKeep ∈ lw_tbl := tb7 (List.mem_of_getElem? (i := 185) rfl)
theorem mlX3_80 : Cond.methodLink RX3 80 yX3_takeIfBetter ∈ lw_tbl := tb7 (List.mem_of_getElem? (i := 189) rfl)
theorem mlX3_83 : Cond.methodLink RX3 83 arraycopyName ∈ lw_tbl := tb7 (List.mem_of_getElem? (i := 193) rfl)
theorem mlX3_89 : Cond.methodLink RX3 89 yX7_firstNotRight ∈ lw_tbl := tb7 (List.mem_of_getElem? (i := 216) rfl)
theorem mlX4_3 : Cond.methodLink RX4 3 Lib.objectInit ∈ lw_tbl := tb3 (List.mem_of_getElem? (i := 155) rfl)
theorem mlX4_48 : Cond.methodLink RX4 48 arraycopyName ∈ lw_tbl := tb3 (List.mem_of_getElem? (i := 212) rfl)
theorem mlX4_58 : Cond.methodLink RX4 58 yJ9_max_7cf53 ∈ lw_tbl := tb6 (List.mem_of_getElem? (i := 152) rfl)
theorem mlX4_64 : Cond.methodLink RX4 64 yX4_dropJob ∈ lw_tbl := tb6 (List.mem_of_getElem? (i := 148) rfl)
theorem mlX5_3 : Cond.methodLink RX5 3 Lib.objectInit ∈ lw_tbl := tb1 (List.mem_of_getElem? (i := 112) rfl)
theorem mlX5_52 : Cond.methodLink RX5 52 yX5_takeCopy ∈ lw_tbl := tb4 (List.mem_of_getElem? (i := 81) rfl)
theorem mlX5_56 : Cond.methodLink RX5 56 yX5_takeLines ∈ lw_tbl := tb4 (List.mem_of_getElem? (i := 87) rfl)
theorem mlX5_59 : Cond.methodLink RX5 59 arraycopyName ∈ lw_tbl := tb4 (List.mem_of_getElem? (i := 85) rfl)
theorem mlX5_69 : Cond.methodLink RX5 69 yX1_isLetter ∈ lw_tbl := tb5 (List.mem_of_getElem? (i := 35) rfl)
theorem mlX5_75 : Cond.methodLink RX5 75 yX5_addBit ∈ lw_tbl := tb5 (List.mem_of_getElem? (i := 36) rfl)
theorem mlX5_79 : Cond.methodLink RX5 79 yX5_empty ∈ lw_tbl := tb7 (List.mem_of_getElem? (i := 50) rfl)
theorem mlX5_83 : Cond.methodLink RX5 83 yX5_firstBit ∈ lw_tbl := tb7 (List.mem_of_getElem? (i := 34) rfl)
theorem mlX5_87 : Cond.methodLink RX5 87 yX5_addBits ∈ lw_tbl := tb7 (List.mem_of_getElem? (i := 51) rfl)
theorem mlX5_91 : Cond.methodLink RX5 91 yX5_addText ∈ lw_tbl := tb7 (List.mem_of_getElem? (i := 55) rfl)
theorem mlX5_95 : Cond.methodLink RX5 95 yX5_bitsOfWord ∈ lw_tbl := tb7 (List.mem_of_getElem? (i := 56) rfl)
theorem mlX5_98 : Cond.methodLink RX5 98 yX5_hasLine ∈ lw_tbl := tb5 (List.mem_of_getElem? (i := 222) rfl)
theorem mlX5_101 : Cond.methodLink RX5 101 yJ9_min_7cf53 ∈ lw_tbl := tb5 (List.mem_of_getElem? (i := 223) rfl)
theorem mlX5_107 : Cond.methodLink RX5 107 yX5_firstBitOfLine ∈ lw_tbl := tb5 (List.mem_of_getElem? (i := 224) rfl)
theorem mlX6_3 : Cond.methodLink RX6 3 Lib.objectInit ∈ lw_tbl := tb2 (List.mem_of_getElem? (i := 186) rfl)
theorem mlX6_28 : Cond.methodLink RX6 28 yX6_loadParts ∈ lw_tbl := tb3 (List.mem_of_getElem? (i := 24) rfl)
theorem mlX6_38 : Cond.methodLink RX6 38 yX7_findMachine ∈ lw_tbl := tb3 (List.mem_of_getElem? (i := 91) rfl)
theorem mlX6_51 : Cond.methodLink RX6 51 yX7_queuedLines ∈ lw_tbl := tb3 (List.mem_of_getElem? (i := 95) rfl)
theorem mlX6_55 : Cond.methodLink RX6 55 yX6_findOwn ∈ lw_tbl := tb3 (List.mem_of_getElem? (i := 105) rfl)
theorem mlX6_59 : Cond.methodLink RX6 59 yX6_shareWithOwn ∈ lw_tbl := tb3 (List.mem_of_getElem? (i := 113) rfl)
theorem mlX6_66 : Cond.methodLink RX6 66 yX7_findPart ∈ lw_tbl := tb3 (List.mem_of_getElem? (i := 28) rfl)
theorem mlX6_75 : Cond.methodLink RX6 75 yX7_breakerFor ∈ lw_tbl := tb3 (List.mem_of_getElem? (i := 32) rfl)
theorem mlX6_79 : Cond.methodLink RX6 79 yX0_solve ∈ lw_tbl := tb3 (List.mem_of_getElem? (i := 74) rfl)
theorem mlX6_88 : Cond.methodLink RX6 88 yJ9_max_7cf53 ∈ lw_tbl := tb3 (List.mem_of_getElem? (i := 109) rfl)
theorem mlX6_94 : Cond.methodLink RX6 94 yJ9_min_7cf53 ∈ lw_tbl := tb3 (List.mem_of_getElem? (i := 110) rfl)
theorem mlX7_3 : Cond.methodLink RX7 3 Lib.objectInit ∈ lw_tbl := tb1 (List.mem_of_getElem? (i := 184) rfl)
theorem mlX7_92 : Cond.methodLink RX7 92 arraycopyName ∈ lw_tbl := tb3 (List.mem_of_getElem? (i := 139) rfl)
theorem mlX7_98 : Cond.methodLink RX7 98 yX7_ownStyle ∈ lw_tbl := tb3 (List.mem_of_getElem? (i := 40) rfl)
theorem mlX7_102 : Cond.methodLink RX7 102 yX9_takeAll ∈ lw_tbl := tb3 (List.mem_of_getElem? (i := 142) rfl)
theorem mlX7_106 : Cond.methodLink RX7 106 yX7_ownMachine ∈ lw_tbl := tb3 (List.mem_of_getElem? (i := 147) rfl)
theorem mlX7_110 : Cond.methodLink RX7 110 yX4_takeAll ∈ lw_tbl := tb3 (List.mem_of_getElem? (i := 208) rfl)
theorem mlX7_113 : Cond.methodLink RX7 113 yX7_ownSlug ∈ lw_tbl := tb3 (List.mem_of_getElem? (i := 216) rfl)
theorem mlX7_117 : Cond.methodLink RX7 117 yX8_takeAll ∈ lw_tbl := tb4 (List.mem_of_getElem? (i := 58) rfl)
theorem mlX7_120 : Cond.methodLink RX7 120 yX7_findPart ∈ lw_tbl := tb3 (List.mem_of_getElem? (i := 99) rfl)
theorem mlX7_124 : Cond.methodLink RX7 124 yX7_ownPart ∈ lw_tbl := tb4 (List.mem_of_getElem? (i := 72) rfl)
theorem mlX7_127 : Cond.methodLink RX7 127 yX5_takeAll ∈ lw_tbl := tb4 (List.mem_of_getElem? (i := 77) rfl)
theorem mlX7_133 : Cond.methodLink RX7 133 yX5_empty ∈ lw_tbl := tb5 (List.mem_of_getElem? (i := 27) rfl)
theorem mlX7_137 : Cond.methodLink RX7 137 yX5_addText ∈ lw_tbl := tb5 (List.mem_of_getElem? (i := 31) rfl)
theorem mlX7_144 : Cond.methodLink RX7 144 yX4_empty ∈ lw_tbl := tb6 (List.mem_of_getElem? (i := 80) rfl)
theorem mlX7_145 : Cond.methodLink RX7 145 yX7_styleAt ∈ lw_tbl := tb3 (List.mem_of_getElem? (i := 36) rfl)
theorem mlX7_164 : Cond.methodLink RX7 164 yX7_factsOfPart ∈ lw_tbl := tb3 (List.mem_of_getElem? (i := 44) rfl)
theorem mlX7_178 : Cond.methodLink RX7 178 yX9_weigh ∈ lw_tbl := tb3 (List.mem_of_getElem? (i := 48) rfl)
theorem mlX7_182 : Cond.methodLink RX7 182 yX0_loadRules ∈ lw_tbl := tb3 (List.mem_of_getElem? (i := 59) rfl)
theorem mlX7_185 : Cond.methodLink RX7 185 yX0_loadCopy ∈ lw_tbl := tb3 (List.mem_of_getElem? (i := 67) rfl)
theorem mlX7_189 : Cond.methodLink RX7 189 yX9_lastClose ∈ lw_tbl := tb7 (List.mem_of_getElem? (i := 233) rfl)
theorem mlX7_193 : Cond.methodLink RX7 193 yJ9_max_7cf53 ∈ lw_tbl := tb3 (List.mem_of_getElem? (i := 102) rfl)
theorem mlX7_205 : Cond.methodLink RX7 205 yX7_work ∈ lw_tbl := tb6 (List.mem_of_getElem? (i := 132) rfl)
theorem mlX7_215 : Cond.methodLink RX7 215 yX7_setPart ∈ lw_tbl := tb6 (List.mem_of_getElem? (i := 136) rfl)
theorem mlX7_219 : Cond.methodLink RX7 219 yX4_spike ∈ lw_tbl := tb6 (List.mem_of_getElem? (i := 144) rfl)
theorem mlX7_231 : Cond.methodLink RX7 231 yX7_countNeed ∈ lw_tbl := tb6 (List.mem_of_getElem? (i := 153) rfl)
theorem mlX7_234 : Cond.methodLink RX7 234 yX4_cannotCast ∈ lw_tbl := tb6 (List.mem_of_getElem? (i := 157) rfl)
theorem mlX7_241 : Cond.methodLink RX7 241 yX7_countOut ∈ lw_tbl := tb6 (List.mem_of_getElem? (i := 161) rfl)
theorem mlX7_245 : Cond.methodLink RX7 245 yX4_isShort ∈ lw_tbl := tb6 (List.mem_of_getElem? (i := 162) rfl)
theorem mlX7_252 : Cond.methodLink RX7 252 yX7_castLine ∈ lw_tbl := tb6 (List.mem_of_getElem? (i := 166) rfl)
theorem mlX7_256 : Cond.methodLink RX7 256 yX7_breakerFor ∈ lw_tbl := tb3 (List.mem_of_getElem? (i := 100) rfl)
theorem mlX7_260 : Cond.methodLink RX7 260 yX0_solve ∈ lw_tbl := tb3 (List.mem_of_getElem? (i := 101) rfl)
theorem mlX7_263 : Cond.methodLink RX7 263 yX0_putLines ∈ lw_tbl := tb6 (List.mem_of_getElem? (i := 140) rfl)
theorem mlX7_267 : Cond.methodLink RX7 267 yX7_clear ∈ lw_tbl := tb6 (List.mem_of_getElem? (i := 96) rfl)
theorem mlX7_270 : Cond.methodLink RX7 270 yX5_spell ∈ lw_tbl := tb5 (List.mem_of_getElem? (i := 218) rfl)
theorem mlX7_274 : Cond.methodLink RX7 274 yX7_addSign ∈ lw_tbl := tb6 (List.mem_of_getElem? (i := 99) rfl)
theorem mlX7_284 : Cond.methodLink RX7 284 yX5_hasLine ∈ lw_tbl := tb5 (List.mem_of_getElem? (i := 210) rfl)
theorem mlX7_288 : Cond.methodLink RX7 288 yX8_takeText ∈ lw_tbl := tb6 (List.mem_of_getElem? (i := 170) rfl)
theorem mlX7_303 : Cond.methodLink RX7 303 yX7_takeAwayAt ∈ lw_tbl := tb6 (List.mem_of_getElem? (i := 171) rfl)
theorem mlX7_306 : Cond.methodLink RX7 306 yX7_layAt ∈ lw_tbl := tb6 (List.mem_of_getElem? (i := 179) rfl)
theorem mlX7_312 : Cond.methodLink RX7 312 yX4_dropJob ∈ lw_tbl := tb6 (List.mem_of_getElem? (i := 183) rfl)
theorem mlX7_315 : Cond.methodLink RX7 315 yX7_findSlug ∈ lw_tbl := tb5 (List.mem_of_getElem? (i := 214) rfl)
theorem mlX7_329 : Cond.methodLink RX7 329 yX7_takeAway ∈ lw_tbl := tb6 (List.mem_of_getElem? (i := 175) rfl)
theorem mlX7_333 : Cond.methodLink RX7 333 yX8_saysText ∈ lw_tbl := tb5 (List.mem_of_getElem? (i := 228) rfl)
theorem mlX7_337 : Cond.methodLink RX7 337 yX7_isRight ∈ lw_tbl := tb5 (List.mem_of_getElem? (i := 206) rfl)
theorem mlX7_341 : Cond.methodLink RX7 341 yX4_hasJobOf ∈ lw_tbl := tb7 (List.mem_of_getElem? (i := 42) rfl)
theorem mlX7_344 : Cond.methodLink RX7 344 yX5_takeCopy ∈ lw_tbl := tb7 (List.mem_of_getElem? (i := 61) rfl)
theorem mlX7_347 : Cond.methodLink RX7 347 yX5_firstBit ∈ lw_tbl := tb7 (List.mem_of_getElem? (i := 62) rfl)
theorem mlX7_350 : Cond.methodLink RX7 350 yX5_lineOf ∈ lw_tbl := tb7 (List.mem_of_getElem? (i := 63) rfl)
theorem mlX7_353 : Cond.methodLink RX7 353 yX5_firstBitOfLine ∈ lw_tbl := tb7 (List.mem_of_getElem? (i := 67) rfl)
theorem mlX7_356 : Cond.methodLink RX7 356 yX5_takeLines ∈ lw_tbl := tb7 (List.mem_of_getElem? (i := 68) rfl)
theorem mlX7_359 : Cond.methodLink RX7 359 yX7_countSame ∈ lw_tbl := tb7 (List.mem_of_getElem? (i := 69) rfl)
theorem mlX7_363 : Cond.methodLink RX7 363 yX7_movePlaces ∈ lw_tbl := tb7 (List.mem_of_getElem? (i := 74) rfl)
theorem mlX7_367 : Cond.methodLink RX7 367 yX4_addJob ∈ lw_tbl := tb7 (List.mem_of_getElem? (i := 78) rfl)
theorem mlX7_371 : Cond.methodLink RX7 371 yJ9_min_7cf53 ∈ lw_tbl := tb3 (List.mem_of_getElem? (i := 125) rfl)
theorem mlX7_374 : Cond.methodLink RX7 374 yX8_sameBytes ∈ lw_tbl := tb7 (List.mem_of_getElem? (i := 73) rfl)
theorem mlX7_384 : Cond.methodLink RX7 384 yX7_countMarked ∈ lw_tbl := tb7 (List.mem_of_getElem? (i := 117) rfl)
theorem mlX7_387 : Cond.methodLink RX7 387 yX7_rowCount ∈ lw_tbl := tb3 (List.mem_of_getElem? (i := 130) rfl)
theorem mlX7_391 : Cond.methodLink RX7 391 yX7_payOfSlug ∈ lw_tbl := tb8 (List.mem_of_getElem? (i := 68) rfl)
theorem mlX7_395 : Cond.methodLink RX7 395 yX7_factsOfSlug ∈ lw_tbl := tb8 (List.mem_of_getElem? (i := 72) rfl)
theorem mlX7_399 : Cond.methodLink RX7 399 yX9_lastThatHolds ∈ lw_tbl := tb8 (List.mem_of_getElem? (i := 76) rfl)
theorem mlX8_3 : Cond.methodLink RX8 3 Lib.objectInit ∈ lw_tbl := tb3 (List.mem_of_getElem? (i := 224) rfl)
theorem mlX8_59 : Cond.methodLink RX8 59 yX8_takeText ∈ lw_tbl := tb4 (List.mem_of_getElem? (i := 62) rfl)
theorem mlX8_63 : Cond.methodLink RX8 63 arraycopyName ∈ lw_tbl := tb4 (List.mem_of_getElem? (i := 71) rfl)
theorem mlX8_69 : Cond.methodLink RX8 69 yJ9_min_7cf53 ∈ lw_tbl := tb4 (List.mem_of_getElem? (i := 66) rfl)
theorem mlX8_75 : Cond.methodLink RX8 75 yJ9_max_7cf53 ∈ lw_tbl := tb4 (List.mem_of_getElem? (i := 67) rfl)
theorem mlX8_78 : Cond.methodLink RX8 78 yX8_roomFor ∈ lw_tbl := tb4 (List.mem_of_getElem? (i := 68) rfl)
theorem mlX8_82 : Cond.methodLink RX8 82 yX1_isLetter ∈ lw_tbl := tb7 (List.mem_of_getElem? (i := 90) rfl)
theorem mlX8_88 : Cond.methodLink RX8 88 yX8_sameBytes ∈ lw_tbl := tb5 (List.mem_of_getElem? (i := 232) rfl)
theorem mlX9_3 : Cond.methodLink RX9 3 Lib.objectInit ∈ lw_tbl := tb1 (List.mem_of_getElem? (i := 48) rfl)
theorem mlX9_41 : Cond.methodLink RX9 41 arraycopyName ∈ lw_tbl := tb3 (List.mem_of_getElem? (i := 146) rfl)
theorem mlX9_47 : Cond.methodLink RX9 47 yX9_depthAfter ∈ lw_tbl := tb3 (List.mem_of_getElem? (i := 52) rfl)
theorem mlX9_51 : Cond.methodLink RX9 51 yX9_isTrue ∈ lw_tbl := tb3 (List.mem_of_getElem? (i := 56) rfl)
theorem mlX10_3 : Cond.methodLink RX10 3 Lib.objectInit ∈ lw_tbl := tb1 (List.mem_of_getElem? (i := 42) rfl)
theorem mlX10_39 : Cond.methodLink RX10 39 yJ9_min_7cf53 ∈ lw_tbl := tb5 (List.mem_of_getElem? (i := 51) rfl)
theorem mlX10_45 : Cond.methodLink RX10 45 yX10_findInk ∈ lw_tbl := tb5 (List.mem_of_getElem? (i := 52) rfl)
theorem mlX10_48 : Cond.methodLink RX10 48 yX10_readRule ∈ lw_tbl := tb5 (List.mem_of_getElem? (i := 56) rfl)
theorem mlX10_52 : Cond.methodLink RX10 52 yX10_anotherFollows ∈ lw_tbl := tb5 (List.mem_of_getElem? (i := 185) rfl)
theorem mlX10_55 : Cond.methodLink RX10 55 yX10_takeSign ∈ lw_tbl := tb5 (List.mem_of_getElem? (i := 139) rfl)
theorem mlX10_59 : Cond.methodLink RX10 59 yX10_failHere ∈ lw_tbl := tb5 (List.mem_of_getElem? (i := 160) rfl)
theorem mlX10_64 : Cond.methodLink RX10 64 yX10_takeWord ∈ lw_tbl := tb5 (List.mem_of_getElem? (i := 61) rfl)
theorem mlX10_68 : Cond.methodLink RX10 68 yX10_readNumbered ∈ lw_tbl := tb5 (List.mem_of_getElem? (i := 113) rfl)
theorem mlX10_74 : Cond.methodLink RX10 74 yX10_either ∈ lw_tbl := tb5 (List.mem_of_getElem? (i := 126) rfl)
theorem mlX10_79 : Cond.methodLink RX10 79 yX10_readSpace ∈ lw_tbl := tb5 (List.mem_of_getElem? (i := 171) rfl)
theorem mlX10_90 : Cond.methodLink RX10 90 yX9_addRule ∈ lw_tbl := tb5 (List.mem_of_getElem? (i := 121) rfl)
theorem mlX10_96 : Cond.methodLink RX10 96 yX10_readClose ∈ lw_tbl := tb5 (List.mem_of_getElem? (i := 180) rfl)
theorem mlX10_99 : Cond.methodLink RX10 99 yX10_takeNumber ∈ lw_tbl := tb5 (List.mem_of_getElem? (i := 117) rfl)
theorem mlX10_103 : Cond.methodLink RX10 103 yX10_every ∈ lw_tbl := tb5 (List.mem_of_getElem? (i := 130) rfl)
theorem mlX10_108 : Cond.methodLink RX10 108 yX9_addCode ∈ lw_tbl := tb5 (List.mem_of_getElem? (i := 164) rfl)
theorem mlX10_112 : Cond.methodLink RX10 112 yX10_atom ∈ lw_tbl := tb5 (List.mem_of_getElem? (i := 134) rfl)
theorem mlX10_119 : Cond.methodLink RX10 119 yX10_takeFact ∈ lw_tbl := tb5 (List.mem_of_getElem? (i := 143) rfl)
theorem mlX10_123 : Cond.methodLink RX10 123 yX10_tagOrComparison ∈ lw_tbl := tb5 (List.mem_of_getElem? (i := 156) rfl)
theorem mlX10_144 : Cond.methodLink RX10 144 yJ0_length_8abf5 ∈ lw_tbl := tb5 (List.mem_of_getElem? (i := 65) rfl)
theorem mlX10_148 : Cond.methodLink RX10 148 yJ0_charAt_5068e ∈ lw_tbl := tb5 (List.mem_of_getElem? (i := 75) rfl)
theorem mlL_7 : Cond.methodLink RL 7 yX11_width ∈ lw_tbl := tb4 (List.mem_of_getElem? (i := 137) rfl)
theorem mlL_17 : Cond.methodLink RL 17 yX11_story ∈ lw_tbl := tb4 (List.mem_of_getElem? (i := 231) rfl)
theorem mlL_23 : Cond.methodLink RL 23 yX11_style ∈ lw_tbl := tb5 (List.mem_of_getElem? (i := 43) rfl)
theorem mlL_27 : Cond.methodLink RL 27 yX11_part ∈ lw_tbl := tb5 (List.mem_of_getElem? (i := 197) rfl)
theorem mlL_32 : Cond.methodLink RL 32 yX11_rule ∈ lw_tbl := tb6 (List.mem_of_getElem? (i := 17) rfl)
theorem mlL_36 : Cond.methodLink RL 36 yX11_best ∈ lw_tbl := tb6 (List.mem_of_getElem? (i := 25) rfl)
theorem mlL_39 : Cond.methodLink RL 39 yX11_ends ∈ lw_tbl := tb6 (List.mem_of_getElem? (i := 42) rfl)
theorem mlL_42 : Cond.methodLink RL 42 yX11_hand ∈ lw_tbl := tb6 (List.mem_of_getElem? (i := 54) rfl)
theorem mlL_46 : Cond.methodLink RL 46 yX11_machine ∈ lw_tbl := tb6 (List.mem_of_getElem? (i := 69) rfl)
theorem mlL_49 : Cond.methodLink RL 49 yX11_brass ∈ lw_tbl := tb6 (List.mem_of_getElem? (i := 87) rfl)
theorem mlL_52 : Cond.methodLink RL 52 yX11_broken ∈ lw_tbl := tb6 (List.mem_of_getElem? (i := 106) rfl)
theorem mlL_56 : Cond.methodLink RL 56 yX11_give ∈ lw_tbl := tb6 (List.mem_of_getElem? (i := 113) rfl)
theorem mlL_59 : Cond.methodLink RL 59 yX11_minutes ∈ lw_tbl := tb6 (List.mem_of_getElem? (i := 124) rfl)
theorem mlL_62 : Cond.methodLink RL 62 yX11_runs ∈ lw_tbl := tb6 (List.mem_of_getElem? (i := 187) rfl)
theorem mlL_65 : Cond.methodLink RL 65 yX11_slug ∈ lw_tbl := tb6 (List.mem_of_getElem? (i := 194) rfl)
theorem mlL_68 : Cond.methodLink RL 68 yX11_says ∈ lw_tbl := tb6 (List.mem_of_getElem? (i := 202) rfl)
theorem mlL_71 : Cond.methodLink RL 71 yX11_lies ∈ lw_tbl := tb6 (List.mem_of_getElem? (i := 210) rfl)
theorem mlL_76 : Cond.methodLink RL 76 yX11_judge ∈ lw_tbl := tb6 (List.mem_of_getElem? (i := 232) rfl)
theorem mlL_79 : Cond.methodLink RL 79 yX11_pie ∈ lw_tbl := tb7 (List.mem_of_getElem? (i := 3) rfl)
theorem mlL_83 : Cond.methodLink RL 83 yX11_change ∈ lw_tbl := tb7 (List.mem_of_getElem? (i := 11) rfl)
theorem mlL_87 : Cond.methodLink RL 87 yX11_again ∈ lw_tbl := tb7 (List.mem_of_getElem? (i := 19) rfl)
theorem mlL_90 : Cond.methodLink RL 90 yX11_correct ∈ lw_tbl := tb7 (List.mem_of_getElem? (i := 26) rfl)
theorem mlL_93 : Cond.methodLink RL 93 yX11_slip ∈ lw_tbl := tb7 (List.mem_of_getElem? (i := 82) rfl)
theorem mlL_97 : Cond.methodLink RL 97 yX11_read ∈ lw_tbl := tb7 (List.mem_of_getElem? (i := 98) rfl)
theorem mlL_100 : Cond.methodLink RL 100 yX11_proof ∈ lw_tbl := tb7 (List.mem_of_getElem? (i := 105) rfl)
theorem mlL_103 : Cond.methodLink RL 103 yX11_carry ∈ lw_tbl := tb7 (List.mem_of_getElem? (i := 121) rfl)
theorem mlL_106 : Cond.methodLink RL 106 yX11_where ∈ lw_tbl := tb7 (List.mem_of_getElem? (i := 132) rfl)
theorem mlL_109 : Cond.methodLink RL 109 yX11_page ∈ lw_tbl := tb7 (List.mem_of_getElem? (i := 143) rfl)
theorem mlL_112 : Cond.methodLink RL 112 yX11_fit ∈ lw_tbl := tb7 (List.mem_of_getElem? (i := 153) rfl)
theorem mlL_115 : Cond.methodLink RL 115 yX11_fits ∈ lw_tbl := tb7 (List.mem_of_getElem? (i := 197) rfl)
theorem mlL_119 : Cond.methodLink RL 119 yX11_lock ∈ lw_tbl := tb7 (List.mem_of_getElem? (i := 208) rfl)
theorem mlL_122 : Cond.methodLink RL 122 yX11_locked ∈ lw_tbl := tb8 (List.mem_of_getElem? (i := 0) rfl)
theorem mlL_125 : Cond.methodLink RL 125 yX11_stands ∈ lw_tbl := tb8 (List.mem_of_getElem? (i := 7) rfl)
theorem mlL_128 : Cond.methodLink RL 128 yX11_edition ∈ lw_tbl := tb8 (List.mem_of_getElem? (i := 22) rfl)
theorem mlL_132 : Cond.methodLink RL 132 yX11_changed ∈ lw_tbl := tb8 (List.mem_of_getElem? (i := 33) rfl)
theorem mlL_135 : Cond.methodLink RL 135 yX11_ahead ∈ lw_tbl := tb8 (List.mem_of_getElem? (i := 49) rfl)
theorem mlL_138 : Cond.methodLink RL 138 yX11_pay ∈ lw_tbl := tb8 (List.mem_of_getElem? (i := 60) rfl)
theorem mlL_141 : Cond.methodLink RL 141 yX11_row ∈ lw_tbl := tb8 (List.mem_of_getElem? (i := 80) rfl)
theorem mlL_144 : Cond.methodLink RL 144 yX11_tear ∈ lw_tbl := tb8 (List.mem_of_getElem? (i := 87) rfl)
theorem mlL_147 : Cond.methodLink RL 147 yX11_init ∈ lw_tbl := tb1 (List.mem_of_getElem? (i := 31) rfl)
theorem mlL_150 : Cond.methodLink RL 150 yX12_init ∈ lw_tbl := tb8 (List.mem_of_getElem? (i := 93) rfl)
theorem mlL_151 : Cond.methodLink RL 151 yX11_feed ∈ lw_tbl := tb3 (List.mem_of_getElem? (i := 0) rfl)
theorem mlL_155 : Cond.methodLink RL 155 yX12_feed ∈ lw_tbl := tb9 (List.mem_of_getElem? (i := 38) rfl)
theorem mlL_156 : Cond.methodLink RL 156 yX11_end ∈ lw_tbl := tb3 (List.mem_of_getElem? (i := 8) rfl)
theorem mlL_159 : Cond.methodLink RL 159 yX12_end ∈ lw_tbl := tb9 (List.mem_of_getElem? (i := 46) rfl)
theorem mlL_160 : Cond.methodLink RL 160 yL_width ∈ lw_tbl := tb4 (List.mem_of_getElem? (i := 132) rfl)
theorem mlL_165 : Cond.methodLink RL 165 yX12_width ∈ lw_tbl := tb9 (List.mem_of_getElem? (i := 83) rfl)
theorem mlL_166 : Cond.methodLink RL 166 yX12_thrown ∈ lw_tbl := tb9 (List.mem_of_getElem? (i := 34) rfl)
theorem mlL_169 : Cond.methodLink RL 169 yL_story ∈ lw_tbl := tb4 (List.mem_of_getElem? (i := 227) rfl)
theorem mlL_172 : Cond.methodLink RL 172 yX12_story ∈ lw_tbl := tb9 (List.mem_of_getElem? (i := 54) rfl)
theorem mlL_173 : Cond.methodLink RL 173 yL_style ∈ lw_tbl := tb5 (List.mem_of_getElem? (i := 40) rfl)
theorem mlL_176 : Cond.methodLink RL 176 yX12_style ∈ lw_tbl := tb9 (List.mem_of_getElem? (i := 87) rfl)
theorem mlL_177 : Cond.methodLink RL 177 yX11_fault ∈ lw_tbl := tb3 (List.mem_of_getElem? (i := 12) rfl)
theorem mlL_180 : Cond.methodLink RL 180 yX12_fault ∈ lw_tbl := tb9 (List.mem_of_getElem? (i := 50) rfl)
theorem mlL_181 : Cond.methodLink RL 181 yL_part ∈ lw_tbl := tb5 (List.mem_of_getElem? (i := 193) rfl)
theorem mlL_183 : Cond.methodLink RL 183 yX12_part ∈ lw_tbl := tb9 (List.mem_of_getElem? (i := 199) rfl)
theorem mlL_184 : Cond.methodLink RL 184 yL_rule ∈ lw_tbl := tb6 (List.mem_of_getElem? (i := 14) rfl)
theorem mlL_187 : Cond.methodLink RL 187 yX12_rule ∈ lw_tbl := tb9 (List.mem_of_getElem? (i := 167) rfl)
theorem mlL_188 : Cond.methodLink RL 188 yL_best ∈ lw_tbl := tb6 (List.mem_of_getElem? (i := 22) rfl)
theorem mlL_190 : Cond.methodLink RL 190 yX12_best ∈ lw_tbl := tb9 (List.mem_of_getElem? (i := 223) rfl)
theorem mlL_191 : Cond.methodLink RL 191 yL_ends ∈ lw_tbl := tb6 (List.mem_of_getElem? (i := 39) rfl)
theorem mlL_193 : Cond.methodLink RL 193 yX12_ends ∈ lw_tbl := tb10 (List.mem_of_getElem? (i := 19) rfl)
theorem mlL_194 : Cond.methodLink RL 194 yL_hand ∈ lw_tbl := tb6 (List.mem_of_getElem? (i := 51) rfl)
theorem mlL_197 : Cond.methodLink RL 197 yX12_hand ∈ lw_tbl := tb10 (List.mem_of_getElem? (i := 23) rfl)
theorem mlL_198 : Cond.methodLink RL 198 yL_machine ∈ lw_tbl := tb6 (List.mem_of_getElem? (i := 66) rfl)
theorem mlL_200 : Cond.methodLink RL 200 yX12_machine ∈ lw_tbl := tb10 (List.mem_of_getElem? (i := 27) rfl)
theorem mlL_201 : Cond.methodLink RL 201 yL_brass ∈ lw_tbl := tb6 (List.mem_of_getElem? (i := 84) rfl)
theorem mlL_203 : Cond.methodLink RL 203 yX12_brass ∈ lw_tbl := tb10 (List.mem_of_getElem? (i := 35) rfl)
theorem mlL_204 : Cond.methodLink RL 204 yL_broken ∈ lw_tbl := tb6 (List.mem_of_getElem? (i := 103) rfl)
theorem mlL_206 : Cond.methodLink RL 206 yX12_broken ∈ lw_tbl := tb10 (List.mem_of_getElem? (i := 47) rfl)
theorem mlL_207 : Cond.methodLink RL 207 yL_give ∈ lw_tbl := tb6 (List.mem_of_getElem? (i := 110) rfl)
theorem mlL_209 : Cond.methodLink RL 209 yX12_give ∈ lw_tbl := tb10 (List.mem_of_getElem? (i := 51) rfl)
theorem mlL_210 : Cond.methodLink RL 210 yL_minutes ∈ lw_tbl := tb6 (List.mem_of_getElem? (i := 121) rfl)
theorem mlL_212 : Cond.methodLink RL 212 yX12_minutes ∈ lw_tbl := tb10 (List.mem_of_getElem? (i := 59) rfl)
theorem mlL_213 : Cond.methodLink RL 213 yL_runs ∈ lw_tbl := tb6 (List.mem_of_getElem? (i := 184) rfl)
theorem mlL_215 : Cond.methodLink RL 215 yX12_runs ∈ lw_tbl := tb10 (List.mem_of_getElem? (i := 92) rfl)
theorem mlL_216 : Cond.methodLink RL 216 yL_slug ∈ lw_tbl := tb6 (List.mem_of_getElem? (i := 191) rfl)
theorem mlL_218 : Cond.methodLink RL 218 yX12_slug ∈ lw_tbl := tb10 (List.mem_of_getElem? (i := 96) rfl)
theorem mlL_219 : Cond.methodLink RL 219 yL_says ∈ lw_tbl := tb6 (List.mem_of_getElem? (i := 199) rfl)
theorem mlL_221 : Cond.methodLink RL 221 yX12_says ∈ lw_tbl := tb10 (List.mem_of_getElem? (i := 108) rfl)
theorem mlL_222 : Cond.methodLink RL 222 yL_lies ∈ lw_tbl := tb6 (List.mem_of_getElem? (i := 206) rfl)
theorem mlL_224 : Cond.methodLink RL 224 yX12_lies ∈ lw_tbl := tb10 (List.mem_of_getElem? (i := 112) rfl)
theorem mlL_225 : Cond.methodLink RL 225 yL_judge ∈ lw_tbl := tb6 (List.mem_of_getElem? (i := 229) rfl)
theorem mlL_227 : Cond.methodLink RL 227 yX12_judge ∈ lw_tbl := tb10 (List.mem_of_getElem? (i := 120) rfl)
theorem mlL_228 : Cond.methodLink RL 228 yL_pie ∈ lw_tbl := tb7 (List.mem_of_getElem? (i := 0) rfl)
theorem mlL_230 : Cond.methodLink RL 230 yX12_pie ∈ lw_tbl := tb10 (List.mem_of_getElem? (i := 124) rfl)
theorem mlL_231 : Cond.methodLink RL 231 yL_change ∈ lw_tbl := tb7 (List.mem_of_getElem? (i := 8) rfl)
theorem mlL_233 : Cond.methodLink RL 233 yX12_change ∈ lw_tbl := tb10 (List.mem_of_getElem? (i := 128) rfl)
theorem mlL_234 : Cond.methodLink RL 234 yL_again ∈ lw_tbl := tb7 (List.mem_of_getElem? (i := 16) rfl)
theorem mlL_236 : Cond.methodLink RL 236 yX12_again ∈ lw_tbl := tb10 (List.mem_of_getElem? (i := 132) rfl)
theorem mlL_237 : Cond.methodLink RL 237 yL_correct ∈ lw_tbl := tb7 (List.mem_of_getElem? (i := 23) rfl)
theorem mlL_239 : Cond.methodLink RL 239 yX12_correct ∈ lw_tbl := tb10 (List.mem_of_getElem? (i := 140) rfl)
theorem mlL_240 : Cond.methodLink RL 240 yL_slip ∈ lw_tbl := tb7 (List.mem_of_getElem? (i := 79) rfl)
theorem mlL_242 : Cond.methodLink RL 242 yX12_slip ∈ lw_tbl := tb10 (List.mem_of_getElem? (i := 136) rfl)
theorem mlL_243 : Cond.methodLink RL 243 yL_read ∈ lw_tbl := tb7 (List.mem_of_getElem? (i := 95) rfl)
theorem mlL_245 : Cond.methodLink RL 245 yX12_read ∈ lw_tbl := tb10 (List.mem_of_getElem? (i := 160) rfl)
theorem mlL_246 : Cond.methodLink RL 246 yL_proof ∈ lw_tbl := tb7 (List.mem_of_getElem? (i := 102) rfl)
theorem mlL_248 : Cond.methodLink RL 248 yX12_proof ∈ lw_tbl := tb10 (List.mem_of_getElem? (i := 164) rfl)
theorem mlL_249 : Cond.methodLink RL 249 yL_carry ∈ lw_tbl := tb7 (List.mem_of_getElem? (i := 118) rfl)
theorem mlL_251 : Cond.methodLink RL 251 yX12_carry ∈ lw_tbl := tb10 (List.mem_of_getElem? (i := 168) rfl)
theorem mlL_252 : Cond.methodLink RL 252 yL_where ∈ lw_tbl := tb7 (List.mem_of_getElem? (i := 129) rfl)
theorem mlL_254 : Cond.methodLink RL 254 yX12_where ∈ lw_tbl := tb10 (List.mem_of_getElem? (i := 173) rfl)
theorem mlL_255 : Cond.methodLink RL 255 yL_page ∈ lw_tbl := tb7 (List.mem_of_getElem? (i := 140) rfl)
theorem mlL_257 : Cond.methodLink RL 257 yX12_page ∈ lw_tbl := tb10 (List.mem_of_getElem? (i := 177) rfl)
theorem mlL_258 : Cond.methodLink RL 258 yL_fit ∈ lw_tbl := tb7 (List.mem_of_getElem? (i := 150) rfl)
theorem mlL_260 : Cond.methodLink RL 260 yX12_fit ∈ lw_tbl := tb10 (List.mem_of_getElem? (i := 184) rfl)
theorem mlL_261 : Cond.methodLink RL 261 yL_fits ∈ lw_tbl := tb7 (List.mem_of_getElem? (i := 194) rfl)
theorem mlL_264 : Cond.methodLink RL 264 yX12_fits ∈ lw_tbl := tb10 (List.mem_of_getElem? (i := 208) rfl)
theorem mlL_265 : Cond.methodLink RL 265 yL_lock ∈ lw_tbl := tb7 (List.mem_of_getElem? (i := 205) rfl)
theorem mlL_267 : Cond.methodLink RL 267 yX12_lock ∈ lw_tbl := tb10 (List.mem_of_getElem? (i := 212) rfl)
theorem mlL_268 : Cond.methodLink RL 268 yL_locked ∈ lw_tbl := tb7 (List.mem_of_getElem? (i := 237) rfl)
theorem mlL_270 : Cond.methodLink RL 270 yX12_locked ∈ lw_tbl := tb10 (List.mem_of_getElem? (i := 216) rfl)
theorem mlL_271 : Cond.methodLink RL 271 yL_stands ∈ lw_tbl := tb8 (List.mem_of_getElem? (i := 4) rfl)
theorem mlL_273 : Cond.methodLink RL 273 yX12_stands ∈ lw_tbl := tb10 (List.mem_of_getElem? (i := 220) rfl)
theorem mlL_274 : Cond.methodLink RL 274 yL_edition ∈ lw_tbl := tb8 (List.mem_of_getElem? (i := 19) rfl)
theorem mlL_277 : Cond.methodLink RL 277 yX12_edition ∈ lw_tbl := tb11 (List.mem_of_getElem? (i := 1) rfl)
theorem mlL_278 : Cond.methodLink RL 278 yL_changed ∈ lw_tbl := tb8 (List.mem_of_getElem? (i := 30) rfl)
theorem mlL_280 : Cond.methodLink RL 280 yX12_changed ∈ lw_tbl := tb11 (List.mem_of_getElem? (i := 5) rfl)
theorem mlL_281 : Cond.methodLink RL 281 yX11_least ∈ lw_tbl := tb3 (List.mem_of_getElem? (i := 16) rfl)
theorem mlL_284 : Cond.methodLink RL 284 yX12_least ∈ lw_tbl := tb11 (List.mem_of_getElem? (i := 9) rfl)
theorem mlL_285 : Cond.methodLink RL 285 yL_ahead ∈ lw_tbl := tb8 (List.mem_of_getElem? (i := 46) rfl)
theorem mlL_287 : Cond.methodLink RL 287 yX12_ahead ∈ lw_tbl := tb11 (List.mem_of_getElem? (i := 21) rfl)
theorem mlL_288 : Cond.methodLink RL 288 yL_pay ∈ lw_tbl := tb8 (List.mem_of_getElem? (i := 57) rfl)
theorem mlL_290 : Cond.methodLink RL 290 yX12_pay ∈ lw_tbl := tb11 (List.mem_of_getElem? (i := 30) rfl)
theorem mlL_291 : Cond.methodLink RL 291 yL_row ∈ lw_tbl := tb8 (List.mem_of_getElem? (i := 77) rfl)
theorem mlL_293 : Cond.methodLink RL 293 yX12_row ∈ lw_tbl := tb11 (List.mem_of_getElem? (i := 35) rfl)
theorem mlL_294 : Cond.methodLink RL 294 yL_tear ∈ lw_tbl := tb8 (List.mem_of_getElem? (i := 84) rfl)
theorem mlL_296 : Cond.methodLink RL 296 yX12_tear ∈ lw_tbl := tb11 (List.mem_of_getElem? (i := 43) rfl)
theorem mlL_297 : Cond.methodLink RL 297 yX11_check ∈ lw_tbl := tb3 (List.mem_of_getElem? (i := 117) rfl)
theorem mlL_300 : Cond.methodLink RL 300 yX12_check ∈ lw_tbl := tb11 (List.mem_of_getElem? (i := 47) rfl)
theorem mlL_301 : Cond.methodLink RL 301 yX11_image ∈ lw_tbl := tb3 (List.mem_of_getElem? (i := 131) rfl)
theorem mlL_304 : Cond.methodLink RL 304 yX12_image ∈ lw_tbl := tb11 (List.mem_of_getElem? (i := 51) rfl)
theorem mlL_305 : Cond.methodLink RL 305 yX11_back ∈ lw_tbl := tb4 (List.mem_of_getElem? (i := 104) rfl)
theorem mlL_309 : Cond.methodLink RL 309 yX12_back ∈ lw_tbl := tb11 (List.mem_of_getElem? (i := 55) rfl)
theorem mlL_310 : Cond.methodLink RL 310 yX11_count ∈ lw_tbl := tb4 (List.mem_of_getElem? (i := 108) rfl)
theorem mlL_313 : Cond.methodLink RL 313 yX12_count ∈ lw_tbl := tb11 (List.mem_of_getElem? (i := 59) rfl)
theorem mlX12_1 : Cond.methodLink RX12 1 Lib.objectInit ∈ lw_tbl := tb8 (List.mem_of_getElem? (i := 96) rfl)
theorem mlX12_130 : Cond.methodLink RX12 130 yX12_byteCame ∈ lw_tbl := tb9 (List.mem_of_getElem? (i := 42) rfl)
theorem mlX12_143 : Cond.methodLink RX12 143 yX12_isLetter ∈ lw_tbl := tb9 (List.mem_of_getElem? (i := 73) rfl)
theorem mlX12_147 : Cond.methodLink RX12 147 yX12_blanks ∈ lw_tbl := tb9 (List.mem_of_getElem? (i := 69) rfl)
theorem mlX12_150 : Cond.methodLink RX12 150 yX12_readWord ∈ lw_tbl := tb9 (List.mem_of_getElem? (i := 76) rfl)
theorem mlX12_154 : Cond.methodLink RX12 154 yX12_use ∈ lw_tbl := tb9 (List.mem_of_getElem? (i := 58) rfl)
theorem mlX12_157 : Cond.methodLink RX12 157 yX12_isIn ∈ lw_tbl := tb9 (List.mem_of_getElem? (i := 62) rfl)
theorem mlX12_160 : Cond.methodLink RX12 160 yX12_readStory ∈ lw_tbl := tb9 (List.mem_of_getElem? (i := 65) rfl)
theorem mlX12_164 : Cond.methodLink RX12 164 yX12_part0 ∈ lw_tbl := tb9 (List.mem_of_getElem? (i := 80) rfl)
theorem mlX12_168 : Cond.methodLink RX12 168 yX12_wordEnd ∈ lw_tbl := tb9 (List.mem_of_getElem? (i := 108) rfl)
theorem mlX12_172 : Cond.methodLink RX12 172 yJ0_length_8abf5 ∈ lw_tbl := tb9 (List.mem_of_getElem? (i := 112) rfl)
theorem mlX12_177 : Cond.methodLink RX12 177 yJ0_charAt_5068e ∈ lw_tbl := tb9 (List.mem_of_getElem? (i := 113) rfl)
theorem mlX12_189 : Cond.methodLink RX12 189 yX12_takes ∈ lw_tbl := tb9 (List.mem_of_getElem? (i := 104) rfl)
theorem mlX12_214 : Cond.methodLink RX12 214 yX12_readAtom ∈ lw_tbl := tb9 (List.mem_of_getElem? (i := 133) rfl)
theorem mlX12_217 : Cond.methodLink RX12 217 yX12_readAny ∈ lw_tbl := tb9 (List.mem_of_getElem? (i := 125) rfl)
theorem mlX12_220 : Cond.methodLink RX12 220 yX12_act ∈ lw_tbl := tb9 (List.mem_of_getElem? (i := 138) rfl)
theorem mlX12_223 : Cond.methodLink RX12 223 yX12_fails ∈ lw_tbl := tb9 (List.mem_of_getElem? (i := 95) rfl)
theorem mlX12_226 : Cond.methodLink RX12 226 yX12_tagHere ∈ lw_tbl := tb9 (List.mem_of_getElem? (i := 142) rfl)
theorem mlX12_229 : Cond.methodLink RX12 229 yX12_factHere ∈ lw_tbl := tb9 (List.mem_of_getElem? (i := 149) rfl)
theorem mlX12_232 : Cond.methodLink RX12 232 yX12_readNumber ∈ lw_tbl := tb9 (List.mem_of_getElem? (i := 159) rfl)
theorem mlX12_238 : Cond.methodLink RX12 238 yX12_readAll ∈ lw_tbl := tb9 (List.mem_of_getElem? (i := 129) rfl)
theorem mlX12_262 : Cond.methodLink RX12 262 yX12_readIf ∈ lw_tbl := tb9 (List.mem_of_getElem? (i := 120) rfl)
theorem mlX12_267 : Cond.methodLink RX12 267 yX12_readRule ∈ lw_tbl := tb9 (List.mem_of_getElem? (i := 99) rfl)
theorem mlX12_270 : Cond.methodLink RX12 270 yX12_readStyle ∈ lw_tbl := tb9 (List.mem_of_getElem? (i := 91) rfl)
theorem mlX12_277 : Cond.methodLink RX12 277 yX12_holds ∈ lw_tbl := tb9 (List.mem_of_getElem? (i := 191) rfl)
theorem mlX12_280 : Cond.methodLink RX12 280 yX12_factsOf ∈ lw_tbl := tb9 (List.mem_of_getElem? (i := 179) rfl)
theorem mlX12_284 : Cond.methodLink RX12 284 yX12_styleOf ∈ lw_tbl := tb9 (List.mem_of_getElem? (i := 183) rfl)
theorem mlX12_287 : Cond.methodLink RX12 287 yX12_lastRule ∈ lw_tbl := tb9 (List.mem_of_getElem? (i := 187) rfl)
theorem mlX12_294 : Cond.methodLink RX12 294 yX12_said ∈ lw_tbl := tb9 (List.mem_of_getElem? (i := 195) rfl)
theorem mlX12_311 : Cond.methodLink RX12 311 yX12_isPart ∈ lw_tbl := tb9 (List.mem_of_getElem? (i := 171) rfl)
theorem mlX12_314 : Cond.methodLink RX12 314 yX12_tells ∈ lw_tbl := tb9 (List.mem_of_getElem? (i := 175) rfl)
theorem mlX12_317 : Cond.methodLink RX12 317 yX12_endsWord ∈ lw_tbl := tb9 (List.mem_of_getElem? (i := 219) rfl)
theorem mlX12_320 : Cond.methodLink RX12 320 yX12_wide ∈ lw_tbl := tb9 (List.mem_of_getElem? (i := 239) rfl)
theorem mlX12_324 : Cond.methodLink RX12 324 yX12_gapsOf ∈ lw_tbl := tb10 (List.mem_of_getElem? (i := 3) rfl)
theorem mlX12_327 : Cond.methodLink RX12 327 yX12_tight ∈ lw_tbl := tb9 (List.mem_of_getElem? (i := 235) rfl)
theorem mlX12_330 : Cond.methodLink RX12 330 yX12_isLast ∈ lw_tbl := tb10 (List.mem_of_getElem? (i := 7) rfl)
theorem mlX12_333 : Cond.methodLink RX12 333 yX12_isStanding ∈ lw_tbl := tb9 (List.mem_of_getElem? (i := 231) rfl)
theorem mlX12_336 : Cond.methodLink RX12 336 yX12_badness ∈ lw_tbl := tb10 (List.mem_of_getElem? (i := 11) rfl)
theorem mlX12_339 : Cond.methodLink RX12 339 yX12_isRight ∈ lw_tbl := tb9 (List.mem_of_getElem? (i := 203) rfl)
theorem mlX12_342 : Cond.methodLink RX12 342 yX12_slug0 ∈ lw_tbl := tb9 (List.mem_of_getElem? (i := 207) rfl)
theorem mlX12_345 : Cond.methodLink RX12 345 yX12_work ∈ lw_tbl := tb9 (List.mem_of_getElem? (i := 227) rfl)
theorem mlX12_348 : Cond.methodLink RX12 348 yX12_reach ∈ lw_tbl := tb10 (List.mem_of_getElem? (i := 15) rfl)
theorem mlX12_354 : Cond.methodLink RX12 354 yX12_begins ∈ lw_tbl := tb9 (List.mem_of_getElem? (i := 215) rfl)
theorem mlX12_357 : Cond.methodLink RX12 357 yX12_write ∈ lw_tbl := tb9 (List.mem_of_getElem? (i := 211) rfl)
theorem mlX12_360 : Cond.methodLink RX12 360 yX12_machine0 ∈ lw_tbl := tb10 (List.mem_of_getElem? (i := 31) rfl)
theorem mlX12_363 : Cond.methodLink RX12 363 yX12_isMachine ∈ lw_tbl := tb10 (List.mem_of_getElem? (i := 39) rfl)
theorem mlX12_366 : Cond.methodLink RX12 366 yX12_there ∈ lw_tbl := tb10 (List.mem_of_getElem? (i := 43) rfl)
theorem mlX12_369 : Cond.methodLink RX12 369 yX12_queues ∈ lw_tbl := tb10 (List.mem_of_getElem? (i := 55) rfl)
theorem mlX12_373 : Cond.methodLink RX12 373 yX12_away ∈ lw_tbl := tb10 (List.mem_of_getElem? (i := 76) rfl)
theorem mlX12_376 : Cond.methodLink RX12 376 yX12_spikes ∈ lw_tbl := tb10 (List.mem_of_getElem? (i := 72) rfl)
theorem mlX12_379 : Cond.methodLink RX12 379 yX12_casts ∈ lw_tbl := tb10 (List.mem_of_getElem? (i := 80) rfl)
theorem mlX12_383 : Cond.methodLink RX12 383 yX12_pots ∈ lw_tbl := tb10 (List.mem_of_getElem? (i := 84) rfl)
theorem mlX12_386 : Cond.methodLink RX12 386 yX12_puts ∈ lw_tbl := tb10 (List.mem_of_getElem? (i := 88) rfl)
theorem mlX12_391 : Cond.methodLink RX12 391 yX12_runsOn ∈ lw_tbl := tb10 (List.mem_of_getElem? (i := 68) rfl)
theorem mlX12_394 : Cond.methodLink RX12 394 yX12_minute ∈ lw_tbl := tb10 (List.mem_of_getElem? (i := 63) rfl)
theorem mlX12_396 : Cond.methodLink RX12 396 yX12_isSlug ∈ lw_tbl := tb10 (List.mem_of_getElem? (i := 100) rfl)
theorem mlX12_399 : Cond.methodLink RX12 399 yX12_isWrong ∈ lw_tbl := tb10 (List.mem_of_getElem? (i := 104) rfl)
theorem mlX12_402 : Cond.methodLink RX12 402 yX12_noPlace ∈ lw_tbl := tb10 (List.mem_of_getElem? (i := 116) rfl)
theorem mlX12_405 : Cond.methodLink RX12 405 yX12_readOne ∈ lw_tbl := tb10 (List.mem_of_getElem? (i := 144) rfl)
theorem mlX12_408 : Cond.methodLink RX12 408 yX12_hasJob ∈ lw_tbl := tb10 (List.mem_of_getElem? (i := 148) rfl)
theorem mlX12_411 : Cond.methodLink RX12 411 yX12_changes ∈ lw_tbl := tb10 (List.mem_of_getElem? (i := 152) rfl)
theorem mlX12_414 : Cond.methodLink RX12 414 yX12_isSame ∈ lw_tbl := tb10 (List.mem_of_getElem? (i := 156) rfl)
theorem mlX12_418 : Cond.methodLink RX12 418 yX12_isPage ∈ lw_tbl := tb10 (List.mem_of_getElem? (i := 181) rfl)
theorem mlX12_427 : Cond.methodLink RX12 427 yX12_columns ∈ lw_tbl := tb10 (List.mem_of_getElem? (i := 196) rfl)
theorem mlX12_430 : Cond.methodLink RX12 430 yX12_keeps ∈ lw_tbl := tb10 (List.mem_of_getElem? (i := 200) rfl)
theorem mlX12_433 : Cond.methodLink RX12 433 yX12_linesOf ∈ lw_tbl := tb10 (List.mem_of_getElem? (i := 204) rfl)
theorem mlX12_436 : Cond.methodLink RX12 436 yX12_notFit ∈ lw_tbl := tb10 (List.mem_of_getElem? (i := 188) rfl)
theorem mlX12_439 : Cond.methodLink RX12 439 yX12_fitting ∈ lw_tbl := tb10 (List.mem_of_getElem? (i := 192) rfl)
theorem mlX12_443 : Cond.methodLink RX12 443 yX12_many0 ∈ lw_tbl := tb10 (List.mem_of_getElem? (i := 232) rfl)
theorem mlX12_446 : Cond.methodLink RX12 446 yX12_isEdition ∈ lw_tbl := tb10 (List.mem_of_getElem? (i := 224) rfl)
theorem mlX12_449 : Cond.methodLink RX12 449 yX12_slugsOn ∈ lw_tbl := tb10 (List.mem_of_getElem? (i := 228) rfl)
theorem mlX12_452 : Cond.methodLink RX12 452 yX12_slugOn ∈ lw_tbl := tb10 (List.mem_of_getElem? (i := 237) rfl)
theorem mlX12_458 : Cond.methodLink RX12 458 yX12_queueLines ∈ lw_tbl := tb11 (List.mem_of_getElem? (i := 13) rfl)
theorem mlX12_464 : Cond.methodLink RX12 464 yX12_place ∈ lw_tbl := tb11 (List.mem_of_getElem? (i := 17) rfl)
theorem mlX12_467 : Cond.methodLink RX12 467 arraycopyName ∈ lw_tbl := tb11 (List.mem_of_getElem? (i := 25) rfl)
theorem mlX12_473 : Cond.methodLink RX12 473 yX12_jobs ∈ lw_tbl := tb11 (List.mem_of_getElem? (i := 26) rfl)
theorem mlX12_476 : Cond.methodLink RX12 476 yJ9_max_7cf53 ∈ lw_tbl := tb11 (List.mem_of_getElem? (i := 34) rfl)
theorem mlX12_481 : Cond.methodLink RX12 481 yX12_isRow ∈ lw_tbl := tb11 (List.mem_of_getElem? (i := 39) rfl)
theorem mlJ0_335 : Cond.methodLink RJ0 335 yJ0_coder_7d493 ∈ lw_tbl := tb5 (List.mem_of_getElem? (i := 69) rfl)
theorem mlJ0_492 : Cond.methodLink RJ0 492 yJ0_isLatin1_aae02 ∈ lw_tbl := tb5 (List.mem_of_getElem? (i := 79) rfl)
theorem mlJ0_495 : Cond.methodLink RJ0 495 yJ1_charAt_3b067 ∈ lw_tbl := tb5 (List.mem_of_getElem? (i := 83) rfl)
theorem mlJ0_498 : Cond.methodLink RJ0 498 yJ2_charAt_3b067 ∈ lw_tbl := tb5 (List.mem_of_getElem? (i := 94) rfl)
theorem mlJ0_1059 : Cond.methodLink RJ0 1059 yJ3_checkIndex_8e157 ∈ lw_tbl := tb5 (List.mem_of_getElem? (i := 91) rfl)
theorem mlJ1_9 : Cond.methodLink RJ1 9 yJ0_checkIndex_df160 ∈ lw_tbl := tb5 (List.mem_of_getElem? (i := 86) rfl)
theorem mlJ2_48 : Cond.methodLink RJ2 48 yJ2_length_9d52b ∈ lw_tbl := tb5 (List.mem_of_getElem? (i := 100) rfl)
theorem mlJ2_67 : Cond.methodLink RJ2 67 yJ2_checkIndex_2214a ∈ lw_tbl := tb5 (List.mem_of_getElem? (i := 97) rfl)
theorem mlJ2_71 : Cond.methodLink RJ2 71 yJ2_getChar_3b067 ∈ lw_tbl := tb5 (List.mem_of_getElem? (i := 104) rfl)
theorem mlJ2_414 : Cond.methodLink RJ2 414 yJ0_checkIndex_df160 ∈ lw_tbl := tb5 (List.mem_of_getElem? (i := 103) rfl)
theorem mlX11_31 : Cond.methodLinkNest RX11 31 yX5_init "LeadRoom" ∈ lw_tbl := tb1 (List.mem_of_getElem? (i := 109) rfl)
theorem mlX11_52 : Cond.methodLinkNest RX11 52 yX3_init "LeadRoom" ∈ lw_tbl := tb2 (List.mem_of_getElem? (i := 138) rfl)
theorem mlX11_59 : Cond.methodLinkNest RX11 59 yX6_init "LeadRoom" ∈ lw_tbl := tb2 (List.mem_of_getElem? (i := 183) rfl)
theorem mlX4_54 : Cond.methodLinkNest RX4 54 yX11_copyFlags "LeadRoom" ∈ lw_tbl := tb3 (List.mem_of_getElem? (i := 213) rfl)
theorem mlX5_65 : Cond.methodLinkNest RX5 65 yX11_copyFlags "LeadRoom" ∈ lw_tbl := tb4 (List.mem_of_getElem? (i := 86) rfl)
theorem mlX7_28 : Cond.methodLinkNest RX7 28 yX9_init "LeadRoom" ∈ lw_tbl := tb1 (List.mem_of_getElem? (i := 187) rfl)
theorem mlX7_71 : Cond.methodLinkNest RX7 71 yX0_init "LeadRoom" ∈ lw_tbl := tb1 (List.mem_of_getElem? (i := 196) rfl)
theorem mlX7_130 : Cond.methodLinkNest RX7 130 yX5_init "LeadRoom" ∈ lw_tbl := tb4 (List.mem_of_getElem? (i := 76) rfl)
theorem mlX7_131 : Cond.methodLinkNest RX7 131 yX4_init "LeadRoom" ∈ lw_tbl := tb3 (List.mem_of_getElem? (i := 152) rfl)
theorem mlX7_132 : Cond.methodLinkNest RX7 132 yX8_init "LeadRoom" ∈ lw_tbl := tb3 (List.mem_of_getElem? (i := 221) rfl)
theorem mlX10_27 : Cond.methodLinkNest RX10 27 yX9_init "LeadRoom" ∈ lw_tbl := tb1 (List.mem_of_getElem? (i := 45) rfl)
theorem clX11_20 : Cond.classLink RX11 20 "LeadRoom$StyleReader" ∈ lw_tbl := tb1 (List.mem_of_getElem? (i := 37) rfl)
theorem clX11_29 : Cond.classLink RX11 29 "LeadRoom$Part" ∈ lw_tbl := tb1 (List.mem_of_getElem? (i := 107) rfl)
theorem clX11_36 : Cond.classLink RX11 36 "LeadRoom$Room" ∈ lw_tbl := tb1 (List.mem_of_getElem? (i := 179) rfl)
theorem clX11_43 : Cond.classLink RX11 43 "LeadRoom$Desk" ∈ lw_tbl := tb2 (List.mem_of_getElem? (i := 84) rfl)
theorem clX11_50 : Cond.classLink RX11 50 "LeadRoom$Fitter" ∈ lw_tbl := tb2 (List.mem_of_getElem? (i := 136) rfl)
theorem clX11_57 : Cond.classLink RX11 57 "LeadRoom$Planner" ∈ lw_tbl := tb2 (List.mem_of_getElem? (i := 181) rfl)
theorem clX11_84 : Cond.classLink RX11 84 "java/lang/IndexOutOfBoundsException" ∈ lw_tbl := tb4 (List.mem_of_getElem? (i := 147) rfl)
theorem clX11_87 : Cond.classLink RX11 87 "java/lang/IllegalArgumentException" ∈ lw_tbl := tb4 (List.mem_of_getElem? (i := 212) rfl)
theorem clX11_110 : Cond.classLink RX11 110 "java/lang/UnsupportedOperationException" ∈ lw_tbl := tb5 (List.mem_of_getElem? (i := 8) rfl)
theorem clX11_172 : Cond.classLink RX11 172 "java/util/NoSuchElementException" ∈ lw_tbl := tb5 (List.mem_of_getElem? (i := 239) rfl)
theorem clX11_322 : Cond.classLink RX11 322 "java/lang/IllegalStateException" ∈ lw_tbl := tb6 (List.mem_of_getElem? (i := 214) rfl)
theorem clX2_24 : Cond.classLink RX2 24 "[I" ∈ lw_tbl := tb2 (List.mem_of_getElem? (i := 90) rfl)
theorem clX7_19 : Cond.classLink RX7 19 "LeadRoom$Style" ∈ lw_tbl := tb1 (List.mem_of_getElem? (i := 185) rfl)
theorem clX7_33 : Cond.classLink RX7 33 "LeadRoom$Part" ∈ lw_tbl := tb1 (List.mem_of_getElem? (i := 188) rfl)
theorem clX7_45 : Cond.classLink RX7 45 "LeadRoom$Machine" ∈ lw_tbl := tb1 (List.mem_of_getElem? (i := 190) rfl)
theorem clX7_54 : Cond.classLink RX7 54 "LeadRoom$Slug" ∈ lw_tbl := tb1 (List.mem_of_getElem? (i := 192) rfl)
theorem clX7_69 : Cond.classLink RX7 69 "LeadRoom$Breaker" ∈ lw_tbl := tb1 (List.mem_of_getElem? (i := 194) rfl)
theorem clX10_25 : Cond.classLink RX10 25 "LeadRoom$Style" ∈ lw_tbl := tb1 (List.mem_of_getElem? (i := 43) rfl)
theorem clL_8 : Cond.classLink RL 8 "LeadRoom" ∈ lw_tbl := tb1 (List.mem_of_getElem? (i := 29) rfl)
theorem clL_13 : Cond.classLink RL 13 "java/lang/IndexOutOfBoundsException" ∈ lw_tbl := tb4 (List.mem_of_getElem? (i := 135) rfl)
theorem clL_15 : Cond.classLink RL 15 "java/lang/IllegalArgumentException" ∈ lw_tbl := tb4 (List.mem_of_getElem? (i := 136) rfl)
theorem clL_21 : Cond.classLink RL 21 "java/lang/UnsupportedOperationException" ∈ lw_tbl := tb4 (List.mem_of_getElem? (i := 230) rfl)
theorem clL_30 : Cond.classLink RL 30 "java/util/NoSuchElementException" ∈ lw_tbl := tb5 (List.mem_of_getElem? (i := 196) rfl)
theorem clL_74 : Cond.classLink RL 74 "java/lang/IllegalStateException" ∈ lw_tbl := tb6 (List.mem_of_getElem? (i := 209) rfl)
theorem clL_148 : Cond.classLink RL 148 "LeadRoomModel" ∈ lw_tbl := tb8 (List.mem_of_getElem? (i := 91) rfl)
theorem coX6_32 : Cond.constant RX6 32 (1000000000 : Int32) ∈ lw_tbl := tb3 (List.mem_of_getElem? (i := 90) rfl)
theorem coX12_7 : Cond.constant RX12 7 (337220 : Int32) ∈ lw_tbl := tb8 (List.mem_of_getElem? (i := 97) rfl)
theorem coX12_121 : Cond.constant RX12 121 (327382 : Int32) ∈ lw_tbl := tb8 (List.mem_of_getElem? (i := 98) rfl)
theorem coX12_125 : Cond.constant RX12 125 (64630 : Int32) ∈ lw_tbl := tb9 (List.mem_of_getElem? (i := 210) rfl)
theorem coX12_126 : Cond.constant RX12 126 (320230 : Int32) ∈ lw_tbl := tb10 (List.mem_of_getElem? (i := 34) rfl)
theorem coX12_273 : Cond.constant RX12 273 (320962 : Int32) ∈ lw_tbl := tb9 (List.mem_of_getElem? (i := 166) rfl)
theorem coX12_390 : Cond.constant RX12 390 (337180 : Int32) ∈ lw_tbl := tb10 (List.mem_of_getElem? (i := 67) rfl)
theorem coX12_417 : Cond.constant RX12 417 (326582 : Int32) ∈ lw_tbl := tb10 (List.mem_of_getElem? (i := 172) rfl)
theorem coX12_442 : Cond.constant RX12 442 (328492 : Int32) ∈ lw_tbl := tb10 (List.mem_of_getElem? (i := 236) rfl)
theorem coJ6_265 : Cond.constant RJ6 265 (1431655765 : Int32) ∈ lw_tbl := tb7 (List.mem_of_getElem? (i := 164) rfl)
theorem coJ6_266 : Cond.constant RJ6 266 (858993459 : Int32) ∈ lw_tbl := tb7 (List.mem_of_getElem? (i := 165) rfl)
theorem coJ6_267 : Cond.constant RJ6 267 (252645135 : Int32) ∈ lw_tbl := tb7 (List.mem_of_getElem? (i := 166) rfl)
theorem in0 : Cond.instantiable (FC 0) (nF 0) ∈ lw_tbl := tb1 (List.mem_of_getElem? (i := 195) rfl)
theorem ini0 : Cond.initialized (FC 0) ∈ lw_tbl := tb1 (List.mem_of_getElem? (i := 6) rfl)
theorem in1 : Cond.instantiable (FC 1) (nF 1) ∈ lw_tbl := tb2 (List.mem_of_getElem? (i := 85) rfl)
theorem ini1 : Cond.initialized (FC 1) ∈ lw_tbl := tb1 (List.mem_of_getElem? (i := 7) rfl)
theorem in2 : Cond.instantiable (FC 2) (nF 2) ∈ lw_tbl := tb2 (List.mem_of_getElem? (i := 137) rfl)
theorem ini2 : Cond.initialized (FC 2) ∈ lw_tbl := tb1 (List.mem_of_getElem? (i := 8) rfl)
theorem in3 : Cond.instantiable (FC 3) (nF 3) ∈ lw_tbl := tb3 (List.mem_of_getElem? (i := 151) rfl)
theorem ini3 : Cond.initialized (FC 3) ∈ lw_tbl := tb1 (List.mem_of_getElem? (i := 26) rfl)
theorem in4 : Cond.instantiable (FC 4) (nF 4) ∈ lw_tbl := tb1 (List.mem_of_getElem? (i := 108) rfl)
theorem ini4 : Cond.initialized (FC 4) ∈ lw_tbl := tb1 (List.mem_of_getElem? (i := 4) rfl)
theorem in5 : Cond.instantiable (FC 5) (nF 5) ∈ lw_tbl := tb2 (List.mem_of_getElem? (i := 182) rfl)
theorem ini5 : Cond.initialized (FC 5) ∈ lw_tbl := tb1 (List.mem_of_getElem? (i := 9) rfl)
theorem in6 : Cond.instantiable (FC 6) (nF 6) ∈ lw_tbl := tb1 (List.mem_of_getElem? (i := 180) rfl)
theorem ini6 : Cond.initialized (FC 6) ∈ lw_tbl := tb1 (List.mem_of_getElem? (i := 5) rfl)
theorem in7 : Cond.instantiable (FC 7) (nF 7) ∈ lw_tbl := tb3 (List.mem_of_getElem? (i := 220) rfl)
theorem ini7 : Cond.initialized (FC 7) ∈ lw_tbl := tb1 (List.mem_of_getElem? (i := 24) rfl)
theorem in8 : Cond.instantiable (FC 8) (nF 8) ∈ lw_tbl := tb1 (List.mem_of_getElem? (i := 44) rfl)
theorem ini8 : Cond.initialized (FC 8) ∈ lw_tbl := tb1 (List.mem_of_getElem? (i := 3) rfl)
theorem in9 : Cond.instantiable (FC 9) (nF 9) ∈ lw_tbl := tb1 (List.mem_of_getElem? (i := 38) rfl)
theorem ini9 : Cond.initialized (FC 9) ∈ lw_tbl := tb1 (List.mem_of_getElem? (i := 2) rfl)
theorem in10 : Cond.instantiable (FC 10) (nF 10) ∈ lw_tbl := tb1 (List.mem_of_getElem? (i := 30) rfl)
theorem ini10 : Cond.initialized (FC 10) ∈ lw_tbl := tb1 (List.mem_of_getElem? (i := 1) rfl)
theorem in11 : Cond.instantiable (FC 11) (nF 11) ∈ lw_tbl := tb8 (List.mem_of_getElem? (i := 92) rfl)
theorem ini11 : Cond.initialized (FC 11) ∈ lw_tbl := tb1 (List.mem_of_getElem? (i := 10) rfl)
theorem ac_int : Cond.arrayClass .int ∈ lw_tbl := tb1 (List.mem_of_getElem? (i := 85) rfl)
theorem ac_byte : Cond.arrayClass .byte ∈ lw_tbl := tb1 (List.mem_of_getElem? (i := 84) rfl)
theorem ac_boolean : Cond.arrayClass .boolean ∈ lw_tbl := tb1 (List.mem_of_getElem? (i := 86) rfl)
theorem ac_long : Cond.arrayClass .long ∈ lw_tbl := tb11 (List.mem_of_getElem? (i := 63) rfl)
theorem ob_i : Cond.instanceMethod Lib.objectInit ∈ lw_tbl := tb1 (List.mem_of_getElem? (i := 35) rfl)
theorem ob_c : Cond.code Lib.objectInit ⟨#[0xb1]⟩ 1 none ∈ lw_tbl := tb1 (List.mem_of_getElem? (i := 36) rfl)
theorem ma_max : Cond.static Lib.Math.max.name ∈ lw_tbl ∧ Cond.initialized "java/lang/Math" ∈ lw_tbl ∧ Cond.code Lib.Math.max.name Lib.Math.max.code 2 (some .int) ∈ lw_tbl := ⟨tb3 (List.mem_of_getElem? (i := 103) rfl), tb1 (List.mem_of_getElem? (i := 18) rfl), tb3 (List.mem_of_getElem? (i := 104) rfl)⟩
theorem ma_min : Cond.static Lib.Math.min.name ∈ lw_tbl ∧ Cond.initialized "java/lang/Math" ∈ lw_tbl ∧ Cond.code Lib.Math.min.name Lib.Math.min.code 2 (some .int) ∈ lw_tbl := ⟨tb3 (List.mem_of_getElem? (i := 111) rfl), tb1 (List.mem_of_getElem? (i := 18) rfl), tb3 (List.mem_of_getElem? (i := 112) rfl)⟩
theorem cp_w : Cond.native arraycopyName ∈ lw_tbl ∧ Cond.static arraycopyName ∈ lw_tbl ∧ Cond.initialized "java/lang/System" ∈ lw_tbl := ⟨tb3 (List.mem_of_getElem? (i := 141) rfl), tb3 (List.mem_of_getElem? (i := 140) rfl), tb1 (List.mem_of_getElem? (i := 23) rfl)⟩
set_option maxRecDepth 100000 in
theorem th_86 : thr RX11 86 1 ["java/lang/RuntimeException", "java/lang/Exception"] := ⟨by decide +kernel, by decide +kernel, by decide +kernel, tb1 (List.mem_of_getElem? (i := 14) rfl), by decide⟩
set_option maxRecDepth 100000 in
theorem th_89 : thr RX11 89 2 ["java/lang/RuntimeException", "java/lang/Exception"] := ⟨by decide +kernel, by decide +kernel, by decide +kernel, tb1 (List.mem_of_getElem? (i := 15) rfl), by decide⟩
set_option maxRecDepth 100000 in
theorem th_112 : thr RX11 112 3 ["java/lang/RuntimeException", "java/lang/Exception"] := ⟨by decide +kernel, by decide +kernel, by decide +kernel, tb1 (List.mem_of_getElem? (i := 17) rfl), by decide⟩
set_option maxRecDepth 100000 in
theorem th_174 : thr RX11 174 4 ["java/lang/RuntimeException", "java/lang/Exception"] := ⟨by decide +kernel, by decide +kernel, by decide +kernel, tb1 (List.mem_of_getElem? (i := 25) rfl), by decide⟩
set_option maxRecDepth 100000 in
theorem th_324 : thr RX11 324 5 ["java/lang/RuntimeException", "java/lang/Exception"] := ⟨by decide +kernel, by decide +kernel, by decide +kernel, tb1 (List.mem_of_getElem? (i := 27) rfl), by decide⟩
